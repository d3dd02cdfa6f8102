theorem d_Machine_mix_53 : decode prog_7_method_17_code 53 = .ok (.iload 5, 2) := by decide +kernel
theorem d_Machine_mix_55 : decode prog_7_method_17_code 55 = .ok (.i2l, 1) := by decide +kernel
theorem d_Machine_mix_56 : decode prog_7_method_17_code 56 = .ok (.lload_n 1, 1) := by decide +kernel
theorem d_Machine_mix_57 : decode prog_7_method_17_code 57 = .ok (.lcmp, 1) := by decide +kernel
theorem d_Machine_mix_58 : decode prog_7_method_17_code 58 = .ok (.ifCond .ge 33, 3) := by decide +kernel
theorem d_Machine_mix_91 : decode prog_7_method_17_code 91 = .ok (.aload_n 0, 1) := by decide +kernel
theorem d_Machine_mix_92 : decode prog_7_method_17_code 92 = .ok (.getfield 18, 3) := by decide +kernel
theorem d_Machine_mix_95 : decode prog_7_method_17_code 95 = .ok (.iconst 0, 1) := by decide +kernel
theorem d_Machine_mix_96 : decode prog_7_method_17_code 96 = .ok (.iload 4, 2) := by decide +kernel
theorem d_Machine_mix_98 : decode prog_7_method_17_code 98 = .ok (.i2l, 1) := by decide +kernel
theorem d_Machine_mix_99 : decode prog_7_method_17_code 99 = .ok (.ldc2_w 184, 3) := by decide +kernel
theorem d_Machine_mix_102 : decode prog_7_method_17_code 102 = .ok (.land, 1) := by decide +kernel
theorem d_Machine_mix_103 : decode prog_7_method_17_code 103 = .ok (.lastore, 1) := by decide +kernel
theorem d_Machine_mix_104 : decode prog_7_method_17_code 104 = .ok (.iconst 1, 1) := by decide +kernel
theorem d_Machine_mix_105 : decode prog_7_method_17_code 105 = .ok (.ireturn, 1) := by decide +kernel
theorem d_Machine_mix_61 : decode prog_7_method_17_code 61 = .ok (.bipush 31, 2) := by decide +kernel
theorem d_Machine_mix_63 : decode prog_7_method_17_code 63 = .ok (.iload 4, 2) := by decide +kernel
theorem d_Machine_mix_65 : decode prog_7_method_17_code 65 = .ok (.imul, 1) := by decide +kernel
theorem d_Machine_mix_66 : decode prog_7_method_17_code 66 = .ok (.aload_n 0, 1) := by decide +kernel
theorem d_Machine_mix_67 : decode prog_7_method_17_code 67 = .ok (.getfield 51, 3) := by decide +kernel
theorem d_Machine_mix_70 : decode prog_7_method_17_code 70 = .ok (.aload_n 0, 1) := by decide +kernel
theorem d_Machine_mix_71 : decode prog_7_method_17_code 71 = .ok (.getfield 64, 3) := by decide +kernel
theorem d_Machine_mix_74 : decode prog_7_method_17_code 74 = .ok (.iload 5, 2) := by decide +kernel
theorem d_Machine_mix_76 : decode prog_7_method_17_code 76 = .ok (.iadd, 1) := by decide +kernel
theorem d_Machine_mix_77 : decode prog_7_method_17_code 77 = .ok (.baload, 1) := by decide +kernel
theorem d_Machine_mix_78 : decode prog_7_method_17_code 78 = .ok (.sipush 255, 3) := by decide +kernel
theorem d_Machine_mix_81 : decode prog_7_method_17_code 81 = .ok (.iand, 1) := by decide +kernel
theorem d_Machine_mix_82 : decode prog_7_method_17_code 82 = .ok (.iadd, 1) := by decide +kernel
theorem d_Machine_mix_83 : decode prog_7_method_17_code 83 = .ok (.istore 4, 2) := by decide +kernel
theorem d_Machine_mix_85 : decode prog_7_method_17_code 85 = .ok (.iinc 5 1, 3) := by decide +kernel
theorem d_Machine_mix_88 : decode prog_7_method_17_code 88 = .ok (.goto (-35), 3) := by decide +kernel
theorem d_Machine_mix_0 : decode prog_7_method_17_code 0 = .ok (.lload_n 1, 1) := by decide +kernel
theorem d_Machine_mix_1 : decode prog_7_method_17_code 1 = .ok (.lconst 0, 1) := by decide +kernel
theorem d_Machine_mix_2 : decode prog_7_method_17_code 2 = .ok (.lcmp, 1) := by decide +kernel
theorem d_Machine_mix_3 : decode prog_7_method_17_code 3 = .ok (.ifCond .eq 32, 3) := by decide +kernel
theorem d_Machine_mix_35 : decode prog_7_method_17_code 35 = .ok (.iconst 1, 1) := by decide +kernel
theorem d_Machine_mix_36 : decode prog_7_method_17_code 36 = .ok (.goto 4, 3) := by decide +kernel
theorem d_Machine_mix_40 : decode prog_7_method_17_code 40 = .ok (.istore_n 3, 1) := by decide +kernel
theorem d_Machine_mix_41 : decode prog_7_method_17_code 41 = .ok (.iload_n 3, 1) := by decide +kernel
theorem d_Machine_mix_42 : decode prog_7_method_17_code 42 = .ok (.ifCond .ne 5, 3) := by decide +kernel
theorem d_Machine_mix_47 : decode prog_7_method_17_code 47 = .ok (.iconst 1, 1) := by decide +kernel
theorem d_Machine_mix_48 : decode prog_7_method_17_code 48 = .ok (.istore 4, 2) := by decide +kernel
theorem d_Machine_mix_50 : decode prog_7_method_17_code 50 = .ok (.iconst 0, 1) := by decide +kernel
theorem d_Machine_mix_51 : decode prog_7_method_17_code 51 = .ok (.istore 5, 2) := by decide +kernel
theorem d_Machine_mix_6 : decode prog_7_method_17_code 6 = .ok (.lload_n 1, 1) := by decide +kernel
theorem d_Machine_mix_7 : decode prog_7_method_17_code 7 = .ok (.lconst 0, 1) := by decide +kernel
theorem d_Machine_mix_8 : decode prog_7_method_17_code 8 = .ok (.lcmp, 1) := by decide +kernel
theorem d_Machine_mix_9 : decode prog_7_method_17_code 9 = .ok (.ifCond .le 30, 3) := by decide +kernel
theorem d_Machine_mix_39 : decode prog_7_method_17_code 39 = .ok (.iconst 0, 1) := by decide +kernel
theorem d_Machine_mix_45 : decode prog_7_method_17_code 45 = .ok (.iconst 0, 1) := by decide +kernel
theorem d_Machine_mix_46 : decode prog_7_method_17_code 46 = .ok (.ireturn, 1) := by decide +kernel
theorem d_Machine_mix_12 : decode prog_7_method_17_code 12 = .ok (.lload_n 1, 1) := by decide +kernel
theorem d_Machine_mix_13 : decode prog_7_method_17_code 13 = .ok (.ldc2_w 225, 3) := by decide +kernel
theorem d_Machine_mix_16 : decode prog_7_method_17_code 16 = .ok (.lcmp, 1) := by decide +kernel
theorem d_Machine_mix_17 : decode prog_7_method_17_code 17 = .ok (.ifCond .gt 22, 3) := by decide +kernel
theorem d_Machine_mix_20 : decode prog_7_method_17_code 20 = .ok (.aload_n 0, 1) := by decide +kernel
theorem d_Machine_mix_21 : decode prog_7_method_17_code 21 = .ok (.aload_n 0, 1) := by decide +kernel
theorem d_Machine_mix_22 : decode prog_7_method_17_code 22 = .ok (.getfield 18, 3) := by decide +kernel
theorem d_Machine_mix_25 : decode prog_7_method_17_code 25 = .ok (.iconst 1, 1) := by decide +kernel
theorem d_Machine_mix_26 : decode prog_7_method_17_code 26 = .ok (.laload, 1) := by decide +kernel
theorem d_Machine_mix_27 : decode prog_7_method_17_code 27 = .ok (.lload_n 1, 1) := by decide +kernel
theorem d_Machine_mix_28 : decode prog_7_method_17_code 28 = .ok (.l2i, 1) := by decide +kernel
theorem d_Machine_mix_29 : decode prog_7_method_17_code 29 = .ok (.invokevirtual 212, 3) := by decide +kernel
theorem u_1689 : Cond.methodLink "FilterGuard$Machine" 212 ⟨"FilterGuard$Machine", "locate", "(JI)Z"⟩ ∈ fg_g := fg_in (List.mem_of_getElem? (i := 1689) (by decide +kernel)) rfl
theorem u_1692 : Cond.code ⟨"FilterGuard$Machine", "locate", "(JI)Z"⟩ prog_7_method_12_code 11 (some .boolean) ∈ fg_g := fg_in (List.mem_of_getElem? (i := 1692) (by decide +kernel)) rfl
theorem u_1691 : Cond.instanceMethod ⟨"FilterGuard$Machine", "locate", "(JI)Z"⟩ ∈ fg_g := fg_in (List.mem_of_getElem? (i := 1691) (by decide +kernel)) rfl
theorem u_80 : Cond.selects "FilterGuard$Machine" ⟨"FilterGuard$Machine", "locate", "(JI)Z"⟩ ⟨"FilterGuard$Machine", "locate", "(JI)Z"⟩ ∈ fg_g := fg_in (List.mem_of_getElem? (i := 80) (by decide +kernel)) rfl
theorem d_Machine_mix_32 : decode prog_7_method_17_code 32 = .ok (.ifCond .eq 7, 3) := by decide +kernel
abbrev y_Machine_mix : MethodName := ⟨"FilterGuard$Machine", "mix", "(J)Z"⟩
def rm_Machine_mix : Room := { frames := 3, cells := 0, slots := 0, locals := 79 }
abbrev q_Machine_mix (D : va_G) (ad : Nat → Nat → Nat) (ca : Nat → ClassId) (N : Nat → Nat) (M0 MZ : me_M) (RZ : Int32) (A : Nat → Prop) : Array Value → Jvm.State → Outcome → Jvm.State → Prop := va_Qi (fun r (_ : Unit) => r = RZ ∧ me_wf N MZ ∧ me_kz M0 MZ ∧ (RZ = 1 ∨ RZ = 0)) (fg_B D A (fun _ => me_W ad ca MZ) (fun _ => [])) A
set_option maxHeartbeats 4000000 in
set_option maxRecDepth 100000 in
theorem c_Machine_mix (l : Launch) (D : va_G) (ad : Nat → Nat → Nat) (ca : Nat → ClassId) (N : Nat → Nat) (M0 MZ : me_M) (RZ : Int32) (j0 : Nat) (x1 : Int64) (h : f_Machine_mix M0 j0 x1 = (some (MZ, RZ))) (hwf : me_wf N M0) (hj0 : j0 < N 5) (sz : Nat) : Met l y_Machine_mix (fg_w y_Machine_mix prog_7_method_17_code 6 (some .boolean)) rm_Machine_mix (va_Pc [.ref (ad 5 j0), .long x1] (fz_P D (me_T ca) (me_W ad ca M0) sz)) (q_Machine_mix D ad ca N M0 MZ RZ (va_A (me_W ad ca M0) sz)) rm_Machine_mix.cells rm_Machine_mix.slots (va_A (me_W ad ca M0) sz) := by
  refine fz_enter (fun A => q_Machine_mix D ad ca N M0 MZ RZ A) (by decide +kernel) (Nat.le_of_ble_eq_true rfl) ?_
  intro p e s m below meth c ls A hx hb hml hown hts hr hlocks hin hP hK hD hS hA hX hl hz
  have hl : lv_has ls 6 [(0, .ref (ad 5 j0)), (1, .long x1)] := hl
  unfold f_Machine_mix at h
  have hkp : me_kz M0 M0 := me_kz.rf
  have hkb := hkp
  have b_53 : ∀ (fu : Nat), ∀ (M : me_M) (y4 : Int32) (y5 : Int32) (H : Heap) (locs : List Loc) (ls : Array Slot), f_Machine_mix_l53 j0 x1 fu M y4 y5 = (some (MZ, RZ)) → me_wf N M → me_kz M0 M → va_P D classes (me_W ad ca M) H → va_D A (me_W ad ca M) → va_S A s.heap H locs → lv_has ls 6 [(0, .ref (ad 5 j0)), (1, .long x1), (4, .int y4), (5, .int y5)] → W p l e rm_Machine_mix s m [.ref (ad 5 j0), .long x1].toArray below meth c H locs 0 0 (MQ below (q_Machine_mix D ad ca N M0 MZ RZ A) [.ref (ad 5 j0), .long x1].toArray s rm_Machine_mix.cells rm_Machine_mix.slots A) (F0 m 53 ls []) := by
    intro fu
    induction fu with
    | zero =>
      intro M y4 y5 H locs ls h hwf hkp hP hD hS hl
      cases h
    | succ fu ih =>
      intro M y4 y5 H locs ls h hwf hkp hP hD hS hl
      unfold f_Machine_mix_l53 at h
      have hkb := hkp
      refine lv_iload hx hb d_Machine_mix_53 (lv_at hl 3 rfl) ?_
      refine lv_i2l (v := y5.toInt64) hx hb d_Machine_mix_55 rfl ?_
      refine lv_lload_n hx hb d_Machine_mix_56 rfl (lv_at hl 1 rfl) ?_
      refine W.lcmp hx hb d_Machine_mix_57 ?_
      refine lv_if_ge (tgt := 91) hx hb d_Machine_mix_58 (by decide) (fun c1 => ?_) (fun c1 => ?_)
      · have h := if_f (Int64.not_lt.mpr ((lg_cmp_ge _ _).mp c1)) h
        refine lv_aload_n hx hb d_Machine_mix_91 rfl (lv_at hl 0 rfl) ?_
        refine g_Machine_6 hx hb hts hown hK hP hwf hj0 (hts _ u_629) d_Machine_mix_92 ?_
        obtain ⟨j2, e3, h⟩ := bd_ob h
        have hj2 : j2 < N 16 := (hwf.2.1 5 j0 6 _ e3 (by decide) hj0)
        refine me_opt (j := j2) e3 ?_
        refine lv_iconst (v := 0) hx hb d_Machine_mix_95 (by decide) ?_
        refine lv_iload hx hb d_Machine_mix_96 (lv_at hl 2 rfl) ?_
        refine lv_i2l (v := y4.toInt64) hx hb d_Machine_mix_98 rfl ?_
        refine lv_ldc2 hx hb hown (hts _ u_1672) d_Machine_mix_99 ?_
        refine lv_land hx hb d_Machine_mix_102 ?_
        obtain ⟨g4, h⟩ := gd_ob h
        obtain ⟨M5, eM5, h⟩ := st_ob h
        refine me_last (eM5.trans (by rw [show (0 : Int32).toNatClampNeg = 0 by decide])) hx hb hK hP hD hwf hS hj2 (me_in (i := (0 : Int32)) (k := 0) (by decide) (by decide) g4) d_Machine_mix_103 (fun H locs hP hD hwf hS => ?_)
        have hkp := kz_L eM5 hkp
        refine lv_iconst (v := 1) hx hb d_Machine_mix_104 (by decide) ?_
        exact me_retz (me_kz M0) h (by decide) hx hb hr hlocks hwf hkp hP hK hD hS d_Machine_mix_105
      have h := if_t (Int64.not_le.mp (fun z => c1 ((lg_cmp_ge _ _).mpr z))) h
      refine lv_bipush (v := 31) hx hb d_Machine_mix_61 (by decide) ?_
      refine lv_iload hx hb d_Machine_mix_63 (lv_at hl 2 rfl) ?_
      refine lv_imul hx hb d_Machine_mix_65 ?_
      refine lv_aload_n hx hb d_Machine_mix_66 rfl (lv_at hl 0 rfl) ?_
      refine g_Machine_18 hx hb hts hown hK hP hwf hj0 (hts _ u_650) d_Machine_mix_67 ?_
      obtain ⟨j6, e7, h⟩ := bd_ob h
      have hj6 : j6 < N 14 := (hwf.2.1 5 j0 18 _ e7 (by decide) hj0)
      refine me_opt (j := j6) e7 ?_
      refine lv_aload_n hx hb d_Machine_mix_70 rfl (lv_at hl 0 rfl) ?_
      refine g_Machine_19 hx hb hts hown hK hP hwf hj0 (hts _ u_651) d_Machine_mix_71 ?_
      refine lv_iload hx hb d_Machine_mix_74 (lv_at hl 3 rfl) ?_
      refine lv_iadd hx hb d_Machine_mix_76 ?_
      obtain ⟨g8, h⟩ := gd_ob h
      refine me_bald hx hb hK hP hwf hj6 g8 d_Machine_mix_77 ?_
      refine lv_sipush (v := 255) hx hb d_Machine_mix_78 (by decide) ?_
      refine lv_iand hx hb d_Machine_mix_81 ?_
      refine lv_iadd hx hb d_Machine_mix_82 ?_
      obtain ⟨v9, ev9, h⟩ := st_ob h
      refine fg_topi (y := v9) ev9.symm ?_
      refine lv_istore (lv' := [(4, .int v9), (0, .ref (ad 5 j0)), (1, .long x1), (5, .int y5)]) hx hb d_Machine_mix_83 hl (by decide) rfl (fun ls hl => ?_)
      refine lv_iinc (v := y5 + 1) (lv' := [(5, .int (y5 + 1)), (4, .int v9), (0, .ref (ad 5 j0)), (1, .long x1)]) hx hb d_Machine_mix_85 hl (k := 3) rfl (by rfl) (by decide) rfl (fun ls hl => ?_)
      refine lv_goto (tgt := 53) hx hb d_Machine_mix_88 (by decide) ?_
      exact ih M v9 (y5 + 1) _ _ _ h hwf hkp hP hD hS (lv_sub hl [2, 3, 1, 0] rfl)
  refine lv_lload_n hx hb d_Machine_mix_0 rfl (lv_at hl 1 rfl) ?_
  refine lv_lconst (v := 0) hx hb d_Machine_mix_1 (by decide) ?_
  refine W.lcmp hx hb d_Machine_mix_2 ?_
  refine lv_if_eq (tgt := 35) hx hb d_Machine_mix_3 (by decide) (fun c10 => ?_) (fun c10 => ?_)
  · have h := if_t ((lg_cmp_eq _ _).mp c10) h
    refine lv_iconst (v := 1) hx hb d_Machine_mix_35 (by decide) ?_
    refine lv_goto (tgt := 40) hx hb d_Machine_mix_36 (by decide) ?_
    refine lv_istore_n (lv' := [(3, .int 1), (0, .ref (ad 5 j0)), (1, .long x1)]) hx hb d_Machine_mix_40 rfl hl (by decide) rfl (fun ls hl => ?_)
    refine lv_iload_n hx hb d_Machine_mix_41 rfl (lv_at hl 0 rfl) ?_
    refine lv_if_ne (tgt := 47) hx hb d_Machine_mix_42 (by decide) (fun c11 => ?_) (fun c11 => absurd c11 (by decide))
    refine lv_iconst (v := 1) hx hb d_Machine_mix_47 (by decide) ?_
    refine lv_istore (lv' := [(4, .int 1), (3, .int 1), (0, .ref (ad 5 j0)), (1, .long x1)]) hx hb d_Machine_mix_48 hl (by decide) rfl (fun ls hl => ?_)
    refine lv_iconst (v := 0) hx hb d_Machine_mix_50 (by decide) ?_
    refine lv_istore (lv' := [(5, .int 0), (4, .int 1), (3, .int 1), (0, .ref (ad 5 j0)), (1, .long x1)]) hx hb d_Machine_mix_51 hl (by decide) rfl (fun ls hl => ?_)
    exact b_53 _ M0 (1 : Int32) (0 : Int32) _ _ _ h hwf hkp hP hD hS (lv_sub hl [3, 4, 1, 0] rfl)
  have h := if_f (fun z => c10 ((lg_cmp_eq _ _).mpr z)) h
  refine lv_lload_n hx hb d_Machine_mix_6 rfl (lv_at hl 1 rfl) ?_
  refine lv_lconst (v := 0) hx hb d_Machine_mix_7 (by decide) ?_
  refine W.lcmp hx hb d_Machine_mix_8 ?_
  refine lv_if_le (tgt := 39) hx hb d_Machine_mix_9 (by decide) (fun c12 => ?_) (fun c12 => ?_)
  · have h := if_f (Int64.not_lt.mpr ((lg_cmp_le _ _).mp c12)) h
    refine lv_iconst (v := 0) hx hb d_Machine_mix_39 (by decide) ?_
    refine lv_istore_n (lv' := [(3, .int 0), (0, .ref (ad 5 j0)), (1, .long x1)]) hx hb d_Machine_mix_40 rfl hl (by decide) rfl (fun ls hl => ?_)
    refine lv_iload_n hx hb d_Machine_mix_41 rfl (lv_at hl 0 rfl) ?_
    refine lv_if_ne (tgt := 47) hx hb d_Machine_mix_42 (by decide) (fun c13 => absurd (by decide) c13) (fun c13 => ?_)
    refine lv_iconst (v := 0) hx hb d_Machine_mix_45 (by decide) ?_
    exact me_retz (me_kz M0) h (by decide) hx hb hr hlocks hwf hkp hP hK hD hS d_Machine_mix_46
  have h := if_t (Int64.not_le.mp (fun z => c12 ((lg_cmp_le _ _).mpr z))) h
  refine lv_lload_n hx hb d_Machine_mix_12 rfl (lv_at hl 1 rfl) ?_
  refine lv_ldc2 hx hb hown (hts _ u_1688) d_Machine_mix_13 ?_
  refine W.lcmp hx hb d_Machine_mix_16 ?_
  refine lv_if_gt (tgt := 39) hx hb d_Machine_mix_17 (by decide) (fun c14 => ?_) (fun c14 => ?_)
  · have h := if_t ((lg_cmp_gt _ _).mp c14) h
    refine lv_iconst (v := 0) hx hb d_Machine_mix_39 (by decide) ?_
    refine lv_istore_n (lv' := [(3, .int 0), (0, .ref (ad 5 j0)), (1, .long x1)]) hx hb d_Machine_mix_40 rfl hl (by decide) rfl (fun ls hl => ?_)
    refine lv_iload_n hx hb d_Machine_mix_41 rfl (lv_at hl 0 rfl) ?_
    refine lv_if_ne (tgt := 47) hx hb d_Machine_mix_42 (by decide) (fun c15 => absurd (by decide) c15) (fun c15 => ?_)
    refine lv_iconst (v := 0) hx hb d_Machine_mix_45 (by decide) ?_
    exact me_retz (me_kz M0) h (by decide) hx hb hr hlocks hwf hkp hP hK hD hS d_Machine_mix_46
  have h := if_f (fun z => c14 ((lg_cmp_gt _ _).mpr z)) h
  refine lv_aload_n hx hb d_Machine_mix_20 rfl (lv_at hl 0 rfl) ?_
  refine lv_aload_n hx hb d_Machine_mix_21 rfl (lv_at hl 0 rfl) ?_
  refine g_Machine_6 hx hb hts hown hK hP hwf hj0 (hts _ u_629) d_Machine_mix_22 ?_
  obtain ⟨j16, e17, h⟩ := bd_ob h
  have hj16 : j16 < N 16 := (hwf.2.1 5 j0 6 _ e17 (by decide) hj0)
  refine me_opt (j := j16) e17 ?_
  refine lv_iconst (v := 1) hx hb d_Machine_mix_25 (by decide) ?_
  obtain ⟨g18, h⟩ := gd_ob h
  refine me_lald hx hb hK hP hwf hj16 (me_in (i := (1 : Int32)) (k := 1) (by decide) (by decide) g18) d_Machine_mix_26 ?_
  refine fg_topl (y := mL M0 16 j16 1) (congrArg _ (by decide)) ?_
  refine lv_lload_n hx hb d_Machine_mix_27 rfl (lv_at hl 1 rfl) ?_
  refine lv_l2i (v := x1.toInt32) hx hb d_Machine_mix_28 rfl ?_
  obtain ⟨M19, r20, eM19, h⟩ := b2_ob h
  refine me_theni0 (M1 := M19) (me_runV (C := "FilterGuard$Machine") (As := [.long (mL M0 16 j16 1), .int x1.toInt32]) (rest := []) ⟨hx, hb, hml, hown, hts⟩ (c_Machine_locate l D ad ca N M0 M19 r20 j0 (mL M0 16 j16 1) x1.toInt32 eM19 hwf hj0 _) rfl (by show fg_nm y_Machine_locate 2; decide +kernel) u_1689 u_1691 u_80 u_190 u_1692 ⟨Nat.le_of_ble_eq_true rfl, Nat.le_of_ble_eq_true rfl⟩ hX hz hK hP hD hwf hS hA hj0 (by decide) rfl rfl rfl hl.1 (Nat.le_of_ble_eq_true rfl) d_Machine_mix_29 ⟨Nat.le_of_ble_eq_true rfl, Nat.le_of_ble_eq_true rfl⟩) hP hD hK hS hA rfl rfl (fun H locs hw hP hD hS => ?_)
  obtain ⟨hwf, hk9, zr20⟩ := hw
  have hkp := hkp.tr hk9
  refine lv_if_eq (tgt := 39) hx hb d_Machine_mix_32 (by decide) (fun c21 => ?_) (fun c21 => ?_)
  · have h := if_t c21 h
    refine lv_iconst (v := 0) hx hb d_Machine_mix_39 (by decide) ?_
    refine lv_istore_n (lv' := [(3, .int 0), (0, .ref (ad 5 j0)), (1, .long x1)]) hx hb d_Machine_mix_40 rfl hl (by decide) rfl (fun ls hl => ?_)
    refine lv_iload_n hx hb d_Machine_mix_41 rfl (lv_at hl 0 rfl) ?_
    refine lv_if_ne (tgt := 47) hx hb d_Machine_mix_42 (by decide) (fun c22 => absurd (by decide) c22) (fun c22 => ?_)
    refine lv_iconst (v := 0) hx hb d_Machine_mix_45 (by decide) ?_
    exact me_retz (me_kz M0) h (by decide) hx hb hr hlocks hwf hkp hP hK hD hS d_Machine_mix_46
  have h := if_f c21 h
  refine lv_iconst (v := 1) hx hb d_Machine_mix_35 (by decide) ?_
  refine lv_goto (tgt := 40) hx hb d_Machine_mix_36 (by decide) ?_
  refine lv_istore_n (lv' := [(3, .int 1), (0, .ref (ad 5 j0)), (1, .long x1)]) hx hb d_Machine_mix_40 rfl hl (by decide) rfl (fun ls hl => ?_)
  refine lv_iload_n hx hb d_Machine_mix_41 rfl (lv_at hl 0 rfl) ?_
  refine lv_if_ne (tgt := 47) hx hb d_Machine_mix_42 (by decide) (fun c23 => ?_) (fun c23 => absurd c23 (by decide))
  refine lv_iconst (v := 1) hx hb d_Machine_mix_47 (by decide) ?_
  refine lv_istore (lv' := [(4, .int 1), (3, .int 1), (0, .ref (ad 5 j0)), (1, .long x1)]) hx hb d_Machine_mix_48 hl (by decide) rfl (fun ls hl => ?_)
  refine lv_iconst (v := 0) hx hb d_Machine_mix_50 (by decide) ?_
  refine lv_istore (lv' := [(5, .int 0), (4, .int 1), (3, .int 1), (0, .ref (ad 5 j0)), (1, .long x1)]) hx hb d_Machine_mix_51 hl (by decide) rfl (fun ls hl => ?_)
  exact b_53 _ M19 (1 : Int32) (0 : Int32) _ _ _ h hwf hkp hP hD hS (lv_sub hl [3, 4, 1, 0] rfl)
theorem d_Store_delete_0 : decode prog_12_method_6_code 0 = .ok (.aload_n 0, 1) := by decide +kernel
theorem d_Store_delete_1 : decode prog_12_method_6_code 1 = .ok (.getfield 11, 3) := by decide +kernel
theorem d_Store_delete_4 : decode prog_12_method_6_code 4 = .ok (.ifCond .eq 12, 3) := by decide +kernel
theorem d_Store_delete_16 : decode prog_12_method_6_code 16 = .ok (.iconst (-1), 1) := by decide +kernel
theorem d_Store_delete_17 : decode prog_12_method_6_code 17 = .ok (.istore_n 3, 1) := by decide +kernel
theorem d_Store_delete_18 : decode prog_12_method_6_code 18 = .ok (.iload_n 3, 1) := by decide +kernel
theorem d_Store_delete_19 : decode prog_12_method_6_code 19 = .ok (.iconst (-1), 1) := by decide +kernel
theorem d_Store_delete_20 : decode prog_12_method_6_code 20 = .ok (.if_icmp .ne 5, 3) := by decide +kernel
theorem d_Store_delete_23 : decode prog_12_method_6_code 23 = .ok (.iconst (-1), 1) := by decide +kernel
theorem d_Store_delete_24 : decode prog_12_method_6_code 24 = .ok (.ireturn, 1) := by decide +kernel
theorem d_Store_delete_7 : decode prog_12_method_6_code 7 = .ok (.aload_n 0, 1) := by decide +kernel
theorem d_Store_delete_8 : decode prog_12_method_6_code 8 = .ok (.aload_n 1, 1) := by decide +kernel
theorem d_Store_delete_9 : decode prog_12_method_6_code 9 = .ok (.iload_n 2, 1) := by decide +kernel
theorem d_Store_delete_10 : decode prog_12_method_6_code 10 = .ok (.invokevirtual 40, 3) := by decide +kernel
theorem d_Store_delete_13 : decode prog_12_method_6_code 13 = .ok (.goto 4, 3) := by decide +kernel
theorem d_Store_delete_25 : decode prog_12_method_6_code 25 = .ok (.aload_n 0, 1) := by decide +kernel
theorem d_Store_delete_26 : decode prog_12_method_6_code 26 = .ok (.getfield 32, 3) := by decide +kernel
theorem d_Store_delete_29 : decode prog_12_method_6_code 29 = .ok (.iload_n 3, 1) := by decide +kernel
theorem d_Store_delete_30 : decode prog_12_method_6_code 30 = .ok (.iconst 0, 1) := by decide +kernel
theorem d_Store_delete_31 : decode prog_12_method_6_code 31 = .ok (.bastore, 1) := by decide +kernel
theorem d_Store_delete_32 : decode prog_12_method_6_code 32 = .ok (.iconst 0, 1) := by decide +kernel
theorem d_Store_delete_33 : decode prog_12_method_6_code 33 = .ok (.ireturn, 1) := by decide +kernel
abbrev y_Store_delete : MethodName := ⟨"FilterGuard$Store", "delete", "([BI)I"⟩
def rm_Store_delete : Room := { frames := 3, cells := 0, slots := 0, locals := 69 }
abbrev q_Store_delete (D : va_G) (ad : Nat → Nat → Nat) (ca : Nat → ClassId) (N : Nat → Nat) (M0 MZ : me_M) (RZ : Int32) (A : Nat → Prop) : Array Value → Jvm.State → Outcome → Jvm.State → Prop := va_Qi (fun r (_ : Unit) => r = RZ ∧ me_wf N MZ ∧ me_kp M0 MZ) (fg_B D A (fun _ => me_W ad ca MZ) (fun _ => [])) A
set_option maxHeartbeats 4000000 in
set_option maxRecDepth 100000 in
theorem c_Store_delete (l : Launch) (D : va_G) (ad : Nat → Nat → Nat) (ca : Nat → ClassId) (N : Nat → Nat) (M0 MZ : me_M) (RZ : Int32) (j0 : Nat) (j1 : Nat) (x2 : Int32) (h : f_Store_delete M0 j0 j1 x2 = (some (MZ, RZ))) (hwf : me_wf N M0) (hj0 : j0 < N 12) (hj1 : j1 < N 14) (sz : Nat) : Met l y_Store_delete (fg_w y_Store_delete prog_12_method_6_code 4 (some .int)) rm_Store_delete (va_Pc [.ref (ad 12 j0), .ref (ad 14 j1), .int x2] (fz_P D (me_T ca) (me_W ad ca M0) sz)) (q_Store_delete D ad ca N M0 MZ RZ (va_A (me_W ad ca M0) sz)) rm_Store_delete.cells rm_Store_delete.slots (va_A (me_W ad ca M0) sz) := by
  refine fz_enter (fun A => q_Store_delete D ad ca N M0 MZ RZ A) (by decide +kernel) (Nat.le_of_ble_eq_true rfl) ?_
  intro p e s m below meth c ls A hx hb hml hown hts hr hlocks hin hP hK hD hS hA hX hl hz
  have hl : lv_has ls 4 [(0, .ref (ad 12 j0)), (1, .ref (ad 14 j1)), (2, .int x2)] := hl
  unfold f_Store_delete at h
  have hkp : me_kp M0 M0 := me_kp.rf
  have hkb := hkp
  refine lv_aload_n hx hb d_Store_delete_0 rfl (lv_at hl 0 rfl) ?_
  refine g_Store_0 hx hb hts hown hK hP hwf hj0 (hts _ u_900) d_Store_delete_1 ?_
  have z1 := (hwf.2.2.2 12 j0 0 rfl)
  refine lv_if_eq (tgt := 16) hx hb d_Store_delete_4 (by decide) (fun c2 => ?_) (fun c2 => ?_)
  · have h := if_t c2 h
    refine lv_iconst (v := (-1)) hx hb d_Store_delete_16 (by decide) ?_
    refine lv_istore_n (lv' := [(3, .int (-1)), (0, .ref (ad 12 j0)), (1, .ref (ad 14 j1)), (2, .int x2)]) hx hb d_Store_delete_17 rfl hl (by decide) rfl (fun ls hl => ?_)
    refine lv_iload_n hx hb d_Store_delete_18 rfl (lv_at hl 0 rfl) ?_
    refine lv_iconst (v := (-1)) hx hb d_Store_delete_19 (by decide) ?_
    refine lv_icmp_ne (tgt := 25) hx hb d_Store_delete_20 (by decide) (fun c3 => absurd (by decide) c3) (fun c3 => ?_)
    refine lv_iconst (v := (-1)) hx hb d_Store_delete_23 (by decide) ?_
    exact me_reti (me_kp M0) h hx hb hr hlocks hwf hkp hP hK hD hS d_Store_delete_24
  have h := if_f c2 h
  refine lv_aload_n hx hb d_Store_delete_7 rfl (lv_at hl 0 rfl) ?_
  refine lv_aload_n hx hb d_Store_delete_8 rfl (lv_at hl 1 rfl) ?_
  refine lv_iload_n hx hb d_Store_delete_9 rfl (lv_at hl 2 rfl) ?_
  obtain ⟨M4, r5, eM4, h⟩ := b2_ob h
  refine me_theni0 (M1 := M4) (me_runV (C := "FilterGuard$Store") (As := [.ref (ad 14 j1), .int x2]) (rest := []) ⟨hx, hb, hml, hown, hts⟩ (c_Store_entryOf l D ad ca N M0 M4 r5 j0 j1 x2 eM4 hwf hj0 hj1 _) rfl (by show fg_nm y_Store_entryOf 2; decide +kernel) u_1526 u_1527 u_1528 u_201 u_1529 ⟨Nat.le_of_ble_eq_true rfl, Nat.le_of_ble_eq_true rfl⟩ hX hz hK hP hD hwf hS hA hj0 (by decide) rfl rfl rfl hl.1 (Nat.le_of_ble_eq_true rfl) d_Store_delete_10 ⟨Nat.le_of_ble_eq_true rfl, Nat.le_of_ble_eq_true rfl⟩) hP hD hK hS hA rfl rfl (fun H locs hw hP hD hS => ?_)
  obtain ⟨hwf, hk9⟩ := hw
  have hkp := hkp.tr hk9
  refine lv_goto (tgt := 17) hx hb d_Store_delete_13 (by decide) ?_
  refine lv_istore_n (lv' := [(3, .int r5), (0, .ref (ad 12 j0)), (1, .ref (ad 14 j1)), (2, .int x2)]) hx hb d_Store_delete_17 rfl hl (by decide) rfl (fun ls hl => ?_)
  refine lv_iload_n hx hb d_Store_delete_18 rfl (lv_at hl 0 rfl) ?_
  refine lv_iconst (v := (-1)) hx hb d_Store_delete_19 (by decide) ?_
  refine lv_icmp_ne (tgt := 25) hx hb d_Store_delete_20 (by decide) (fun c6 => ?_) (fun c6 => ?_)
  · have h := if_f c6 h
    refine lv_aload_n hx hb d_Store_delete_25 rfl (lv_at hl 1 rfl) ?_
    refine g_Store_6 hx hb hts hown hK hP hwf hj0 (hts _ u_917) d_Store_delete_26 ?_
    obtain ⟨j7, e8, h⟩ := bd_ob h
    have hj7 : j7 < N 15 := (hwf.2.1 12 j0 6 _ (kp_r hkb hkp e8) (by decide) hj0)
    refine me_opt (j := j7) (kp_r hkb hkp e8) ?_
    refine lv_iload_n hx hb d_Store_delete_29 rfl (lv_at hl 0 rfl) ?_
    refine lv_iconst (v := 0) hx hb d_Store_delete_30 (by decide) ?_
    obtain ⟨g9, h⟩ := gd_ob h
    obtain ⟨M10, eM10, h⟩ := st_ob h
    refine me_zast eM10 hx hb hK hP hD hwf hS hj7 (kp_z hkb.z hkp.z g9) d_Store_delete_31 (fun H locs hP hD hwf hS => ?_)
    have hkp := kp_I eM10 hkp
    refine lv_iconst (v := 0) hx hb d_Store_delete_32 (by decide) ?_
    exact me_reti (me_kp M0) h hx hb hr hlocks hwf hkp hP hK hD hS d_Store_delete_33
  have h := if_t c6 h
  refine lv_iconst (v := (-1)) hx hb d_Store_delete_23 (by decide) ?_
  exact me_reti (me_kp M0) h hx hb hr hlocks hwf hkp hP hK hD hS d_Store_delete_24
theorem d_Machine_useMap_0 : decode prog_7_method_18_code 0 = .ok (.lload_n 1, 1) := by decide +kernel
theorem d_Machine_useMap_1 : decode prog_7_method_18_code 1 = .ok (.lconst 0, 1) := by decide +kernel
theorem d_Machine_useMap_2 : decode prog_7_method_18_code 2 = .ok (.lcmp, 1) := by decide +kernel
theorem d_Machine_useMap_3 : decode prog_7_method_18_code 3 = .ok (.ifCond .lt 21, 3) := by decide +kernel
theorem d_Machine_useMap_24 : decode prog_7_method_18_code 24 = .ok (.iconst 0, 1) := by decide +kernel
theorem d_Machine_useMap_25 : decode prog_7_method_18_code 25 = .ok (.ireturn, 1) := by decide +kernel
theorem d_Machine_useMap_6 : decode prog_7_method_18_code 6 = .ok (.lload_n 1, 1) := by decide +kernel
theorem d_Machine_useMap_7 : decode prog_7_method_18_code 7 = .ok (.ldc2_w 258, 3) := by decide +kernel
theorem u_1707 : Cond.constantLong "FilterGuard$Machine" 258 4 ∈ fg_g := fg_in (List.mem_of_getElem? (i := 1707) (by decide +kernel)) rfl
theorem d_Machine_useMap_10 : decode prog_7_method_18_code 10 = .ok (.lcmp, 1) := by decide +kernel
theorem d_Machine_useMap_11 : decode prog_7_method_18_code 11 = .ok (.ifCond .ge 13, 3) := by decide +kernel
theorem d_Machine_useMap_14 : decode prog_7_method_18_code 14 = .ok (.aload_n 0, 1) := by decide +kernel
theorem d_Machine_useMap_15 : decode prog_7_method_18_code 15 = .ok (.getfield 35, 3) := by decide +kernel
theorem d_Machine_useMap_18 : decode prog_7_method_18_code 18 = .ok (.lload_n 1, 1) := by decide +kernel
theorem d_Machine_useMap_19 : decode prog_7_method_18_code 19 = .ok (.l2i, 1) := by decide +kernel
theorem d_Machine_useMap_20 : decode prog_7_method_18_code 20 = .ok (.aaload, 1) := by decide +kernel
theorem d_Machine_useMap_21 : decode prog_7_method_18_code 21 = .ok (.ifnonnull 5, 3) := by decide +kernel
theorem d_Machine_useMap_26 : decode prog_7_method_18_code 26 = .ok (.aload_n 0, 1) := by decide +kernel
theorem d_Machine_useMap_27 : decode prog_7_method_18_code 27 = .ok (.getfield 35, 3) := by decide +kernel
theorem d_Machine_useMap_30 : decode prog_7_method_18_code 30 = .ok (.lload_n 1, 1) := by decide +kernel
theorem d_Machine_useMap_31 : decode prog_7_method_18_code 31 = .ok (.l2i, 1) := by decide +kernel
theorem d_Machine_useMap_32 : decode prog_7_method_18_code 32 = .ok (.aaload, 1) := by decide +kernel
theorem d_Machine_useMap_33 : decode prog_7_method_18_code 33 = .ok (.astore_n 3, 1) := by decide +kernel
theorem d_Machine_useMap_34 : decode prog_7_method_18_code 34 = .ok (.aload_n 0, 1) := by decide +kernel
theorem d_Machine_useMap_35 : decode prog_7_method_18_code 35 = .ok (.aload_n 0, 1) := by decide +kernel
theorem d_Machine_useMap_36 : decode prog_7_method_18_code 36 = .ok (.getfield 18, 3) := by decide +kernel
theorem d_Machine_useMap_39 : decode prog_7_method_18_code 39 = .ok (.iconst 2, 1) := by decide +kernel
theorem d_Machine_useMap_40 : decode prog_7_method_18_code 40 = .ok (.laload, 1) := by decide +kernel
theorem d_Machine_useMap_41 : decode prog_7_method_18_code 41 = .ok (.aload_n 3, 1) := by decide +kernel
theorem d_Machine_useMap_42 : decode prog_7_method_18_code 42 = .ok (.getfield 260, 3) := by decide +kernel
theorem u_904 : Cond.fieldLink "FilterGuard$Machine" 260 "FilterGuard$Store" "keyBytes" "I" ∈ fg_g := fg_in (List.mem_of_getElem? (i := 904) (by decide +kernel)) rfl
theorem d_Machine_useMap_45 : decode prog_7_method_18_code 45 = .ok (.invokevirtual 212, 3) := by decide +kernel
theorem d_Machine_useMap_48 : decode prog_7_method_18_code 48 = .ok (.ifCond .ne 5, 3) := by decide +kernel
theorem d_Machine_useMap_53 : decode prog_7_method_18_code 53 = .ok (.aload_n 0, 1) := by decide +kernel
theorem d_Machine_useMap_54 : decode prog_7_method_18_code 54 = .ok (.getfield 51, 3) := by decide +kernel
theorem d_Machine_useMap_57 : decode prog_7_method_18_code 57 = .ok (.astore 4, 2) := by decide +kernel
theorem d_Machine_useMap_59 : decode prog_7_method_18_code 59 = .ok (.aload_n 0, 1) := by decide +kernel
theorem d_Machine_useMap_60 : decode prog_7_method_18_code 60 = .ok (.getfield 64, 3) := by decide +kernel
theorem d_Machine_useMap_63 : decode prog_7_method_18_code 63 = .ok (.istore 5, 2) := by decide +kernel
theorem d_Machine_useMap_65 : decode prog_7_method_18_code 65 = .ok (.aload_n 0, 1) := by decide +kernel
theorem d_Machine_useMap_66 : decode prog_7_method_18_code 66 = .ok (.getfield 48, 3) := by decide +kernel
theorem d_Machine_useMap_69 : decode prog_7_method_18_code 69 = .ok (.getfield 101, 3) := by decide +kernel
theorem u_249 : Cond.fieldLink "FilterGuard$Machine" 101 "FilterGuard$Code" "field" "I" ∈ fg_g := fg_in (List.mem_of_getElem? (i := 249) (by decide +kernel)) rfl
theorem d_Machine_useMap_72 : decode prog_7_method_18_code 72 = .ok (.iconst 1, 1) := by decide +kernel
theorem d_Machine_useMap_73 : decode prog_7_method_18_code 73 = .ok (.if_icmp .ne 49, 3) := by decide +kernel
theorem d_Machine_useMap_122 : decode prog_7_method_18_code 122 = .ok (.aload_n 0, 1) := by decide +kernel
theorem d_Machine_useMap_123 : decode prog_7_method_18_code 123 = .ok (.getfield 48, 3) := by decide +kernel
theorem d_Machine_useMap_126 : decode prog_7_method_18_code 126 = .ok (.getfield 101, 3) := by decide +kernel
theorem d_Machine_useMap_129 : decode prog_7_method_18_code 129 = .ok (.iconst 3, 1) := by decide +kernel
theorem d_Machine_useMap_130 : decode prog_7_method_18_code 130 = .ok (.if_icmp .ne 21, 3) := by decide +kernel
theorem d_Machine_useMap_151 : decode prog_7_method_18_code 151 = .ok (.aload_n 0, 1) := by decide +kernel
theorem d_Machine_useMap_152 : decode prog_7_method_18_code 152 = .ok (.aload_n 0, 1) := by decide +kernel
theorem d_Machine_useMap_153 : decode prog_7_method_18_code 153 = .ok (.getfield 18, 3) := by decide +kernel
theorem d_Machine_useMap_156 : decode prog_7_method_18_code 156 = .ok (.iconst 3, 1) := by decide +kernel
theorem d_Machine_useMap_157 : decode prog_7_method_18_code 157 = .ok (.laload, 1) := by decide +kernel
theorem d_Machine_useMap_158 : decode prog_7_method_18_code 158 = .ok (.aload_n 3, 1) := by decide +kernel
theorem d_Machine_useMap_159 : decode prog_7_method_18_code 159 = .ok (.getfield 238, 3) := by decide +kernel
theorem d_Machine_useMap_162 : decode prog_7_method_18_code 162 = .ok (.invokevirtual 212, 3) := by decide +kernel
theorem d_Machine_useMap_165 : decode prog_7_method_18_code 165 = .ok (.ifCond .ne 5, 3) := by decide +kernel
theorem d_Machine_useMap_170 : decode prog_7_method_18_code 170 = .ok (.aload_n 0, 1) := by decide +kernel
theorem d_Machine_useMap_171 : decode prog_7_method_18_code 171 = .ok (.getfield 18, 3) := by decide +kernel
theorem d_Machine_useMap_174 : decode prog_7_method_18_code 174 = .ok (.iconst 0, 1) := by decide +kernel
theorem d_Machine_useMap_175 : decode prog_7_method_18_code 175 = .ok (.aload_n 3, 1) := by decide +kernel
theorem d_Machine_useMap_176 : decode prog_7_method_18_code 176 = .ok (.aload 4, 2) := by decide +kernel
theorem d_Machine_useMap_178 : decode prog_7_method_18_code 178 = .ok (.iload 5, 2) := by decide +kernel
theorem d_Machine_useMap_180 : decode prog_7_method_18_code 180 = .ok (.aload_n 0, 1) := by decide +kernel
theorem d_Machine_useMap_181 : decode prog_7_method_18_code 181 = .ok (.getfield 51, 3) := by decide +kernel
theorem d_Machine_useMap_184 : decode prog_7_method_18_code 184 = .ok (.aload_n 0, 1) := by decide +kernel
theorem d_Machine_useMap_185 : decode prog_7_method_18_code 185 = .ok (.getfield 64, 3) := by decide +kernel
theorem d_Machine_useMap_188 : decode prog_7_method_18_code 188 = .ok (.invokevirtual 270, 3) := by decide +kernel
theorem u_1713 : Cond.methodLink "FilterGuard$Machine" 270 ⟨"FilterGuard$Store", "update", "([BI[BI)I"⟩ ∈ fg_g := fg_in (List.mem_of_getElem? (i := 1713) (by decide +kernel)) rfl
theorem d_Machine_useMap_191 : decode prog_7_method_18_code 191 = .ok (.i2l, 1) := by decide +kernel
theorem d_Machine_useMap_192 : decode prog_7_method_18_code 192 = .ok (.lastore, 1) := by decide +kernel
theorem d_Machine_useMap_193 : decode prog_7_method_18_code 193 = .ok (.iconst 1, 1) := by decide +kernel
theorem d_Machine_useMap_194 : decode prog_7_method_18_code 194 = .ok (.ireturn, 1) := by decide +kernel
theorem d_Machine_useMap_168 : decode prog_7_method_18_code 168 = .ok (.iconst 0, 1) := by decide +kernel
theorem d_Machine_useMap_169 : decode prog_7_method_18_code 169 = .ok (.ireturn, 1) := by decide +kernel
theorem d_Machine_useMap_133 : decode prog_7_method_18_code 133 = .ok (.aload_n 0, 1) := by decide +kernel
theorem d_Machine_useMap_134 : decode prog_7_method_18_code 134 = .ok (.getfield 18, 3) := by decide +kernel
theorem d_Machine_useMap_137 : decode prog_7_method_18_code 137 = .ok (.iconst 0, 1) := by decide +kernel
theorem d_Machine_useMap_138 : decode prog_7_method_18_code 138 = .ok (.aload_n 3, 1) := by decide +kernel
theorem d_Machine_useMap_139 : decode prog_7_method_18_code 139 = .ok (.aload 4, 2) := by decide +kernel
theorem d_Machine_useMap_141 : decode prog_7_method_18_code 141 = .ok (.iload 5, 2) := by decide +kernel
theorem d_Machine_useMap_143 : decode prog_7_method_18_code 143 = .ok (.invokevirtual 267, 3) := by decide +kernel
theorem u_1709 : Cond.methodLink "FilterGuard$Machine" 267 ⟨"FilterGuard$Store", "delete", "([BI)I"⟩ ∈ fg_g := fg_in (List.mem_of_getElem? (i := 1709) (by decide +kernel)) rfl
theorem u_1712 : Cond.code ⟨"FilterGuard$Store", "delete", "([BI)I"⟩ prog_12_method_6_code 4 (some .int) ∈ fg_g := fg_in (List.mem_of_getElem? (i := 1712) (by decide +kernel)) rfl
theorem u_1710 : Cond.instanceMethod ⟨"FilterGuard$Store", "delete", "([BI)I"⟩ ∈ fg_g := fg_in (List.mem_of_getElem? (i := 1710) (by decide +kernel)) rfl
theorem u_1711 : Cond.selects "FilterGuard$Store" ⟨"FilterGuard$Store", "delete", "([BI)I"⟩ ⟨"FilterGuard$Store", "delete", "([BI)I"⟩ ∈ fg_g := fg_in (List.mem_of_getElem? (i := 1711) (by decide +kernel)) rfl
theorem d_Machine_useMap_146 : decode prog_7_method_18_code 146 = .ok (.i2l, 1) := by decide +kernel
theorem d_Machine_useMap_147 : decode prog_7_method_18_code 147 = .ok (.lastore, 1) := by decide +kernel
theorem d_Machine_useMap_148 : decode prog_7_method_18_code 148 = .ok (.goto 45, 3) := by decide +kernel
theorem d_Machine_useMap_76 : decode prog_7_method_18_code 76 = .ok (.aload_n 3, 1) := by decide +kernel
theorem d_Machine_useMap_77 : decode prog_7_method_18_code 77 = .ok (.aload 4, 2) := by decide +kernel
theorem d_Machine_useMap_79 : decode prog_7_method_18_code 79 = .ok (.iload 5, 2) := by decide +kernel
theorem d_Machine_useMap_81 : decode prog_7_method_18_code 81 = .ok (.invokevirtual 263, 3) := by decide +kernel
theorem u_1708 : Cond.methodLink "FilterGuard$Machine" 263 ⟨"FilterGuard$Store", "entryOf", "([BI)I"⟩ ∈ fg_g := fg_in (List.mem_of_getElem? (i := 1708) (by decide +kernel)) rfl
theorem d_Machine_useMap_84 : decode prog_7_method_18_code 84 = .ok (.i2l, 1) := by decide +kernel
theorem d_Machine_useMap_85 : decode prog_7_method_18_code 85 = .ok (.lstore 6, 2) := by decide +kernel
theorem d_Machine_useMap_87 : decode prog_7_method_18_code 87 = .ok (.aload_n 0, 1) := by decide +kernel
theorem d_Machine_useMap_88 : decode prog_7_method_18_code 88 = .ok (.getfield 18, 3) := by decide +kernel
theorem d_Machine_useMap_91 : decode prog_7_method_18_code 91 = .ok (.iconst 0, 1) := by decide +kernel
theorem d_Machine_useMap_92 : decode prog_7_method_18_code 92 = .ok (.lload 6, 2) := by decide +kernel
theorem d_Machine_useMap_94 : decode prog_7_method_18_code 94 = .ok (.ldc2_w 199, 3) := by decide +kernel
theorem d_Machine_useMap_97 : decode prog_7_method_18_code 97 = .ok (.lcmp, 1) := by decide +kernel
theorem d_Machine_useMap_98 : decode prog_7_method_18_code 98 = .ok (.ifCond .ne 7, 3) := by decide +kernel
theorem d_Machine_useMap_105 : decode prog_7_method_18_code 105 = .ok (.iconst 4, 1) := by decide +kernel
theorem d_Machine_useMap_106 : decode prog_7_method_18_code 106 = .ok (.lload_n 1, 1) := by decide +kernel
theorem d_Machine_useMap_107 : decode prog_7_method_18_code 107 = .ok (.l2i, 1) := by decide +kernel
theorem d_Machine_useMap_108 : decode prog_7_method_18_code 108 = .ok (.iadd, 1) := by decide +kernel
theorem d_Machine_useMap_109 : decode prog_7_method_18_code 109 = .ok (.invokestatic 123, 3) := by decide +kernel
theorem d_Machine_useMap_112 : decode prog_7_method_18_code 112 = .ok (.lload 6, 2) := by decide +kernel
theorem d_Machine_useMap_114 : decode prog_7_method_18_code 114 = .ok (.bipush 20, 2) := by decide +kernel
theorem d_Machine_useMap_116 : decode prog_7_method_18_code 116 = .ok (.lshl, 1) := by decide +kernel
theorem d_Machine_useMap_117 : decode prog_7_method_18_code 117 = .ok (.ladd, 1) := by decide +kernel
theorem d_Machine_useMap_118 : decode prog_7_method_18_code 118 = .ok (.lastore, 1) := by decide +kernel
theorem d_Machine_useMap_119 : decode prog_7_method_18_code 119 = .ok (.goto 74, 3) := by decide +kernel
theorem d_Machine_useMap_101 : decode prog_7_method_18_code 101 = .ok (.lconst 0, 1) := by decide +kernel
theorem d_Machine_useMap_102 : decode prog_7_method_18_code 102 = .ok (.goto 16, 3) := by decide +kernel
theorem d_Machine_useMap_51 : decode prog_7_method_18_code 51 = .ok (.iconst 0, 1) := by decide +kernel
theorem d_Machine_useMap_52 : decode prog_7_method_18_code 52 = .ok (.ireturn, 1) := by decide +kernel
abbrev y_Machine_useMap : MethodName := ⟨"FilterGuard$Machine", "useMap", "(J)Z"⟩
def rm_Machine_useMap : Room := { frames := 4, cells := 0, slots := 0, locals := 94 }
abbrev q_Machine_useMap (D : va_G) (ad : Nat → Nat → Nat) (ca : Nat → ClassId) (N : Nat → Nat) (M0 MZ : me_M) (RZ : Int32) (A : Nat → Prop) : Array Value → Jvm.State → Outcome → Jvm.State → Prop := va_Qi (fun r (_ : Unit) => r = RZ ∧ me_wf N MZ ∧ me_kz M0 MZ ∧ (RZ = 1 ∨ RZ = 0)) (fg_B D A (fun _ => me_W ad ca MZ) (fun _ => [])) A
set_option maxHeartbeats 4000000 in
set_option maxRecDepth 100000 in
theorem c_Machine_useMap (l : Launch) (D : va_G) (ad : Nat → Nat → Nat) (ca : Nat → ClassId) (N : Nat → Nat) (M0 MZ : me_M) (RZ : Int32) (j0 : Nat) (x1 : Int64) (h : f_Machine_useMap M0 j0 x1 = (some (MZ, RZ))) (hwf : me_wf N M0) (hj0 : j0 < N 5) (sz : Nat) : Met l y_Machine_useMap (fg_w y_Machine_useMap prog_7_method_18_code 8 (some .boolean)) rm_Machine_useMap (va_Pc [.ref (ad 5 j0), .long x1] (fz_P D (me_T ca) (me_W ad ca M0) sz)) (q_Machine_useMap D ad ca N M0 MZ RZ (va_A (me_W ad ca M0) sz)) rm_Machine_useMap.cells rm_Machine_useMap.slots (va_A (me_W ad ca M0) sz) := by
  refine fz_enter (fun A => q_Machine_useMap D ad ca N M0 MZ RZ A) (by decide +kernel) (Nat.le_of_ble_eq_true rfl) ?_
  intro p e s m below meth c ls A hx hb hml hown hts hr hlocks hin hP hK hD hS hA hX hl hz
  have hl : lv_has ls 8 [(0, .ref (ad 5 j0)), (1, .long x1)] := hl
  unfold f_Machine_useMap at h
  have hkp : me_kz M0 M0 := me_kz.rf
  have hkb := hkp
  refine lv_lload_n hx hb d_Machine_useMap_0 rfl (lv_at hl 1 rfl) ?_
  refine lv_lconst (v := 0) hx hb d_Machine_useMap_1 (by decide) ?_
  refine W.lcmp hx hb d_Machine_useMap_2 ?_
  refine lv_if_lt (tgt := 24) hx hb d_Machine_useMap_3 (by decide) (fun c1 => ?_) (fun c1 => ?_)
  · have h := if_t ((lg_cmp_lt _ _).mp c1) h
    refine lv_iconst (v := 0) hx hb d_Machine_useMap_24 (by decide) ?_
    exact me_retz (me_kz M0) h (by decide) hx hb hr hlocks hwf hkp hP hK hD hS d_Machine_useMap_25
  have h := if_f (fun z => c1 ((lg_cmp_lt _ _).mpr z)) h
  refine lv_lload_n hx hb d_Machine_useMap_6 rfl (lv_at hl 1 rfl) ?_
  refine lv_ldc2 hx hb hown (hts _ u_1707) d_Machine_useMap_7 ?_
  refine W.lcmp hx hb d_Machine_useMap_10 ?_
  refine lv_if_ge (tgt := 24) hx hb d_Machine_useMap_11 (by decide) (fun c2 => ?_) (fun c2 => ?_)
  · have h := if_f (Int64.not_lt.mpr ((lg_cmp_ge _ _).mp c2)) h
    refine lv_iconst (v := 0) hx hb d_Machine_useMap_24 (by decide) ?_
    exact me_retz (me_kz M0) h (by decide) hx hb hr hlocks hwf hkp hP hK hD hS d_Machine_useMap_25
  have h := if_t (Int64.not_le.mp (fun z => c2 ((lg_cmp_ge _ _).mpr z))) h
  refine lv_aload_n hx hb d_Machine_useMap_14 rfl (lv_at hl 0 rfl) ?_
  refine g_Machine_2 hx hb hts hown hK hP hwf hj0 (hts _ u_625) d_Machine_useMap_15 ?_
  obtain ⟨j3, e4, h⟩ := bd_ob h
  have hj3 : j3 < N 19 := (hwf.2.1 5 j0 2 _ e4 (by decide) hj0)
  refine me_opt (j := j3) e4 ?_
  refine lv_lload_n hx hb d_Machine_useMap_18 rfl (lv_at hl 1 rfl) ?_
  refine lv_l2i (v := x1.toInt32) hx hb d_Machine_useMap_19 rfl ?_
  obtain ⟨g5, h⟩ := gd_ob h
  refine me_aald (k := 19) (t := 12) hx hb hK hP hwf hj3 (by decide) (by decide) rfl (fun _ => rfl) g5 d_Machine_useMap_20 ?_
  rcases e7 : (mR M0 19 j3 x1.toInt32.toNatClampNeg) with _ | j6
  · have h := oc_n2 e7 h
    refine lv_ifnonnullN hx hb d_Machine_useMap_21 ?_
    refine lv_iconst (v := 0) hx hb d_Machine_useMap_24 (by decide) ?_
    exact me_retz (me_kz M0) h (by decide) hx hb hr hlocks hwf hkp hP hK hD hS d_Machine_useMap_25
  have h := oc_s2 e7 h
  refine lv_ifnonnull (tgt := 26) hx hb d_Machine_useMap_21 (by decide) ?_
  refine lv_aload_n hx hb d_Machine_useMap_26 rfl (lv_at hl 0 rfl) ?_
  refine g_Machine_2 hx hb hts hown hK hP hwf hj0 (hts _ u_625) d_Machine_useMap_27 ?_
  refine me_opt (j := j3) e4 ?_
  refine lv_lload_n hx hb d_Machine_useMap_30 rfl (lv_at hl 1 rfl) ?_
  refine lv_l2i (v := x1.toInt32) hx hb d_Machine_useMap_31 rfl ?_
  refine me_aald (k := 19) (t := 12) hx hb hK hP hwf hj3 (by decide) (by decide) rfl (fun _ => rfl) g5 d_Machine_useMap_32 ?_
  obtain ⟨j8, e9, h⟩ := bd_ob h
  have hj8 : j8 < N 12 := (hwf.2.1 19 j3 x1.toInt32.toNatClampNeg _ e9 (by decide) hj3)
  refine me_opt (j := j8) e9 ?_
  refine lv_astore_n (lv' := [(3, .ref (ad 12 j8)), (0, .ref (ad 5 j0)), (1, .long x1)]) hx hb d_Machine_useMap_33 rfl hl (by decide) rfl (fun ls hl => ?_)
  refine lv_aload_n hx hb d_Machine_useMap_34 rfl (lv_at hl 1 rfl) ?_
  refine lv_aload_n hx hb d_Machine_useMap_35 rfl (lv_at hl 1 rfl) ?_
  refine g_Machine_6 hx hb hts hown hK hP hwf hj0 (hts _ u_629) d_Machine_useMap_36 ?_
  obtain ⟨j10, e11, h⟩ := bd_ob h
  have hj10 : j10 < N 16 := (hwf.2.1 5 j0 6 _ e11 (by decide) hj0)
  refine me_opt (j := j10) e11 ?_
  refine lv_iconst (v := 2) hx hb d_Machine_useMap_39 (by decide) ?_
  obtain ⟨g12, h⟩ := gd_ob h
  refine me_lald hx hb hK hP hwf hj10 (me_in (i := (2 : Int32)) (k := 2) (by decide) (by decide) g12) d_Machine_useMap_40 ?_
  refine fg_topl (y := mL M0 16 j10 2) (congrArg _ (by decide)) ?_
  refine lv_aload_n hx hb d_Machine_useMap_41 rfl (lv_at hl 0 rfl) ?_
  refine g_Store_1 hx hb hts hown hK hP hwf hj8 (hts _ u_904) d_Machine_useMap_42 ?_
  obtain ⟨M13, r14, eM13, h⟩ := b2_ob h
  refine me_theni0 (M1 := M13) (me_runV (C := "FilterGuard$Machine") (As := [.long (mL M0 16 j10 2), .int (mI M0 12 j8 1)]) (rest := []) ⟨hx, hb, hml, hown, hts⟩ (c_Machine_locate l D ad ca N M0 M13 r14 j0 (mL M0 16 j10 2) (mI M0 12 j8 1) eM13 hwf hj0 _) rfl (by show fg_nm y_Machine_locate 2; decide +kernel) u_1689 u_1691 u_80 u_190 u_1692 ⟨Nat.le_of_ble_eq_true rfl, Nat.le_of_ble_eq_true rfl⟩ hX hz hK hP hD hwf hS hA hj0 (by decide) rfl rfl rfl hl.1 (Nat.le_of_ble_eq_true rfl) d_Machine_useMap_45 ⟨Nat.le_of_ble_eq_true rfl, Nat.le_of_ble_eq_true rfl⟩) hP hD hK hS hA rfl rfl (fun H locs hw hP hD hS => ?_)
  obtain ⟨hwf, hk9, zr14⟩ := hw
  have hkp := hkp.tr hk9
  refine lv_if_ne (tgt := 53) hx hb d_Machine_useMap_48 (by decide) (fun c15 => ?_) (fun c15 => ?_)
  · have h := if_f c15 h
    refine lv_aload_n hx hb d_Machine_useMap_53 rfl (lv_at hl 1 rfl) ?_
    refine g_Machine_18 hx hb hts hown hK hP hwf hj0 (hts _ u_650) d_Machine_useMap_54 ?_
    obtain ⟨j16, e17, h⟩ := bd_ob h
    have hj16 : j16 < N 14 := (hwf.2.1 5 j0 18 _ e17 (by decide) hj0)
    refine me_opt (j := j16) e17 ?_
    refine lv_astore (lv' := [(4, .ref (ad 14 j16)), (3, .ref (ad 12 j8)), (0, .ref (ad 5 j0)), (1, .long x1)]) hx hb d_Machine_useMap_57 hl (by decide) rfl (fun ls hl => ?_)
    refine lv_aload_n hx hb d_Machine_useMap_59 rfl (lv_at hl 2 rfl) ?_
    refine g_Machine_19 hx hb hts hown hK hP hwf hj0 (hts _ u_651) d_Machine_useMap_60 ?_
    obtain ⟨v18, ev18, h⟩ := st_ob h
    refine fg_topi (y := v18) ev18.symm ?_
    refine lv_istore (lv' := [(5, .int v18), (4, .ref (ad 14 j16)), (3, .ref (ad 12 j8)), (0, .ref (ad 5 j0)), (1, .long x1)]) hx hb d_Machine_useMap_63 hl (by decide) rfl (fun ls hl => ?_)
    refine lv_aload_n hx hb d_Machine_useMap_65 rfl (lv_at hl 3 rfl) ?_
    refine g_Machine_16 hx hb hts hown hK hP hwf hj0 (hts _ u_648) d_Machine_useMap_66 ?_
    obtain ⟨j19, e20, h⟩ := bd_ob h
    have hj19 : j19 < N 2 := (hwf.2.1 5 j0 16 _ e20 (by decide) hj0)
    refine me_opt (j := j19) e20 ?_
    refine g_Code_9 hx hb hts hown hK hP hwf hj19 (hts _ u_249) d_Machine_useMap_69 ?_
    refine lv_iconst (v := 1) hx hb d_Machine_useMap_72 (by decide) ?_
    refine lv_icmp_ne (tgt := 122) hx hb d_Machine_useMap_73 (by decide) (fun c21 => ?_) (fun c21 => ?_)
    · have h := if_f c21 h
      refine lv_aload_n hx hb d_Machine_useMap_122 rfl (lv_at hl 3 rfl) ?_
      refine g_Machine_16 hx hb hts hown hK hP hwf hj0 (hts _ u_648) d_Machine_useMap_123 ?_
      refine me_opt (j := j19) e20 ?_
      refine g_Code_9 hx hb hts hown hK hP hwf hj19 (hts _ u_249) d_Machine_useMap_126 ?_
      refine lv_iconst (v := 3) hx hb d_Machine_useMap_129 (by decide) ?_
      refine lv_icmp_ne (tgt := 151) hx hb d_Machine_useMap_130 (by decide) (fun c22 => ?_) (fun c22 => ?_)
      · have h := if_f c22 h
        refine lv_aload_n hx hb d_Machine_useMap_151 rfl (lv_at hl 3 rfl) ?_
        refine lv_aload_n hx hb d_Machine_useMap_152 rfl (lv_at hl 3 rfl) ?_
        refine g_Machine_6 hx hb hts hown hK hP hwf hj0 (hts _ u_629) d_Machine_useMap_153 ?_
        obtain ⟨j23, e24, h⟩ := bd_ob h
        have hj23 : j23 < N 16 := (hwf.2.1 5 j0 6 _ e24 (by decide) hj0)
        refine me_opt (j := j23) e24 ?_
        refine lv_iconst (v := 3) hx hb d_Machine_useMap_156 (by decide) ?_
        obtain ⟨g25, h⟩ := gd_ob h
        refine me_lald hx hb hK hP hwf hj23 (me_in (i := (3 : Int32)) (k := 3) (by decide) (by decide) (kp_c hkb hkp g25)) d_Machine_useMap_157 ?_
        refine fg_topl (y := mL M13 16 j23 3) (congrArg _ (by decide)) ?_
        refine lv_aload_n hx hb d_Machine_useMap_158 rfl (lv_at hl 2 rfl) ?_
        refine g_Store_2 hx hb hts hown hK hP hwf hj8 (hts _ u_909) d_Machine_useMap_159 ?_
        obtain ⟨M26, r27, eM26, h⟩ := b2_ob h
        refine me_theni0 (M1 := M26) (me_runV (C := "FilterGuard$Machine") (As := [.long (mL M13 16 j23 3), .int (mI M13 12 j8 2)]) (rest := []) ⟨hx, hb, hml, hown, hts⟩ (c_Machine_locate l D ad ca N M13 M26 r27 j0 (mL M13 16 j23 3) (mI M13 12 j8 2) eM26 hwf hj0 _) rfl (by show fg_nm y_Machine_locate 2; decide +kernel) u_1689 u_1691 u_80 u_190 u_1692 ⟨Nat.le_of_ble_eq_true rfl, Nat.le_of_ble_eq_true rfl⟩ hX hz hK hP hD hwf hS hA hj0 (by decide) rfl rfl rfl hl.1 (Nat.le_of_ble_eq_true rfl) d_Machine_useMap_162 ⟨Nat.le_of_ble_eq_true rfl, Nat.le_of_ble_eq_true rfl⟩) hP hD hK hS hA rfl rfl (fun H locs hw hP hD hS => ?_)
        obtain ⟨hwf, hk9, zr27⟩ := hw
        have hkp := hkp.tr hk9
        refine lv_if_ne (tgt := 170) hx hb d_Machine_useMap_165 (by decide) (fun c28 => ?_) (fun c28 => ?_)
        · have h := if_f c28 h
          refine lv_aload_n hx hb d_Machine_useMap_170 rfl (lv_at hl 3 rfl) ?_
          refine g_Machine_6 hx hb hts hown hK hP hwf hj0 (hts _ u_629) d_Machine_useMap_171 ?_
          obtain ⟨j29, e30, h⟩ := bd_ob h
          have hj29 : j29 < N 16 := (hwf.2.1 5 j0 6 _ e30 (by decide) hj0)
          refine me_opt (j := j29) e30 ?_
          refine lv_iconst (v := 0) hx hb d_Machine_useMap_174 (by decide) ?_
          refine lv_aload_n hx hb d_Machine_useMap_175 rfl (lv_at hl 2 rfl) ?_
          refine lv_aload hx hb d_Machine_useMap_176 (lv_at hl 1 rfl) ?_
          refine lv_iload hx hb d_Machine_useMap_178 (lv_at hl 0 rfl) ?_
          refine lv_aload_n hx hb d_Machine_useMap_180 rfl (lv_at hl 3 rfl) ?_
          refine g_Machine_18 hx hb hts hown hK hP hwf hj0 (hts _ u_650) d_Machine_useMap_181 ?_
          obtain ⟨j31, e32, h⟩ := bd_ob h
          have hj31 : j31 < N 14 := (hwf.2.1 5 j0 18 _ e32 (by decide) hj0)
          refine me_opt (j := j31) e32 ?_
          refine lv_aload_n hx hb d_Machine_useMap_184 rfl (lv_at hl 3 rfl) ?_
          refine g_Machine_19 hx hb hts hown hK hP hwf hj0 (hts _ u_651) d_Machine_useMap_185 ?_
          obtain ⟨M33, r34, eM33, h⟩ := b2_ob h
          refine me_theni0 (M1 := M33) (me_runV (C := "FilterGuard$Store") (As := [.ref (ad 14 j16), .int v18, .ref (ad 14 j31), .int (mI M26 5 j0 19)]) (rest := [.int 0, .ref (ad 16 j29)]) ⟨hx, hb, hml, hown, hts⟩ (c_Store_update l D ad ca N M26 M33 r34 j8 j16 v18 j31 (mI M26 5 j0 19) eM33 hwf hj8 hj16 hj31 _) rfl (by show fg_nm y_Store_update 4; decide +kernel) u_1713 u_1523 u_1524 u_201 u_1525 ⟨Nat.le_of_ble_eq_true rfl, Nat.le_of_ble_eq_true rfl⟩ hX hz hK hP hD hwf hS hA hj8 (by decide) rfl rfl rfl hl.1 (Nat.le_of_ble_eq_true rfl) d_Machine_useMap_188 ⟨Nat.le_of_ble_eq_true rfl, Nat.le_of_ble_eq_true rfl⟩) hP hD hK hS hA rfl rfl (fun H locs hw hP hD hS => ?_)
          obtain ⟨hwf, hk9⟩ := hw
          have hkp := hkp.tr hk9.z
          refine lv_i2l (v := r34.toInt64) hx hb d_Machine_useMap_191 rfl ?_
          obtain ⟨g35, h⟩ := gd_ob h
          obtain ⟨M36, eM36, h⟩ := st_ob h
          refine me_last (eM36.trans (by rw [show (0 : Int32).toNatClampNeg = 0 by decide])) hx hb hK hP hD hwf hS hj29 (me_in (i := (0 : Int32)) (k := 0) (by decide) (by decide) (kp_c hkb hkp g35)) d_Machine_useMap_192 (fun H locs hP hD hwf hS => ?_)
          have hkp := kz_L eM36 hkp
          refine lv_iconst (v := 1) hx hb d_Machine_useMap_193 (by decide) ?_
          exact me_retz (me_kz M0) h (by decide) hx hb hr hlocks hwf hkp hP hK hD hS d_Machine_useMap_194
        have h := if_t c28 h
        refine lv_iconst (v := 0) hx hb d_Machine_useMap_168 (by decide) ?_
        exact me_retz (me_kz M0) h (by decide) hx hb hr hlocks hwf hkp hP hK hD hS d_Machine_useMap_169
      have h := if_t c22 h
      refine lv_aload_n hx hb d_Machine_useMap_133 rfl (lv_at hl 3 rfl) ?_
      refine g_Machine_6 hx hb hts hown hK hP hwf hj0 (hts _ u_629) d_Machine_useMap_134 ?_
      obtain ⟨j37, e38, h⟩ := bd_ob h
      have hj37 : j37 < N 16 := (hwf.2.1 5 j0 6 _ e38 (by decide) hj0)
      refine me_opt (j := j37) e38 ?_
      refine lv_iconst (v := 0) hx hb d_Machine_useMap_137 (by decide) ?_
      refine lv_aload_n hx hb d_Machine_useMap_138 rfl (lv_at hl 2 rfl) ?_
      refine lv_aload hx hb d_Machine_useMap_139 (lv_at hl 1 rfl) ?_
      refine lv_iload hx hb d_Machine_useMap_141 (lv_at hl 0 rfl) ?_
      obtain ⟨M39, r40, eM39, h⟩ := b2_ob h
      refine me_theni0 (M1 := M39) (me_runV (C := "FilterGuard$Store") (As := [.ref (ad 14 j16), .int v18]) (rest := [.int 0, .ref (ad 16 j37)]) ⟨hx, hb, hml, hown, hts⟩ (c_Store_delete l D ad ca N M13 M39 r40 j8 j16 v18 eM39 hwf hj8 hj16 _) rfl (by show fg_nm y_Store_delete 2; decide +kernel) u_1709 u_1710 u_1711 u_201 u_1712 ⟨Nat.le_of_ble_eq_true rfl, Nat.le_of_ble_eq_true rfl⟩ hX hz hK hP hD hwf hS hA hj8 (by decide) rfl rfl rfl hl.1 (Nat.le_of_ble_eq_true rfl) d_Machine_useMap_143 ⟨Nat.le_of_ble_eq_true rfl, Nat.le_of_ble_eq_true rfl⟩) hP hD hK hS hA rfl rfl (fun H locs hw hP hD hS => ?_)
      obtain ⟨hwf, hk9⟩ := hw
      have hkp := hkp.tr hk9.z
      refine lv_i2l (v := r40.toInt64) hx hb d_Machine_useMap_146 rfl ?_
      obtain ⟨g41, h⟩ := gd_ob h
      obtain ⟨M42, eM42, h⟩ := st_ob h
      refine me_last (eM42.trans (by rw [show (0 : Int32).toNatClampNeg = 0 by decide])) hx hb hK hP hD hwf hS hj37 (me_in (i := (0 : Int32)) (k := 0) (by decide) (by decide) (kp_c hkb hkp g41)) d_Machine_useMap_147 (fun H locs hP hD hwf hS => ?_)
      have hkp := kz_L eM42 hkp
      refine lv_goto (tgt := 193) hx hb d_Machine_useMap_148 (by decide) ?_
      refine lv_iconst (v := 1) hx hb d_Machine_useMap_193 (by decide) ?_
      exact me_retz (me_kz M0) h (by decide) hx hb hr hlocks hwf hkp hP hK hD hS d_Machine_useMap_194
    have h := if_t c21 h
    refine lv_aload_n hx hb d_Machine_useMap_76 rfl (lv_at hl 2 rfl) ?_
    refine lv_aload hx hb d_Machine_useMap_77 (lv_at hl 1 rfl) ?_
    refine lv_iload hx hb d_Machine_useMap_79 (lv_at hl 0 rfl) ?_
    obtain ⟨M43, r44, eM43, h⟩ := b2_ob h
    refine me_theni0 (M1 := M43) (me_runV (C := "FilterGuard$Store") (As := [.ref (ad 14 j16), .int v18]) (rest := []) ⟨hx, hb, hml, hown, hts⟩ (c_Store_entryOf l D ad ca N M13 M43 r44 j8 j16 v18 eM43 hwf hj8 hj16 _) rfl (by show fg_nm y_Store_entryOf 2; decide +kernel) u_1708 u_1527 u_1528 u_201 u_1529 ⟨Nat.le_of_ble_eq_true rfl, Nat.le_of_ble_eq_true rfl⟩ hX hz hK hP hD hwf hS hA hj8 (by decide) rfl rfl rfl hl.1 (Nat.le_of_ble_eq_true rfl) d_Machine_useMap_81 ⟨Nat.le_of_ble_eq_true rfl, Nat.le_of_ble_eq_true rfl⟩) hP hD hK hS hA rfl rfl (fun H locs hw hP hD hS => ?_)
    obtain ⟨hwf, hk9⟩ := hw
    have hkp := hkp.tr hk9.z
    refine lv_i2l (v := r44.toInt64) hx hb d_Machine_useMap_84 rfl ?_
    obtain ⟨v45, ev45, h⟩ := st_ob h
    refine fg_topl (y := v45) ev45.symm ?_
    refine lv_lstore (lv' := [(6, .long v45), (5, .int v18), (4, .ref (ad 14 j16)), (3, .ref (ad 12 j8)), (0, .ref (ad 5 j0)), (1, .long x1)]) hx hb d_Machine_useMap_85 hl (by decide) rfl (fun ls hl => ?_)
    refine lv_aload_n hx hb d_Machine_useMap_87 rfl (lv_at hl 4 rfl) ?_
    refine g_Machine_6 hx hb hts hown hK hP hwf hj0 (hts _ u_629) d_Machine_useMap_88 ?_
    obtain ⟨j46, e47, h⟩ := bd_ob h
    have hj46 : j46 < N 16 := (hwf.2.1 5 j0 6 _ e47 (by decide) hj0)
    refine me_opt (j := j46) e47 ?_
    refine lv_iconst (v := 0) hx hb d_Machine_useMap_91 (by decide) ?_
    refine lv_lload hx hb d_Machine_useMap_92 (lv_at hl 0 rfl) ?_
    refine lv_ldc2 hx hb hown (hts _ u_1671) d_Machine_useMap_94 ?_
    refine W.lcmp hx hb d_Machine_useMap_97 ?_
    refine lv_if_ne (tgt := 105) hx hb d_Machine_useMap_98 (by decide) (fun c48 => ?_) (fun c48 => ?_)
    · have h := if_f (fun z => c48 ((lg_cmp_eq _ _).mpr z)) h
      refine lv_iconst (v := 4) hx hb d_Machine_useMap_105 (by decide) ?_
      refine lv_lload_n hx hb d_Machine_useMap_106 rfl (lv_at hl 5 rfl) ?_
      refine lv_l2i (v := x1.toInt32) hx hb d_Machine_useMap_107 rfl ?_
      refine lv_iadd hx hb d_Machine_useMap_108 ?_
      obtain ⟨r49, er49, h⟩ := bd_ob h
      refine me_panl' (r0 := r49) (fg_runSN (wc := []) (tc := []) (A2 := A) (As := [.int (4 + x1.toInt32)]) (rest := [.int 0, .ref (ad 16 j46)]) ⟨hx, hb, hml, hown, hts⟩ (c_G_baseOf l D r49 (4 + x1.toInt32) er49 _) (by show fg_nm y_G_baseOf 1; decide +kernel) o_1586 u_1587 u_181 u_1588 ⟨Nat.le_of_ble_eq_true rfl, Nat.le_of_ble_eq_true rfl⟩ hX me_P0 (hK.sub (tys' := []) [] rfl) me_D0 rfl hl.1 (Nat.le_of_ble_eq_true rfl) d_Machine_useMap_109 ⟨Nat.le_of_ble_eq_true rfl, Nat.le_of_ble_eq_true rfl⟩) hP hD hK hS hA rfl rfl (fun H locs hw hP hD hS => ?_)
      refine lv_lload hx hb d_Machine_useMap_112 (lv_at hl 0 rfl) ?_
      refine lv_bipush (v := 20) hx hb d_Machine_useMap_114 (by decide) ?_
      refine lv_lshl (v := jlshl v45 (20 : Int32)) hx hb d_Machine_useMap_116 rfl ?_
      refine lv_ladd hx hb d_Machine_useMap_117 ?_
      obtain ⟨g50, h⟩ := gd_ob h
      obtain ⟨M51, eM51, h⟩ := st_ob h
      refine me_last (eM51.trans (by rw [show (0 : Int32).toNatClampNeg = 0 by decide])) hx hb hK hP hD hwf hS hj46 (me_in (i := (0 : Int32)) (k := 0) (by decide) (by decide) (kp_c hkb hkp g50)) d_Machine_useMap_118 (fun H locs hP hD hwf hS => ?_)
      have hkp := kz_L eM51 hkp
      refine lv_goto (tgt := 193) hx hb d_Machine_useMap_119 (by decide) ?_
      refine lv_iconst (v := 1) hx hb d_Machine_useMap_193 (by decide) ?_
      exact me_retz (me_kz M0) h (by decide) hx hb hr hlocks hwf hkp hP hK hD hS d_Machine_useMap_194
    have h := if_t ((lg_cmp_eq _ _).mp c48) h
    refine lv_lconst (v := 0) hx hb d_Machine_useMap_101 (by decide) ?_
    refine lv_goto (tgt := 118) hx hb d_Machine_useMap_102 (by decide) ?_
    obtain ⟨g52, h⟩ := gd_ob h
    obtain ⟨M53, eM53, h⟩ := st_ob h
    refine me_last (eM53.trans (by rw [show (0 : Int32).toNatClampNeg = 0 by decide])) hx hb hK hP hD hwf hS hj46 (me_in (i := (0 : Int32)) (k := 0) (by decide) (by decide) (kp_c hkb hkp g52)) d_Machine_useMap_118 (fun H locs hP hD hwf hS => ?_)
    have hkp := kz_L eM53 hkp
    refine lv_goto (tgt := 193) hx hb d_Machine_useMap_119 (by decide) ?_
    refine lv_iconst (v := 1) hx hb d_Machine_useMap_193 (by decide) ?_
    exact me_retz (me_kz M0) h (by decide) hx hb hr hlocks hwf hkp hP hK hD hS d_Machine_useMap_194
  have h := if_t c15 h
  refine lv_iconst (v := 0) hx hb d_Machine_useMap_51 (by decide) ?_
  exact me_retz (me_kz M0) h (by decide) hx hb hr hlocks hwf hkp hP hK hD hS d_Machine_useMap_52
theorem d_Machine_help_0 : decode prog_7_method_16_code 0 = .ok (.aload_n 0, 1) := by decide +kernel
theorem d_Machine_help_1 : decode prog_7_method_16_code 1 = .ok (.getfield 48, 3) := by decide +kernel
theorem d_Machine_help_4 : decode prog_7_method_16_code 4 = .ok (.getfield 101, 3) := by decide +kernel
theorem d_Machine_help_7 : decode prog_7_method_16_code 7 = .ok (.tableswitch 102 4 6 #[25, 69, 91], 25) := by decide +kernel
theorem d_Machine_help_32 : decode prog_7_method_16_code 32 = .ok (.aload_n 0, 1) := by decide +kernel
theorem d_Machine_help_33 : decode prog_7_method_16_code 33 = .ok (.getfield 244, 3) := by decide +kernel
theorem u_636 : Cond.fieldLink "FilterGuard$Machine" 244 "FilterGuard$Machine" "toldCount" "I" ∈ fg_g := fg_in (List.mem_of_getElem? (i := 636) (by decide +kernel)) rfl
theorem g_Machine_10 {p : Program} {l : Launch} {e : Env} {R : Room} {s : Jvm.State} {m : MethodId} {args : Array Value} {below : List Frame} {meth : Method} {c : Code} {H : Heap} {locs : List Loc} {cells slots : Nat} {Q : Jvm.State → Prop} {cc : ByteArray} {pc : Nat} {ls : Array Slot} {rest : List Value} {D : va_G} {ad : Nat → Nat → Nat} {ca : Nat → ClassId} {M : me_M} {N : Nat → Nat} {own : String} {index j : Nat} (hexec : p.tables.exec = Jvm.exec) (hb : c.code = cc) (hts : ∀ w ∈ fg_g, w.before args s = true) (hown : s.vm.findClass own = some m.cls) (hK : va_K D classes (me_T ca) s) (hP : va_P D classes (me_W ad ca M) H) (hwf : me_wf N M) (hj : j < N 5) (hlink : (Cond.fieldLink own index "FilterGuard$Machine" "toldCount" "I").before args s = true) (hdg : decode cc pc = .ok (.getfield index, 3)) (kk : W p l e R s m args below meth c H locs cells slots Q (F0 m (pc + 3) ls (.int (mI M 5 j 10) :: rest))) : W p l e R s m args below meth c H locs cells slots Q (F0 m pc ls (.ref (ad 5 j) :: rest)) := me_get (k := 5) (f := 10) (C := "FilterGuard$Machine") (T := F_Machine) (Nf := 20) hexec hb hts i_Machine hown hK hP hwf hj (by decide) rfl (by decide) (by decide) hlink (fun _ h9 => h9) hdg kk
theorem d_Machine_help_36 : decode prog_7_method_16_code 36 = .ok (.sipush 1000, 3) := by decide +kernel
theorem d_Machine_help_39 : decode prog_7_method_16_code 39 = .ok (.if_icmp .ge 28, 3) := by decide +kernel
theorem d_Machine_help_67 : decode prog_7_method_16_code 67 = .ok (.aload_n 0, 1) := by decide +kernel
theorem d_Machine_help_68 : decode prog_7_method_16_code 68 = .ok (.getfield 18, 3) := by decide +kernel
theorem d_Machine_help_71 : decode prog_7_method_16_code 71 = .ok (.iconst 0, 1) := by decide +kernel
theorem d_Machine_help_72 : decode prog_7_method_16_code 72 = .ok (.lconst 0, 1) := by decide +kernel
theorem d_Machine_help_73 : decode prog_7_method_16_code 73 = .ok (.lastore, 1) := by decide +kernel
theorem d_Machine_help_74 : decode prog_7_method_16_code 74 = .ok (.iconst 1, 1) := by decide +kernel
theorem d_Machine_help_75 : decode prog_7_method_16_code 75 = .ok (.ireturn, 1) := by decide +kernel
theorem d_Machine_help_42 : decode prog_7_method_16_code 42 = .ok (.aload_n 0, 1) := by decide +kernel
theorem d_Machine_help_43 : decode prog_7_method_16_code 43 = .ok (.getfield 25, 3) := by decide +kernel
theorem g_Machine_9 {p : Program} {l : Launch} {e : Env} {R : Room} {s : Jvm.State} {m : MethodId} {args : Array Value} {below : List Frame} {meth : Method} {c : Code} {H : Heap} {locs : List Loc} {cells slots : Nat} {Q : Jvm.State → Prop} {cc : ByteArray} {pc : Nat} {ls : Array Slot} {rest : List Value} {D : va_G} {ad : Nat → Nat → Nat} {ca : Nat → ClassId} {M : me_M} {N : Nat → Nat} {own : String} {index j : Nat} (hexec : p.tables.exec = Jvm.exec) (hb : c.code = cc) (hts : ∀ w ∈ fg_g, w.before args s = true) (hown : s.vm.findClass own = some m.cls) (hK : va_K D classes (me_T ca) s) (hP : va_P D classes (me_W ad ca M) H) (hwf : me_wf N M) (hj : j < N 5) (hlink : (Cond.fieldLink own index "FilterGuard$Machine" "tellings" "[J").before args s = true) (hdg : decode cc pc = .ok (.getfield index, 3)) (kk : W p l e R s m args below meth c H locs cells slots Q (F0 m (pc + 3) ls (va_rf ((mR M 5 j 9).map (ad 16)) :: rest))) : W p l e R s m args below meth c H locs cells slots Q (F0 m pc ls (.ref (ad 5 j) :: rest)) := me_get (k := 5) (f := 9) (C := "FilterGuard$Machine") (T := F_Machine) (Nf := 20) hexec hb hts i_Machine hown hK hP hwf hj (by decide) rfl (by decide) (by decide) hlink (fun _ h9 => h9) hdg kk
theorem d_Machine_help_46 : decode prog_7_method_16_code 46 = .ok (.aload_n 0, 1) := by decide +kernel
theorem d_Machine_help_47 : decode prog_7_method_16_code 47 = .ok (.getfield 244, 3) := by decide +kernel
theorem d_Machine_help_50 : decode prog_7_method_16_code 50 = .ok (.aload_n 0, 1) := by decide +kernel
theorem d_Machine_help_51 : decode prog_7_method_16_code 51 = .ok (.getfield 18, 3) := by decide +kernel
theorem d_Machine_help_54 : decode prog_7_method_16_code 54 = .ok (.iconst 1, 1) := by decide +kernel
theorem d_Machine_help_55 : decode prog_7_method_16_code 55 = .ok (.laload, 1) := by decide +kernel
theorem d_Machine_help_56 : decode prog_7_method_16_code 56 = .ok (.lastore, 1) := by decide +kernel
theorem d_Machine_help_57 : decode prog_7_method_16_code 57 = .ok (.aload_n 0, 1) := by decide +kernel
theorem d_Machine_help_58 : decode prog_7_method_16_code 58 = .ok (.dup, 1) := by decide +kernel
theorem d_Machine_help_59 : decode prog_7_method_16_code 59 = .ok (.getfield 244, 3) := by decide +kernel
theorem d_Machine_help_62 : decode prog_7_method_16_code 62 = .ok (.iconst 1, 1) := by decide +kernel
theorem d_Machine_help_63 : decode prog_7_method_16_code 63 = .ok (.iadd, 1) := by decide +kernel
theorem d_Machine_help_64 : decode prog_7_method_16_code 64 = .ok (.putfield 244, 3) := by decide +kernel
theorem p_Machine_10 {p : Program} {l : Launch} {e : Env} {R : Room} {s : Jvm.State} {m : MethodId} {args : Array Value} {below : List Frame} {meth : Method} {c : Code} {H : Heap} {locs : List Loc} {cells slots : Nat} {Q : Jvm.State → Prop} {cc : ByteArray} {pc : Nat} {ls : Array Slot} {rest : List Value} {D : va_G} {A : Nat → Prop} {H0 : Heap} {ad : Nat → Nat → Nat} {ca : Nat → ClassId} {M M1 : me_M} {N : Nat → Nat} {own : String} {index j : Nat} {v : Int32} (he : M1 = wI M 5 j 10 v) (hexec : p.tables.exec = Jvm.exec) (hb : c.code = cc) (hts : ∀ w ∈ fg_g, w.before args s = true) (hown : s.vm.findClass own = some m.cls) (hK : va_K D classes (me_T ca) s) (hP : va_P D classes (me_W ad ca M) H) (hD : va_D A (me_W ad ca M)) (hwf : me_wf N M) (hS : va_S A H0 H locs) (hj : j < N 5) (hlink : (Cond.fieldLink own index "FilterGuard$Machine" "toldCount" "I").before args s = true) (hdg : decode cc pc = .ok (.putfield index, 3)) (kk : ∀ (H1 : Heap) (locs1 : List Loc), va_P D classes (me_W ad ca M1) H1 → va_D A (me_W ad ca M1) → me_wf N M1 → va_S A H0 H1 locs1 → W p l e R s m args below meth c H1 locs1 cells slots Q (F0 m (pc + 3) ls rest)) : W p l e R s m args below meth c H locs cells slots Q (F0 m pc ls (.int v :: .ref (ad 5 j) :: rest)) := by
  subst he
  exact me_put (M1 := wI M 5 j 10 v) (k := 5) (f := 10) (C := "FilterGuard$Machine") (T := F_Machine) (Nf := 20) hexec hb hts i_Machine t_Machine t_Machine_ok n_Machine hown hK hP hD hwf hS hj (by decide) rfl (by decide) (by decide) hlink (fun _ h9 => h9) rfl rfl rfl rfl (fun a b h => me_wIE h) (me_fIw (by decide) (by decide)) hdg (fun H1 locs1 a1 a2 a3 => kk H1 locs1 a1 a2 (me_wfI hwf (fun z => absurd z (by decide)) (fun z => absurd z (by decide))) a3)
theorem d_Machine_help_76 : decode prog_7_method_16_code 76 = .ok (.aload_n 0, 1) := by decide +kernel
theorem d_Machine_help_77 : decode prog_7_method_16_code 77 = .ok (.getfield 18, 3) := by decide +kernel
theorem d_Machine_help_80 : decode prog_7_method_16_code 80 = .ok (.iconst 0, 1) := by decide +kernel
theorem d_Machine_help_81 : decode prog_7_method_16_code 81 = .ok (.aload_n 0, 1) := by decide +kernel
theorem d_Machine_help_82 : decode prog_7_method_16_code 82 = .ok (.getfield 247, 3) := by decide +kernel
theorem u_639 : Cond.fieldLink "FilterGuard$Machine" 247 "FilterGuard$Machine" "time" "J" ∈ fg_g := fg_in (List.mem_of_getElem? (i := 639) (by decide +kernel)) rfl
theorem g_Machine_11 {p : Program} {l : Launch} {e : Env} {R : Room} {s : Jvm.State} {m : MethodId} {args : Array Value} {below : List Frame} {meth : Method} {c : Code} {H : Heap} {locs : List Loc} {cells slots : Nat} {Q : Jvm.State → Prop} {cc : ByteArray} {pc : Nat} {ls : Array Slot} {rest : List Value} {D : va_G} {ad : Nat → Nat → Nat} {ca : Nat → ClassId} {M : me_M} {N : Nat → Nat} {own : String} {index j : Nat} (hexec : p.tables.exec = Jvm.exec) (hb : c.code = cc) (hts : ∀ w ∈ fg_g, w.before args s = true) (hown : s.vm.findClass own = some m.cls) (hK : va_K D classes (me_T ca) s) (hP : va_P D classes (me_W ad ca M) H) (hwf : me_wf N M) (hj : j < N 5) (hlink : (Cond.fieldLink own index "FilterGuard$Machine" "time" "J").before args s = true) (hdg : decode cc pc = .ok (.getfield index, 3)) (kk : W p l e R s m args below meth c H locs cells slots Q (F0 m (pc + 3) ls (.long (mL M 5 j 11) :: rest))) : W p l e R s m args below meth c H locs cells slots Q (F0 m pc ls (.ref (ad 5 j) :: rest)) := me_get (k := 5) (f := 11) (C := "FilterGuard$Machine") (T := F_Machine) (Nf := 20) hexec hb hts i_Machine hown hK hP hwf hj (by decide) rfl (by decide) (by decide) hlink (fun _ h9 => h9) hdg kk
theorem d_Machine_help_85 : decode prog_7_method_16_code 85 = .ok (.lastore, 1) := by decide +kernel
theorem d_Machine_help_86 : decode prog_7_method_16_code 86 = .ok (.aload_n 0, 1) := by decide +kernel
theorem d_Machine_help_87 : decode prog_7_method_16_code 87 = .ok (.dup, 1) := by decide +kernel
theorem d_Machine_help_88 : decode prog_7_method_16_code 88 = .ok (.getfield 247, 3) := by decide +kernel
theorem d_Machine_help_91 : decode prog_7_method_16_code 91 = .ok (.lconst 1, 1) := by decide +kernel
theorem d_Machine_help_92 : decode prog_7_method_16_code 92 = .ok (.ladd, 1) := by decide +kernel
theorem d_Machine_help_93 : decode prog_7_method_16_code 93 = .ok (.putfield 247, 3) := by decide +kernel
theorem d_Machine_help_96 : decode prog_7_method_16_code 96 = .ok (.iconst 1, 1) := by decide +kernel
theorem d_Machine_help_97 : decode prog_7_method_16_code 97 = .ok (.ireturn, 1) := by decide +kernel
theorem d_Machine_help_98 : decode prog_7_method_16_code 98 = .ok (.aload_n 0, 1) := by decide +kernel
theorem d_Machine_help_99 : decode prog_7_method_16_code 99 = .ok (.aload_n 0, 1) := by decide +kernel
theorem d_Machine_help_100 : decode prog_7_method_16_code 100 = .ok (.getfield 18, 3) := by decide +kernel
theorem d_Machine_help_103 : decode prog_7_method_16_code 103 = .ok (.iconst 2, 1) := by decide +kernel
theorem d_Machine_help_104 : decode prog_7_method_16_code 104 = .ok (.laload, 1) := by decide +kernel
theorem d_Machine_help_105 : decode prog_7_method_16_code 105 = .ok (.invokevirtual 251, 3) := by decide +kernel
theorem u_1684 : Cond.methodLink "FilterGuard$Machine" 251 ⟨"FilterGuard$Machine", "mix", "(J)Z"⟩ ∈ fg_g := fg_in (List.mem_of_getElem? (i := 1684) (by decide +kernel)) rfl
theorem u_1687 : Cond.code ⟨"FilterGuard$Machine", "mix", "(J)Z"⟩ prog_7_method_17_code 6 (some .boolean) ∈ fg_g := fg_in (List.mem_of_getElem? (i := 1687) (by decide +kernel)) rfl
theorem u_1686 : Cond.instanceMethod ⟨"FilterGuard$Machine", "mix", "(J)Z"⟩ ∈ fg_g := fg_in (List.mem_of_getElem? (i := 1686) (by decide +kernel)) rfl
theorem u_79 : Cond.selects "FilterGuard$Machine" ⟨"FilterGuard$Machine", "mix", "(J)Z"⟩ ⟨"FilterGuard$Machine", "mix", "(J)Z"⟩ ∈ fg_g := fg_in (List.mem_of_getElem? (i := 79) (by decide +kernel)) rfl
theorem d_Machine_help_108 : decode prog_7_method_16_code 108 = .ok (.ireturn, 1) := by decide +kernel
theorem d_Machine_help_109 : decode prog_7_method_16_code 109 = .ok (.aload_n 0, 1) := by decide +kernel
theorem d_Machine_help_110 : decode prog_7_method_16_code 110 = .ok (.aload_n 0, 1) := by decide +kernel
theorem d_Machine_help_111 : decode prog_7_method_16_code 111 = .ok (.getfield 18, 3) := by decide +kernel
theorem d_Machine_help_114 : decode prog_7_method_16_code 114 = .ok (.iconst 1, 1) := by decide +kernel
theorem d_Machine_help_115 : decode prog_7_method_16_code 115 = .ok (.laload, 1) := by decide +kernel
theorem d_Machine_help_116 : decode prog_7_method_16_code 116 = .ok (.invokevirtual 255, 3) := by decide +kernel
theorem u_1703 : Cond.methodLink "FilterGuard$Machine" 255 ⟨"FilterGuard$Machine", "useMap", "(J)Z"⟩ ∈ fg_g := fg_in (List.mem_of_getElem? (i := 1703) (by decide +kernel)) rfl
theorem u_1706 : Cond.code ⟨"FilterGuard$Machine", "useMap", "(J)Z"⟩ prog_7_method_18_code 8 (some .boolean) ∈ fg_g := fg_in (List.mem_of_getElem? (i := 1706) (by decide +kernel)) rfl
theorem u_1705 : Cond.instanceMethod ⟨"FilterGuard$Machine", "useMap", "(J)Z"⟩ ∈ fg_g := fg_in (List.mem_of_getElem? (i := 1705) (by decide +kernel)) rfl
theorem u_82 : Cond.selects "FilterGuard$Machine" ⟨"FilterGuard$Machine", "useMap", "(J)Z"⟩ ⟨"FilterGuard$Machine", "useMap", "(J)Z"⟩ ∈ fg_g := fg_in (List.mem_of_getElem? (i := 82) (by decide +kernel)) rfl
theorem d_Machine_help_119 : decode prog_7_method_16_code 119 = .ok (.ireturn, 1) := by decide +kernel
abbrev y_Machine_help : MethodName := ⟨"FilterGuard$Machine", "help", "()Z"⟩
def rm_Machine_help : Room := { frames := 5, cells := 0, slots := 0, locals := 121 }
abbrev q_Machine_help (D : va_G) (ad : Nat → Nat → Nat) (ca : Nat → ClassId) (N : Nat → Nat) (M0 MZ : me_M) (RZ : Int32) (A : Nat → Prop) : Array Value → Jvm.State → Outcome → Jvm.State → Prop := va_Qi (fun r (_ : Unit) => r = RZ ∧ me_wf N MZ ∧ me_kz M0 MZ ∧ (RZ = 1 ∨ RZ = 0)) (fg_B D A (fun _ => me_W ad ca MZ) (fun _ => [])) A
set_option maxHeartbeats 4000000 in
set_option maxRecDepth 100000 in
theorem c_Machine_help (l : Launch) (D : va_G) (ad : Nat → Nat → Nat) (ca : Nat → ClassId) (N : Nat → Nat) (M0 MZ : me_M) (RZ : Int32) (j0 : Nat) (h : f_Machine_help M0 j0 = (some (MZ, RZ))) (hwf : me_wf N M0) (hj0 : j0 < N 5) (sz : Nat) : Met l y_Machine_help (fg_w y_Machine_help prog_7_method_16_code 1 (some .boolean)) rm_Machine_help (va_Pc [.ref (ad 5 j0)] (fz_P D (me_T ca) (me_W ad ca M0) sz)) (q_Machine_help D ad ca N M0 MZ RZ (va_A (me_W ad ca M0) sz)) rm_Machine_help.cells rm_Machine_help.slots (va_A (me_W ad ca M0) sz) := by
  refine fz_enter (fun A => q_Machine_help D ad ca N M0 MZ RZ A) (by decide +kernel) (Nat.le_of_ble_eq_true rfl) ?_
  intro p e s m below meth c ls A hx hb hml hown hts hr hlocks hin hP hK hD hS hA hX hl hz
  have hl : lv_has ls 1 [(0, .ref (ad 5 j0))] := hl
  unfold f_Machine_help at h
  have hkp : me_kz M0 M0 := me_kz.rf
  have hkb := hkp
  refine lv_aload_n hx hb d_Machine_help_0 rfl (lv_at hl 0 rfl) ?_
  refine g_Machine_16 hx hb hts hown hK hP hwf hj0 (hts _ u_648) d_Machine_help_1 ?_
  obtain ⟨j1, e2, h⟩ := bd_ob h
  have hj1 : j1 < N 2 := (hwf.2.1 5 j0 16 _ e2 (by decide) hj0)
  refine me_opt (j := j1) e2 ?_
  refine g_Code_9 hx hb hts hown hK hP hwf hj1 (hts _ u_249) d_Machine_help_4 ?_
  refine lv_topi (fun w3 ew3 => ?_)
  by_cases n4 : w3 = 4
  · have h := if_t (ew3.symm.trans n4) h
    subst n4
    refine lv_tableIn (off := 25) (tgt := 32) hx hb d_Machine_help_7 (by decide) (by decide) (by decide) (by decide) ?_
    refine lv_aload_n hx hb d_Machine_help_32 rfl (lv_at hl 0 rfl) ?_
    refine g_Machine_10 hx hb hts hown hK hP hwf hj0 (hts _ u_636) d_Machine_help_33 ?_
    refine lv_sipush (v := 1000) hx hb d_Machine_help_36 (by decide) ?_
    refine lv_icmp_ge (tgt := 67) hx hb d_Machine_help_39 (by decide) (fun c5 => ?_) (fun c5 => ?_)
    · have h := if_t c5 h
      refine lv_aload_n hx hb d_Machine_help_67 rfl (lv_at hl 0 rfl) ?_
      refine g_Machine_6 hx hb hts hown hK hP hwf hj0 (hts _ u_629) d_Machine_help_68 ?_
      obtain ⟨j6, e7, h⟩ := bd_ob h
      have hj6 : j6 < N 16 := (hwf.2.1 5 j0 6 _ e7 (by decide) hj0)
      refine me_opt (j := j6) e7 ?_
      refine lv_iconst (v := 0) hx hb d_Machine_help_71 (by decide) ?_
      refine lv_lconst (v := 0) hx hb d_Machine_help_72 (by decide) ?_
      obtain ⟨g8, h⟩ := gd_ob h
      obtain ⟨M9, eM9, h⟩ := st_ob h
      refine me_last (eM9.trans (by rw [show (0 : Int32).toNatClampNeg = 0 by decide])) hx hb hK hP hD hwf hS hj6 (me_in (i := (0 : Int32)) (k := 0) (by decide) (by decide) g8) d_Machine_help_73 (fun H locs hP hD hwf hS => ?_)
      have hkp := kz_L eM9 hkp
      refine lv_iconst (v := 1) hx hb d_Machine_help_74 (by decide) ?_
      exact me_retz (me_kz M0) h (by decide) hx hb hr hlocks hwf hkp hP hK hD hS d_Machine_help_75
    have h := if_f c5 h
    refine lv_aload_n hx hb d_Machine_help_42 rfl (lv_at hl 0 rfl) ?_
    refine g_Machine_9 hx hb hts hown hK hP hwf hj0 (hts _ u_634) d_Machine_help_43 ?_
    obtain ⟨j10, e11, h⟩ := bd_ob h
    have hj10 : j10 < N 16 := (hwf.2.1 5 j0 9 _ e11 (by decide) hj0)
    refine me_opt (j := j10) e11 ?_
    refine lv_aload_n hx hb d_Machine_help_46 rfl (lv_at hl 0 rfl) ?_
    refine g_Machine_10 hx hb hts hown hK hP hwf hj0 (hts _ u_636) d_Machine_help_47 ?_
    refine lv_aload_n hx hb d_Machine_help_50 rfl (lv_at hl 0 rfl) ?_
    refine g_Machine_6 hx hb hts hown hK hP hwf hj0 (hts _ u_629) d_Machine_help_51 ?_
    obtain ⟨j12, e13, h⟩ := bd_ob h
    have hj12 : j12 < N 16 := (hwf.2.1 5 j0 6 _ e13 (by decide) hj0)
    refine me_opt (j := j12) e13 ?_
    refine lv_iconst (v := 1) hx hb d_Machine_help_54 (by decide) ?_
    obtain ⟨g14, h⟩ := gd_ob h
    refine me_lald hx hb hK hP hwf hj12 (me_in (i := (1 : Int32)) (k := 1) (by decide) (by decide) g14) d_Machine_help_55 ?_
    refine fg_topl (y := mL M0 16 j12 1) (congrArg _ (by decide)) ?_
    obtain ⟨g15, h⟩ := gd_ob h
    obtain ⟨M16, eM16, h⟩ := st_ob h
    refine me_last eM16 hx hb hK hP hD hwf hS hj10 g15 d_Machine_help_56 (fun H locs hP hD hwf hS => ?_)
    have hkp := kz_L eM16 hkp
    refine lv_aload_n hx hb d_Machine_help_57 rfl (lv_at hl 0 rfl) ?_
    refine lv_dup hx hb d_Machine_help_58 rfl ?_
    refine g_Machine_10 hx hb hts hown hK hP hwf hj0 (hts _ u_636) d_Machine_help_59 ?_
    refine lv_iconst (v := 1) hx hb d_Machine_help_62 (by decide) ?_
    refine lv_iadd hx hb d_Machine_help_63 ?_
    obtain ⟨M17, eM17, h⟩ := st_ob h
    refine p_Machine_10 eM17 hx hb hts hown hK hP hD hwf hS hj0 (hts _ u_636) d_Machine_help_64 (fun H locs hP hD hwf hS => ?_)
    have hkp := kz_I eM17 hkp
    refine lv_aload_n hx hb d_Machine_help_67 rfl (lv_at hl 0 rfl) ?_
    refine g_Machine_6 hx hb hts hown hK hP hwf hj0 (hts _ u_629) d_Machine_help_68 ?_
    obtain ⟨j18, e19, h⟩ := bd_ob h
    have hj18 : j18 < N 16 := (hwf.2.1 5 j0 6 _ e19 (by decide) hj0)
    refine me_opt (j := j18) e19 ?_
    refine lv_iconst (v := 0) hx hb d_Machine_help_71 (by decide) ?_
    refine lv_lconst (v := 0) hx hb d_Machine_help_72 (by decide) ?_
    obtain ⟨g20, h⟩ := gd_ob h
    obtain ⟨M21, eM21, h⟩ := st_ob h
    refine me_last (eM21.trans (by rw [show (0 : Int32).toNatClampNeg = 0 by decide])) hx hb hK hP hD hwf hS hj18 (me_in (i := (0 : Int32)) (k := 0) (by decide) (by decide) (kp_c hkb hkp g20)) d_Machine_help_73 (fun H locs hP hD hwf hS => ?_)
    have hkp := kz_L eM21 hkp
    refine lv_iconst (v := 1) hx hb d_Machine_help_74 (by decide) ?_
    exact me_retz (me_kz M0) h (by decide) hx hb hr hlocks hwf hkp hP hK hD hS d_Machine_help_75
  have h := if_f (fun z => n4 (ew3.trans z)) h
  by_cases n22 : w3 = 5
  · have h := if_t (ew3.symm.trans n22) h
    subst n22
    refine lv_tableIn (off := 69) (tgt := 76) hx hb d_Machine_help_7 (by decide) (by decide) (by decide) (by decide) ?_
    refine lv_aload_n hx hb d_Machine_help_76 rfl (lv_at hl 0 rfl) ?_
    refine g_Machine_6 hx hb hts hown hK hP hwf hj0 (hts _ u_629) d_Machine_help_77 ?_
    obtain ⟨j23, e24, h⟩ := bd_ob h
    have hj23 : j23 < N 16 := (hwf.2.1 5 j0 6 _ e24 (by decide) hj0)
    refine me_opt (j := j23) e24 ?_
    refine lv_iconst (v := 0) hx hb d_Machine_help_80 (by decide) ?_
    refine lv_aload_n hx hb d_Machine_help_81 rfl (lv_at hl 0 rfl) ?_
    refine g_Machine_11 hx hb hts hown hK hP hwf hj0 (hts _ u_639) d_Machine_help_82 ?_
    obtain ⟨g25, h⟩ := gd_ob h
    obtain ⟨M26, eM26, h⟩ := st_ob h
    refine me_last (eM26.trans (by rw [show (0 : Int32).toNatClampNeg = 0 by decide])) hx hb hK hP hD hwf hS hj23 (me_in (i := (0 : Int32)) (k := 0) (by decide) (by decide) g25) d_Machine_help_85 (fun H locs hP hD hwf hS => ?_)
    have hkp := kz_L eM26 hkp
    refine lv_aload_n hx hb d_Machine_help_86 rfl (lv_at hl 0 rfl) ?_
    refine lv_dup hx hb d_Machine_help_87 rfl ?_
    refine g_Machine_11 hx hb hts hown hK hP hwf hj0 (hts _ u_639) d_Machine_help_88 ?_
    refine lv_lconst (v := 1) hx hb d_Machine_help_91 (by decide) ?_
    refine lv_ladd hx hb d_Machine_help_92 ?_
    obtain ⟨M27, eM27, h⟩ := st_ob h
    refine p_Machine_11 eM27 hx hb hts hown hK hP hD hwf hS hj0 (hts _ u_639) d_Machine_help_93 (fun H locs hP hD hwf hS => ?_)
    have hkp := kz_L eM27 hkp
    refine lv_iconst (v := 1) hx hb d_Machine_help_96 (by decide) ?_
    exact me_retz (me_kz M0) h (by decide) hx hb hr hlocks hwf hkp hP hK hD hS d_Machine_help_97
  have h := if_f (fun z => n22 (ew3.trans z)) h
  by_cases n28 : w3 = 6
  · have h := if_t (ew3.symm.trans n28) h
    subst n28
    refine lv_tableIn (off := 91) (tgt := 98) hx hb d_Machine_help_7 (by decide) (by decide) (by decide) (by decide) ?_
    refine lv_aload_n hx hb d_Machine_help_98 rfl (lv_at hl 0 rfl) ?_
    refine lv_aload_n hx hb d_Machine_help_99 rfl (lv_at hl 0 rfl) ?_
    refine g_Machine_6 hx hb hts hown hK hP hwf hj0 (hts _ u_629) d_Machine_help_100 ?_
    obtain ⟨j29, e30, h⟩ := bd_ob h
    have hj29 : j29 < N 16 := (hwf.2.1 5 j0 6 _ e30 (by decide) hj0)
    refine me_opt (j := j29) e30 ?_
    refine lv_iconst (v := 2) hx hb d_Machine_help_103 (by decide) ?_
    obtain ⟨g31, h⟩ := gd_ob h
    refine me_lald hx hb hK hP hwf hj29 (me_in (i := (2 : Int32)) (k := 2) (by decide) (by decide) g31) d_Machine_help_104 ?_
    refine fg_topl (y := mL M0 16 j29 2) (congrArg _ (by decide)) ?_
    obtain ⟨M32, r33, eM32, h⟩ := b2_ob h
    refine me_theni0 (M1 := M32) (me_runV (C := "FilterGuard$Machine") (As := [.long (mL M0 16 j29 2)]) (rest := []) ⟨hx, hb, hml, hown, hts⟩ (c_Machine_mix l D ad ca N M0 M32 r33 j0 (mL M0 16 j29 2) eM32 hwf hj0 _) rfl (by show fg_nm y_Machine_mix 1; decide +kernel) u_1684 u_1686 u_79 u_190 u_1687 ⟨Nat.le_of_ble_eq_true rfl, Nat.le_of_ble_eq_true rfl⟩ hX hz hK hP hD hwf hS hA hj0 (by decide) rfl rfl rfl hl.1 (Nat.le_of_ble_eq_true rfl) d_Machine_help_105 ⟨Nat.le_of_ble_eq_true rfl, Nat.le_of_ble_eq_true rfl⟩) hP hD hK hS hA rfl rfl (fun H locs hw hP hD hS => ?_)
    obtain ⟨hwf, hk9, zr33⟩ := hw
    have hkp := hkp.tr hk9
    exact me_retz (me_kz M0) h zr33 hx hb hr hlocks hwf hkp hP hK hD hS d_Machine_help_108
  have h := if_f (fun z => n28 (ew3.trans z)) h
  have in4 := lv_neT n4 (show (4 : Int32).toInt = 4 from rfl)
  have in22 := lv_neT n22 (show (5 : Int32).toInt = 5 from rfl)
  have in28 := lv_neT n28 (show (6 : Int32).toInt = 6 from rfl)
  refine lv_tableOut (tgt := 109) hx hb d_Machine_help_7 (by omega) (by decide) ?_
  refine lv_aload_n hx hb d_Machine_help_109 rfl (lv_at hl 0 rfl) ?_
  refine lv_aload_n hx hb d_Machine_help_110 rfl (lv_at hl 0 rfl) ?_
  refine g_Machine_6 hx hb hts hown hK hP hwf hj0 (hts _ u_629) d_Machine_help_111 ?_
  obtain ⟨j34, e35, h⟩ := bd_ob h
  have hj34 : j34 < N 16 := (hwf.2.1 5 j0 6 _ e35 (by decide) hj0)
  refine me_opt (j := j34) e35 ?_
  refine lv_iconst (v := 1) hx hb d_Machine_help_114 (by decide) ?_
  obtain ⟨g36, h⟩ := gd_ob h
  refine me_lald hx hb hK hP hwf hj34 (me_in (i := (1 : Int32)) (k := 1) (by decide) (by decide) g36) d_Machine_help_115 ?_
  refine fg_topl (y := mL M0 16 j34 1) (congrArg _ (by decide)) ?_
  obtain ⟨M37, r38, eM37, h⟩ := b2_ob h
  refine me_theni0 (M1 := M37) (me_runV (C := "FilterGuard$Machine") (As := [.long (mL M0 16 j34 1)]) (rest := []) ⟨hx, hb, hml, hown, hts⟩ (c_Machine_useMap l D ad ca N M0 M37 r38 j0 (mL M0 16 j34 1) eM37 hwf hj0 _) rfl (by show fg_nm y_Machine_useMap 1; decide +kernel) u_1703 u_1705 u_82 u_190 u_1706 ⟨Nat.le_of_ble_eq_true rfl, Nat.le_of_ble_eq_true rfl⟩ hX hz hK hP hD hwf hS hA hj0 (by decide) rfl rfl rfl hl.1 (Nat.le_of_ble_eq_true rfl) d_Machine_help_116 ⟨Nat.le_of_ble_eq_true rfl, Nat.le_of_ble_eq_true rfl⟩) hP hD hK hS hA rfl rfl (fun H locs hw hP hD hS => ?_)
  obtain ⟨hwf, hk9, zr38⟩ := hw
  have hkp := hkp.tr hk9
  exact me_retz (me_kz M0) h zr38 hx hb hr hlocks hwf hkp hP hK hD hS d_Machine_help_119
