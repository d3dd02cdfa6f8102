theorem d_M_without_101 : decode prog_14_method_35_code 101 = .ok (.lastore, 1) := by decide +kernel
theorem d_M_without_102 : decode prog_14_method_35_code 102 = .ok (.aload_n 0, 1) := by decide +kernel
theorem d_M_without_103 : decode prog_14_method_35_code 103 = .ok (.getfield 119, 3) := by decide +kernel
theorem d_M_without_106 : decode prog_14_method_35_code 106 = .ok (.iload_n 1, 1) := by decide +kernel
theorem d_M_without_107 : decode prog_14_method_35_code 107 = .ok (.aload_n 0, 1) := by decide +kernel
theorem d_M_without_108 : decode prog_14_method_35_code 108 = .ok (.getfield 119, 3) := by decide +kernel
theorem d_M_without_111 : decode prog_14_method_35_code 111 = .ok (.iload_n 1, 1) := by decide +kernel
theorem d_M_without_112 : decode prog_14_method_35_code 112 = .ok (.laload, 1) := by decide +kernel
theorem d_M_without_113 : decode prog_14_method_35_code 113 = .ok (.lload_n 2, 1) := by decide +kernel
theorem d_M_without_114 : decode prog_14_method_35_code 114 = .ok (.lcmp, 1) := by decide +kernel
theorem d_M_without_115 : decode prog_14_method_35_code 115 = .ok (.ifCond .ne 14, 3) := by decide +kernel
theorem d_M_without_129 : decode prog_14_method_35_code 129 = .ok (.aload_n 0, 1) := by decide +kernel
theorem d_M_without_130 : decode prog_14_method_35_code 130 = .ok (.getfield 119, 3) := by decide +kernel
theorem d_M_without_133 : decode prog_14_method_35_code 133 = .ok (.iload_n 1, 1) := by decide +kernel
theorem d_M_without_134 : decode prog_14_method_35_code 134 = .ok (.laload, 1) := by decide +kernel
theorem d_M_without_135 : decode prog_14_method_35_code 135 = .ok (.lastore, 1) := by decide +kernel
theorem d_M_without_136 : decode prog_14_method_35_code 136 = .ok (.return_, 1) := by decide +kernel
theorem d_M_without_118 : decode prog_14_method_35_code 118 = .ok (.aload_n 0, 1) := by decide +kernel
theorem d_M_without_119 : decode prog_14_method_35_code 119 = .ok (.getfield 119, 3) := by decide +kernel
theorem d_M_without_122 : decode prog_14_method_35_code 122 = .ok (.iload_n 1, 1) := by decide +kernel
theorem d_M_without_123 : decode prog_14_method_35_code 123 = .ok (.laload, 1) := by decide +kernel
theorem d_M_without_124 : decode prog_14_method_35_code 124 = .ok (.lconst 1, 1) := by decide +kernel
theorem d_M_without_125 : decode prog_14_method_35_code 125 = .ok (.lsub, 1) := by decide +kernel
theorem d_M_without_126 : decode prog_14_method_35_code 126 = .ok (.goto 9, 3) := by decide +kernel
theorem d_M_without_67 : decode prog_14_method_35_code 67 = .ok (.lastore, 1) := by decide +kernel
theorem d_M_without_68 : decode prog_14_method_35_code 68 = .ok (.aload_n 0, 1) := by decide +kernel
theorem d_M_without_69 : decode prog_14_method_35_code 69 = .ok (.getfield 116, 3) := by decide +kernel
theorem d_M_without_72 : decode prog_14_method_35_code 72 = .ok (.iload_n 1, 1) := by decide +kernel
theorem d_M_without_73 : decode prog_14_method_35_code 73 = .ok (.aload_n 0, 1) := by decide +kernel
theorem d_M_without_74 : decode prog_14_method_35_code 74 = .ok (.getfield 116, 3) := by decide +kernel
theorem d_M_without_77 : decode prog_14_method_35_code 77 = .ok (.iload_n 1, 1) := by decide +kernel
theorem d_M_without_78 : decode prog_14_method_35_code 78 = .ok (.laload, 1) := by decide +kernel
theorem d_M_without_79 : decode prog_14_method_35_code 79 = .ok (.lload_n 2, 1) := by decide +kernel
theorem d_M_without_80 : decode prog_14_method_35_code 80 = .ok (.lcmp, 1) := by decide +kernel
theorem d_M_without_81 : decode prog_14_method_35_code 81 = .ok (.ifCond .ne 14, 3) := by decide +kernel
theorem d_M_without_95 : decode prog_14_method_35_code 95 = .ok (.aload_n 0, 1) := by decide +kernel
theorem d_M_without_96 : decode prog_14_method_35_code 96 = .ok (.getfield 116, 3) := by decide +kernel
theorem d_M_without_99 : decode prog_14_method_35_code 99 = .ok (.iload_n 1, 1) := by decide +kernel
theorem d_M_without_100 : decode prog_14_method_35_code 100 = .ok (.laload, 1) := by decide +kernel
theorem d_M_without_84 : decode prog_14_method_35_code 84 = .ok (.aload_n 0, 1) := by decide +kernel
theorem d_M_without_85 : decode prog_14_method_35_code 85 = .ok (.getfield 116, 3) := by decide +kernel
theorem d_M_without_88 : decode prog_14_method_35_code 88 = .ok (.iload_n 1, 1) := by decide +kernel
theorem d_M_without_89 : decode prog_14_method_35_code 89 = .ok (.laload, 1) := by decide +kernel
theorem d_M_without_90 : decode prog_14_method_35_code 90 = .ok (.lconst 1, 1) := by decide +kernel
theorem d_M_without_91 : decode prog_14_method_35_code 91 = .ok (.ladd, 1) := by decide +kernel
theorem d_M_without_92 : decode prog_14_method_35_code 92 = .ok (.goto 9, 3) := by decide +kernel
theorem d_M_without_33 : decode prog_14_method_35_code 33 = .ok (.lastore, 1) := by decide +kernel
theorem d_M_without_34 : decode prog_14_method_35_code 34 = .ok (.aload_n 0, 1) := by decide +kernel
theorem d_M_without_35 : decode prog_14_method_35_code 35 = .ok (.getfield 113, 3) := by decide +kernel
theorem d_M_without_38 : decode prog_14_method_35_code 38 = .ok (.iload_n 1, 1) := by decide +kernel
theorem d_M_without_39 : decode prog_14_method_35_code 39 = .ok (.aload_n 0, 1) := by decide +kernel
theorem d_M_without_40 : decode prog_14_method_35_code 40 = .ok (.getfield 113, 3) := by decide +kernel
theorem d_M_without_43 : decode prog_14_method_35_code 43 = .ok (.iload_n 1, 1) := by decide +kernel
theorem d_M_without_44 : decode prog_14_method_35_code 44 = .ok (.laload, 1) := by decide +kernel
theorem d_M_without_45 : decode prog_14_method_35_code 45 = .ok (.lload_n 2, 1) := by decide +kernel
theorem d_M_without_46 : decode prog_14_method_35_code 46 = .ok (.lcmp, 1) := by decide +kernel
theorem d_M_without_47 : decode prog_14_method_35_code 47 = .ok (.ifCond .ne 14, 3) := by decide +kernel
theorem d_M_without_61 : decode prog_14_method_35_code 61 = .ok (.aload_n 0, 1) := by decide +kernel
theorem d_M_without_62 : decode prog_14_method_35_code 62 = .ok (.getfield 113, 3) := by decide +kernel
theorem d_M_without_65 : decode prog_14_method_35_code 65 = .ok (.iload_n 1, 1) := by decide +kernel
theorem d_M_without_66 : decode prog_14_method_35_code 66 = .ok (.laload, 1) := by decide +kernel
theorem d_M_without_50 : decode prog_14_method_35_code 50 = .ok (.aload_n 0, 1) := by decide +kernel
theorem d_M_without_51 : decode prog_14_method_35_code 51 = .ok (.getfield 113, 3) := by decide +kernel
theorem d_M_without_54 : decode prog_14_method_35_code 54 = .ok (.iload_n 1, 1) := by decide +kernel
theorem d_M_without_55 : decode prog_14_method_35_code 55 = .ok (.laload, 1) := by decide +kernel
theorem d_M_without_56 : decode prog_14_method_35_code 56 = .ok (.lconst 1, 1) := by decide +kernel
theorem d_M_without_57 : decode prog_14_method_35_code 57 = .ok (.lsub, 1) := by decide +kernel
theorem d_M_without_58 : decode prog_14_method_35_code 58 = .ok (.goto 9, 3) := by decide +kernel
theorem d_M_without_0 : decode prog_14_method_35_code 0 = .ok (.aload_n 0, 1) := by decide +kernel
theorem d_M_without_1 : decode prog_14_method_35_code 1 = .ok (.getfield 110, 3) := by decide +kernel
theorem d_M_without_4 : decode prog_14_method_35_code 4 = .ok (.iload_n 1, 1) := by decide +kernel
theorem d_M_without_5 : decode prog_14_method_35_code 5 = .ok (.aload_n 0, 1) := by decide +kernel
theorem d_M_without_6 : decode prog_14_method_35_code 6 = .ok (.getfield 110, 3) := by decide +kernel
theorem d_M_without_9 : decode prog_14_method_35_code 9 = .ok (.iload_n 1, 1) := by decide +kernel
theorem d_M_without_10 : decode prog_14_method_35_code 10 = .ok (.laload, 1) := by decide +kernel
theorem d_M_without_11 : decode prog_14_method_35_code 11 = .ok (.lload_n 2, 1) := by decide +kernel
theorem d_M_without_12 : decode prog_14_method_35_code 12 = .ok (.lcmp, 1) := by decide +kernel
theorem d_M_without_13 : decode prog_14_method_35_code 13 = .ok (.ifCond .ne 14, 3) := by decide +kernel
theorem d_M_without_27 : decode prog_14_method_35_code 27 = .ok (.aload_n 0, 1) := by decide +kernel
theorem d_M_without_28 : decode prog_14_method_35_code 28 = .ok (.getfield 110, 3) := by decide +kernel
theorem d_M_without_31 : decode prog_14_method_35_code 31 = .ok (.iload_n 1, 1) := by decide +kernel
theorem d_M_without_32 : decode prog_14_method_35_code 32 = .ok (.laload, 1) := by decide +kernel
theorem d_M_without_16 : decode prog_14_method_35_code 16 = .ok (.aload_n 0, 1) := by decide +kernel
theorem d_M_without_17 : decode prog_14_method_35_code 17 = .ok (.getfield 110, 3) := by decide +kernel
theorem d_M_without_20 : decode prog_14_method_35_code 20 = .ok (.iload_n 1, 1) := by decide +kernel
theorem d_M_without_21 : decode prog_14_method_35_code 21 = .ok (.laload, 1) := by decide +kernel
theorem d_M_without_22 : decode prog_14_method_35_code 22 = .ok (.lconst 1, 1) := by decide +kernel
theorem d_M_without_23 : decode prog_14_method_35_code 23 = .ok (.ladd, 1) := by decide +kernel
theorem d_M_without_24 : decode prog_14_method_35_code 24 = .ok (.goto 9, 3) := by decide +kernel
abbrev y_M_without : MethodName := ⟨"FilterGuardModel", "without", "(IJ)V"⟩
def f_M_without_b101 (j0 : Nat) (x1 : Int32) (x2 : Int64) (M : me_M) (s0 : Int64) (s1 : Int32) (s2 : Nat) : Option me_M := gd (¬ (s1 < 0 ∨ mZ M 16 s2 ≤ s1.toNatClampNeg)) (st (wL M 16 s2 s1.toNatClampNeg s0) (fun (M2 : me_M) => bd (mR M 1 j0 57) (fun (j3 : Nat) => gd (¬ (x1 < 0 ∨ mZ M 16 j3 ≤ x1.toNatClampNeg)) ((if (mL M2 16 j3 x1.toNatClampNeg) = x2 then st (wL M2 16 j3 x1.toNatClampNeg ((mL M2 16 j3 x1.toNatClampNeg) - 1)) (fun (M8 : me_M) => some M8) else st (wL M2 16 j3 x1.toNatClampNeg (mL M2 16 j3 x1.toNatClampNeg)) (fun (M7 : me_M) => some M7))))))
def f_M_without_b67 (j0 : Nat) (x1 : Int32) (x2 : Int64) (M : me_M) (s0 : Int64) (s1 : Int32) (s2 : Nat) : Option me_M := gd (¬ (s1 < 0 ∨ mZ M 16 s2 ≤ s1.toNatClampNeg)) (st (wL M 16 s2 s1.toNatClampNeg s0) (fun (M10 : me_M) => bd (mR M 1 j0 56) (fun (j11 : Nat) => gd (¬ (x1 < 0 ∨ mZ M 16 j11 ≤ x1.toNatClampNeg)) ((if (mL M10 16 j11 x1.toNatClampNeg) = x2 then f_M_without_b101 j0 x1 x2 M10 ((mL M10 16 j11 x1.toNatClampNeg) + 1) x1 j11 else f_M_without_b101 j0 x1 x2 M10 (mL M10 16 j11 x1.toNatClampNeg) x1 j11)))))
def f_M_without_b33 (j0 : Nat) (x1 : Int32) (x2 : Int64) (M : me_M) (s0 : Int64) (s1 : Int32) (s2 : Nat) : Option me_M := gd (¬ (s1 < 0 ∨ mZ M 16 s2 ≤ s1.toNatClampNeg)) (st (wL M 16 s2 s1.toNatClampNeg s0) (fun (M16 : me_M) => bd (mR M 1 j0 55) (fun (j17 : Nat) => gd (¬ (x1 < 0 ∨ mZ M 16 j17 ≤ x1.toNatClampNeg)) ((if (mL M16 16 j17 x1.toNatClampNeg) = x2 then f_M_without_b67 j0 x1 x2 M16 ((mL M16 16 j17 x1.toNatClampNeg) - 1) x1 j17 else f_M_without_b67 j0 x1 x2 M16 (mL M16 16 j17 x1.toNatClampNeg) x1 j17)))))
def f_M_without (M0 : me_M) (j0 : Nat) (x1 : Int32) (x2 : Int64) : Option me_M := bd (mR M0 1 j0 54) (fun (j21 : Nat) => gd (¬ (x1 < 0 ∨ mZ M0 16 j21 ≤ x1.toNatClampNeg)) ((if (mL M0 16 j21 x1.toNatClampNeg) = x2 then f_M_without_b33 j0 x1 x2 M0 ((mL M0 16 j21 x1.toNatClampNeg) + 1) x1 j21 else f_M_without_b33 j0 x1 x2 M0 (mL M0 16 j21 x1.toNatClampNeg) x1 j21)))
def rm_M_without : Room := { frames := 1, cells := 0, slots := 0, locals := 20 }
abbrev q_M_without (D : va_G) (ad : Nat → Nat → Nat) (ca : Nat → ClassId) (N : Nat → Nat) (M0 MZ : me_M) (A : Nat → Prop) : Array Value → Jvm.State → Outcome → Jvm.State → Prop := va_Qv (fun (_ : Unit) => me_wf N MZ ∧ me_kp M0 MZ) (fg_B D A (fun _ => me_W ad ca MZ) (fun _ => [])) A
set_option maxHeartbeats 4000000 in
set_option maxRecDepth 100000 in
theorem c_M_without (l : Launch) (D : va_G) (ad : Nat → Nat → Nat) (ca : Nat → ClassId) (N : Nat → Nat) (M0 MZ : me_M) (j0 : Nat) (x1 : Int32) (x2 : Int64) (h : f_M_without M0 j0 x1 x2 = (some MZ)) (hwf : me_wf N M0) (hj0 : j0 < N 1) (sz : Nat) : Met l y_M_without (fg_w y_M_without prog_14_method_35_code 4 none) rm_M_without (va_Pc [.ref (ad 1 j0), .int x1, .long x2] (fz_P D (me_T ca) (me_W ad ca M0) sz)) (q_M_without D ad ca N M0 MZ (va_A (me_W ad ca M0) sz)) rm_M_without.cells rm_M_without.slots (va_A (me_W ad ca M0) sz) := by
  refine fz_enter (fun A => q_M_without D ad ca N M0 MZ A) (by decide +kernel) (Nat.le_of_ble_eq_true rfl) ?_
  intro p e s m below meth c ls A hx hb hml hown hts hr hlocks hin hP hK hD hS hA hX hl hz
  have hl : lv_has ls 4 [(0, .ref (ad 1 j0)), (1, .int x1), (2, .long x2)] := hl
  unfold f_M_without at h
  have hkp : me_kp M0 M0 := me_kp.rf
  have hkb := hkp
  have b_101 : ∀ (M : me_M) (s0 : Int64) (s1 : Int32) (s2 : Nat) (H : Heap) (locs : List Loc) (ls : Array Slot), f_M_without_b101 j0 x1 x2 M s0 s1 s2 = (some MZ) → (s2 < N 16) → me_wf N M → me_kp M0 M → va_P D classes (me_W ad ca M) H → va_D A (me_W ad ca M) → va_S A s.heap H locs → lv_has ls 4 [(0, .ref (ad 1 j0)), (1, .int x1), (2, .long x2)] → W p l e rm_M_without s m [.ref (ad 1 j0), .int x1, .long x2].toArray below meth c H locs 0 0 (MQ below (q_M_without D ad ca N M0 MZ A) [.ref (ad 1 j0), .int x1, .long x2].toArray s rm_M_without.cells rm_M_without.slots A) (F0 m 101 ls [.long s0, .int s1, .ref (ad 16 s2)]) := by
    intro M s0 s1 s2 H locs ls h hs2 hwf hkp hP hD hS hl
    unfold f_M_without_b101 at h
    have hkb := hkp
    obtain ⟨g1, h⟩ := gd_ob h
    obtain ⟨M2, eM2, h⟩ := st_ob h
    refine me_last eM2 hx hb hK hP hD hwf hS hs2 g1 d_M_without_101 (fun H locs hP hD hwf hS => ?_)
    have hkp := kp_L eM2 hkp
    refine lv_aload_n hx hb d_M_without_102 rfl (lv_at hl 0 rfl) ?_
    refine g_M_57 hx hb hts hown hK hP hwf hj0 (hts _ u_1798) d_M_without_103 ?_
    obtain ⟨j3, e4, h⟩ := bd_ob h
    have hj3 : j3 < N 16 := (hwf.2.1 1 j0 57 _ (kp_r hkb hkp e4) (by decide) hj0)
    refine me_opt (j := j3) (kp_r hkb hkp e4) ?_
    refine lv_iload_n hx hb d_M_without_106 rfl (lv_at hl 1 rfl) ?_
    refine lv_aload_n hx hb d_M_without_107 rfl (lv_at hl 0 rfl) ?_
    refine g_M_57 hx hb hts hown hK hP hwf hj0 (hts _ u_1798) d_M_without_108 ?_
    refine me_opt (j := j3) (kp_r hkb hkp e4) ?_
    refine lv_iload_n hx hb d_M_without_111 rfl (lv_at hl 1 rfl) ?_
    obtain ⟨g5, h⟩ := gd_ob h
    refine me_lald hx hb hK hP hwf hj3 (kp_z hkb.z hkp.z g5) d_M_without_112 ?_
    refine lv_lload_n hx hb d_M_without_113 rfl (lv_at hl 2 rfl) ?_
    refine W.lcmp hx hb d_M_without_114 ?_
    refine lv_if_ne (tgt := 129) hx hb d_M_without_115 (by decide) (fun c6 => ?_) (fun c6 => ?_)
    · have h := if_f (fun z => c6 ((lg_cmp_eq _ _).mpr z)) h
      refine lv_aload_n hx hb d_M_without_129 rfl (lv_at hl 0 rfl) ?_
      refine g_M_57 hx hb hts hown hK hP hwf hj0 (hts _ u_1798) d_M_without_130 ?_
      refine me_opt (j := j3) (kp_r hkb hkp e4) ?_
      refine lv_iload_n hx hb d_M_without_133 rfl (lv_at hl 1 rfl) ?_
      refine me_lald hx hb hK hP hwf hj3 (kp_z hkb.z hkp.z g5) d_M_without_134 ?_
      obtain ⟨M7, eM7, h⟩ := st_ob h
      refine me_last eM7 hx hb hK hP hD hwf hS hj3 (kp_z hkb.z hkp.z g5) d_M_without_135 (fun H locs hP hD hwf hS => ?_)
      have hkp := kp_L eM7 hkp
      cases h
      exact fg_retv () hx hb hr hlocks ⟨hwf, hkp⟩ hP (hK.sub (tys' := []) [] rfl) hD hS (Nat.le_of_ble_eq_true rfl) (Nat.le_of_ble_eq_true rfl) d_M_without_136
    have h := if_t ((lg_cmp_eq _ _).mp c6) h
    refine lv_aload_n hx hb d_M_without_118 rfl (lv_at hl 0 rfl) ?_
    refine g_M_57 hx hb hts hown hK hP hwf hj0 (hts _ u_1798) d_M_without_119 ?_
    refine me_opt (j := j3) (kp_r hkb hkp e4) ?_
    refine lv_iload_n hx hb d_M_without_122 rfl (lv_at hl 1 rfl) ?_
    refine me_lald hx hb hK hP hwf hj3 (kp_z hkb.z hkp.z g5) d_M_without_123 ?_
    refine lv_lconst (v := 1) hx hb d_M_without_124 (by decide) ?_
    refine lv_lsub hx hb d_M_without_125 ?_
    refine lv_goto (tgt := 135) hx hb d_M_without_126 (by decide) ?_
    obtain ⟨M8, eM8, h⟩ := st_ob h
    refine me_last eM8 hx hb hK hP hD hwf hS hj3 (kp_z hkb.z hkp.z g5) d_M_without_135 (fun H locs hP hD hwf hS => ?_)
    have hkp := kp_L eM8 hkp
    cases h
    exact fg_retv () hx hb hr hlocks ⟨hwf, hkp⟩ hP (hK.sub (tys' := []) [] rfl) hD hS (Nat.le_of_ble_eq_true rfl) (Nat.le_of_ble_eq_true rfl) d_M_without_136
  have b_67 : ∀ (M : me_M) (s0 : Int64) (s1 : Int32) (s2 : Nat) (H : Heap) (locs : List Loc) (ls : Array Slot), f_M_without_b67 j0 x1 x2 M s0 s1 s2 = (some MZ) → (s2 < N 16) → me_wf N M → me_kp M0 M → va_P D classes (me_W ad ca M) H → va_D A (me_W ad ca M) → va_S A s.heap H locs → lv_has ls 4 [(0, .ref (ad 1 j0)), (1, .int x1), (2, .long x2)] → W p l e rm_M_without s m [.ref (ad 1 j0), .int x1, .long x2].toArray below meth c H locs 0 0 (MQ below (q_M_without D ad ca N M0 MZ A) [.ref (ad 1 j0), .int x1, .long x2].toArray s rm_M_without.cells rm_M_without.slots A) (F0 m 67 ls [.long s0, .int s1, .ref (ad 16 s2)]) := by
    intro M s0 s1 s2 H locs ls h hs2 hwf hkp hP hD hS hl
    unfold f_M_without_b67 at h
    have hkb := hkp
    obtain ⟨g9, h⟩ := gd_ob h
    obtain ⟨M10, eM10, h⟩ := st_ob h
    refine me_last eM10 hx hb hK hP hD hwf hS hs2 g9 d_M_without_67 (fun H locs hP hD hwf hS => ?_)
    have hkp := kp_L eM10 hkp
    refine lv_aload_n hx hb d_M_without_68 rfl (lv_at hl 0 rfl) ?_
    refine g_M_56 hx hb hts hown hK hP hwf hj0 (hts _ u_1797) d_M_without_69 ?_
    obtain ⟨j11, e12, h⟩ := bd_ob h
    have hj11 : j11 < N 16 := (hwf.2.1 1 j0 56 _ (kp_r hkb hkp e12) (by decide) hj0)
    refine me_opt (j := j11) (kp_r hkb hkp e12) ?_
    refine lv_iload_n hx hb d_M_without_72 rfl (lv_at hl 1 rfl) ?_
    refine lv_aload_n hx hb d_M_without_73 rfl (lv_at hl 0 rfl) ?_
    refine g_M_56 hx hb hts hown hK hP hwf hj0 (hts _ u_1797) d_M_without_74 ?_
    refine me_opt (j := j11) (kp_r hkb hkp e12) ?_
    refine lv_iload_n hx hb d_M_without_77 rfl (lv_at hl 1 rfl) ?_
    obtain ⟨g13, h⟩ := gd_ob h
    refine me_lald hx hb hK hP hwf hj11 (kp_z hkb.z hkp.z g13) d_M_without_78 ?_
    refine lv_lload_n hx hb d_M_without_79 rfl (lv_at hl 2 rfl) ?_
    refine W.lcmp hx hb d_M_without_80 ?_
    refine lv_if_ne (tgt := 95) hx hb d_M_without_81 (by decide) (fun c14 => ?_) (fun c14 => ?_)
    · have h := if_f (fun z => c14 ((lg_cmp_eq _ _).mpr z)) h
      refine lv_aload_n hx hb d_M_without_95 rfl (lv_at hl 0 rfl) ?_
      refine g_M_56 hx hb hts hown hK hP hwf hj0 (hts _ u_1797) d_M_without_96 ?_
      refine me_opt (j := j11) (kp_r hkb hkp e12) ?_
      refine lv_iload_n hx hb d_M_without_99 rfl (lv_at hl 1 rfl) ?_
      refine me_lald hx hb hK hP hwf hj11 (kp_z hkb.z hkp.z g13) d_M_without_100 ?_
      exact b_101 M10 (mL M10 16 j11 x1.toNatClampNeg) x1 j11 _ _ _ h hj11 hwf hkp hP hD hS (lv_sub hl [0, 1, 2] rfl)
    have h := if_t ((lg_cmp_eq _ _).mp c14) h
    refine lv_aload_n hx hb d_M_without_84 rfl (lv_at hl 0 rfl) ?_
    refine g_M_56 hx hb hts hown hK hP hwf hj0 (hts _ u_1797) d_M_without_85 ?_
    refine me_opt (j := j11) (kp_r hkb hkp e12) ?_
    refine lv_iload_n hx hb d_M_without_88 rfl (lv_at hl 1 rfl) ?_
    refine me_lald hx hb hK hP hwf hj11 (kp_z hkb.z hkp.z g13) d_M_without_89 ?_
    refine lv_lconst (v := 1) hx hb d_M_without_90 (by decide) ?_
    refine lv_ladd hx hb d_M_without_91 ?_
    refine lv_goto (tgt := 101) hx hb d_M_without_92 (by decide) ?_
    exact b_101 M10 ((mL M10 16 j11 x1.toNatClampNeg) + 1) x1 j11 _ _ _ h hj11 hwf hkp hP hD hS (lv_sub hl [0, 1, 2] rfl)
  have b_33 : ∀ (M : me_M) (s0 : Int64) (s1 : Int32) (s2 : Nat) (H : Heap) (locs : List Loc) (ls : Array Slot), f_M_without_b33 j0 x1 x2 M s0 s1 s2 = (some MZ) → (s2 < N 16) → me_wf N M → me_kp M0 M → va_P D classes (me_W ad ca M) H → va_D A (me_W ad ca M) → va_S A s.heap H locs → lv_has ls 4 [(0, .ref (ad 1 j0)), (1, .int x1), (2, .long x2)] → W p l e rm_M_without s m [.ref (ad 1 j0), .int x1, .long x2].toArray below meth c H locs 0 0 (MQ below (q_M_without D ad ca N M0 MZ A) [.ref (ad 1 j0), .int x1, .long x2].toArray s rm_M_without.cells rm_M_without.slots A) (F0 m 33 ls [.long s0, .int s1, .ref (ad 16 s2)]) := by
    intro M s0 s1 s2 H locs ls h hs2 hwf hkp hP hD hS hl
    unfold f_M_without_b33 at h
    have hkb := hkp
    obtain ⟨g15, h⟩ := gd_ob h
    obtain ⟨M16, eM16, h⟩ := st_ob h
    refine me_last eM16 hx hb hK hP hD hwf hS hs2 g15 d_M_without_33 (fun H locs hP hD hwf hS => ?_)
    have hkp := kp_L eM16 hkp
    refine lv_aload_n hx hb d_M_without_34 rfl (lv_at hl 0 rfl) ?_
    refine g_M_55 hx hb hts hown hK hP hwf hj0 (hts _ u_1796) d_M_without_35 ?_
    obtain ⟨j17, e18, h⟩ := bd_ob h
    have hj17 : j17 < N 16 := (hwf.2.1 1 j0 55 _ (kp_r hkb hkp e18) (by decide) hj0)
    refine me_opt (j := j17) (kp_r hkb hkp e18) ?_
    refine lv_iload_n hx hb d_M_without_38 rfl (lv_at hl 1 rfl) ?_
    refine lv_aload_n hx hb d_M_without_39 rfl (lv_at hl 0 rfl) ?_
    refine g_M_55 hx hb hts hown hK hP hwf hj0 (hts _ u_1796) d_M_without_40 ?_
    refine me_opt (j := j17) (kp_r hkb hkp e18) ?_
    refine lv_iload_n hx hb d_M_without_43 rfl (lv_at hl 1 rfl) ?_
    obtain ⟨g19, h⟩ := gd_ob h
    refine me_lald hx hb hK hP hwf hj17 (kp_z hkb.z hkp.z g19) d_M_without_44 ?_
    refine lv_lload_n hx hb d_M_without_45 rfl (lv_at hl 2 rfl) ?_
    refine W.lcmp hx hb d_M_without_46 ?_
    refine lv_if_ne (tgt := 61) hx hb d_M_without_47 (by decide) (fun c20 => ?_) (fun c20 => ?_)
    · have h := if_f (fun z => c20 ((lg_cmp_eq _ _).mpr z)) h
      refine lv_aload_n hx hb d_M_without_61 rfl (lv_at hl 0 rfl) ?_
      refine g_M_55 hx hb hts hown hK hP hwf hj0 (hts _ u_1796) d_M_without_62 ?_
      refine me_opt (j := j17) (kp_r hkb hkp e18) ?_
      refine lv_iload_n hx hb d_M_without_65 rfl (lv_at hl 1 rfl) ?_
      refine me_lald hx hb hK hP hwf hj17 (kp_z hkb.z hkp.z g19) d_M_without_66 ?_
      exact b_67 M16 (mL M16 16 j17 x1.toNatClampNeg) x1 j17 _ _ _ h hj17 hwf hkp hP hD hS (lv_sub hl [0, 1, 2] rfl)
    have h := if_t ((lg_cmp_eq _ _).mp c20) h
    refine lv_aload_n hx hb d_M_without_50 rfl (lv_at hl 0 rfl) ?_
    refine g_M_55 hx hb hts hown hK hP hwf hj0 (hts _ u_1796) d_M_without_51 ?_
    refine me_opt (j := j17) (kp_r hkb hkp e18) ?_
    refine lv_iload_n hx hb d_M_without_54 rfl (lv_at hl 1 rfl) ?_
    refine me_lald hx hb hK hP hwf hj17 (kp_z hkb.z hkp.z g19) d_M_without_55 ?_
    refine lv_lconst (v := 1) hx hb d_M_without_56 (by decide) ?_
    refine lv_lsub hx hb d_M_without_57 ?_
    refine lv_goto (tgt := 67) hx hb d_M_without_58 (by decide) ?_
    exact b_67 M16 ((mL M16 16 j17 x1.toNatClampNeg) - 1) x1 j17 _ _ _ h hj17 hwf hkp hP hD hS (lv_sub hl [0, 1, 2] rfl)
  refine lv_aload_n hx hb d_M_without_0 rfl (lv_at hl 0 rfl) ?_
  refine g_M_54 hx hb hts hown hK hP hwf hj0 (hts _ u_1795) d_M_without_1 ?_
  obtain ⟨j21, e22, h⟩ := bd_ob h
  have hj21 : j21 < N 16 := (hwf.2.1 1 j0 54 _ e22 (by decide) hj0)
  refine me_opt (j := j21) e22 ?_
  refine lv_iload_n hx hb d_M_without_4 rfl (lv_at hl 1 rfl) ?_
  refine lv_aload_n hx hb d_M_without_5 rfl (lv_at hl 0 rfl) ?_
  refine g_M_54 hx hb hts hown hK hP hwf hj0 (hts _ u_1795) d_M_without_6 ?_
  refine me_opt (j := j21) e22 ?_
  refine lv_iload_n hx hb d_M_without_9 rfl (lv_at hl 1 rfl) ?_
  obtain ⟨g23, h⟩ := gd_ob h
  refine me_lald hx hb hK hP hwf hj21 g23 d_M_without_10 ?_
  refine lv_lload_n hx hb d_M_without_11 rfl (lv_at hl 2 rfl) ?_
  refine W.lcmp hx hb d_M_without_12 ?_
  refine lv_if_ne (tgt := 27) hx hb d_M_without_13 (by decide) (fun c24 => ?_) (fun c24 => ?_)
  · have h := if_f (fun z => c24 ((lg_cmp_eq _ _).mpr z)) h
    refine lv_aload_n hx hb d_M_without_27 rfl (lv_at hl 0 rfl) ?_
    refine g_M_54 hx hb hts hown hK hP hwf hj0 (hts _ u_1795) d_M_without_28 ?_
    refine me_opt (j := j21) e22 ?_
    refine lv_iload_n hx hb d_M_without_31 rfl (lv_at hl 1 rfl) ?_
    refine me_lald hx hb hK hP hwf hj21 g23 d_M_without_32 ?_
    exact b_33 M0 (mL M0 16 j21 x1.toNatClampNeg) x1 j21 _ _ _ h hj21 hwf hkp hP hD hS (lv_sub hl [0, 1, 2] rfl)
  have h := if_t ((lg_cmp_eq _ _).mp c24) h
  refine lv_aload_n hx hb d_M_without_16 rfl (lv_at hl 0 rfl) ?_
  refine g_M_54 hx hb hts hown hK hP hwf hj0 (hts _ u_1795) d_M_without_17 ?_
  refine me_opt (j := j21) e22 ?_
  refine lv_iload_n hx hb d_M_without_20 rfl (lv_at hl 1 rfl) ?_
  refine me_lald hx hb hK hP hwf hj21 g23 d_M_without_21 ?_
  refine lv_lconst (v := 1) hx hb d_M_without_22 (by decide) ?_
  refine lv_ladd hx hb d_M_without_23 ?_
  refine lv_goto (tgt := 33) hx hb d_M_without_24 (by decide) ?_
  exact b_33 M0 ((mL M0 16 j21 x1.toNatClampNeg) + 1) x1 j21 _ _ _ h hj21 hwf hkp hP hD hS (lv_sub hl [0, 1, 2] rfl)
theorem d_M_notSame_46 : decode prog_14_method_36_code 46 = .ok (.aload_n 0, 1) := by decide +kernel
theorem d_M_notSame_47 : decode prog_14_method_36_code 47 = .ok (.getfield 104, 3) := by decide +kernel
theorem d_M_notSame_50 : decode prog_14_method_36_code 50 = .ok (.sipush 30075, 3) := by decide +kernel
theorem d_M_notSame_53 : decode prog_14_method_36_code 53 = .ok (.laload, 1) := by decide +kernel
theorem d_M_notSame_54 : decode prog_14_method_36_code 54 = .ok (.lstore_n 3, 1) := by decide +kernel
theorem d_M_notSame_55 : decode prog_14_method_36_code 55 = .ok (.iload_n 2, 1) := by decide +kernel
theorem d_M_notSame_56 : decode prog_14_method_36_code 56 = .ok (.ifCond .eq 18, 3) := by decide +kernel
theorem d_M_notSame_74 : decode prog_14_method_36_code 74 = .ok (.iload_n 1, 1) := by decide +kernel
theorem d_M_notSame_75 : decode prog_14_method_36_code 75 = .ok (.ifCond .eq 11, 3) := by decide +kernel
theorem d_M_notSame_86 : decode prog_14_method_36_code 86 = .ok (.iconst 1, 1) := by decide +kernel
theorem d_M_notSame_87 : decode prog_14_method_36_code 87 = .ok (.ireturn, 1) := by decide +kernel
theorem d_M_notSame_78 : decode prog_14_method_36_code 78 = .ok (.aload_n 0, 1) := by decide +kernel
theorem d_M_notSame_79 : decode prog_14_method_36_code 79 = .ok (.sipush 30076, 3) := by decide +kernel
theorem d_M_notSame_82 : decode prog_14_method_36_code 82 = .ok (.lload_n 3, 1) := by decide +kernel
theorem d_M_notSame_83 : decode prog_14_method_36_code 83 = .ok (.invokevirtual 267, 3) := by decide +kernel
theorem u_2262 : Cond.methodLink "FilterGuardModel" 267 ⟨"FilterGuardModel", "without", "(IJ)V"⟩ ∈ fg_g := fg_in (List.mem_of_getElem? (i := 2262) (by decide +kernel)) rfl
theorem u_2265 : Cond.code ⟨"FilterGuardModel", "without", "(IJ)V"⟩ prog_14_method_35_code 4 none ∈ fg_g := fg_in (List.mem_of_getElem? (i := 2265) (by decide +kernel)) rfl
theorem u_2264 : Cond.instanceMethod ⟨"FilterGuardModel", "without", "(IJ)V"⟩ ∈ fg_g := fg_in (List.mem_of_getElem? (i := 2264) (by decide +kernel)) rfl
theorem u_138 : Cond.selects "FilterGuardModel" ⟨"FilterGuardModel", "without", "(IJ)V"⟩ ⟨"FilterGuardModel", "without", "(IJ)V"⟩ ∈ fg_g := fg_in (List.mem_of_getElem? (i := 138) (by decide +kernel)) rfl
theorem d_M_notSame_59 : decode prog_14_method_36_code 59 = .ok (.aload_n 0, 1) := by decide +kernel
theorem d_M_notSame_60 : decode prog_14_method_36_code 60 = .ok (.sipush 30075, 3) := by decide +kernel
theorem d_M_notSame_63 : decode prog_14_method_36_code 63 = .ok (.aload_n 0, 1) := by decide +kernel
theorem d_M_notSame_64 : decode prog_14_method_36_code 64 = .ok (.getfield 104, 3) := by decide +kernel
theorem d_M_notSame_67 : decode prog_14_method_36_code 67 = .ok (.sipush 30076, 3) := by decide +kernel
theorem d_M_notSame_70 : decode prog_14_method_36_code 70 = .ok (.laload, 1) := by decide +kernel
theorem d_M_notSame_71 : decode prog_14_method_36_code 71 = .ok (.invokevirtual 267, 3) := by decide +kernel
theorem d_M_notSame_0 : decode prog_14_method_36_code 0 = .ok (.aload_n 0, 1) := by decide +kernel
theorem d_M_notSame_1 : decode prog_14_method_36_code 1 = .ok (.sipush 30075, 3) := by decide +kernel
theorem d_M_notSame_4 : decode prog_14_method_36_code 4 = .ok (.invokevirtual 192, 3) := by decide +kernel
theorem d_M_notSame_7 : decode prog_14_method_36_code 7 = .ok (.istore_n 1, 1) := by decide +kernel
theorem d_M_notSame_8 : decode prog_14_method_36_code 8 = .ok (.aload_n 0, 1) := by decide +kernel
theorem d_M_notSame_9 : decode prog_14_method_36_code 9 = .ok (.sipush 30076, 3) := by decide +kernel
theorem d_M_notSame_12 : decode prog_14_method_36_code 12 = .ok (.invokevirtual 192, 3) := by decide +kernel
theorem d_M_notSame_15 : decode prog_14_method_36_code 15 = .ok (.istore_n 2, 1) := by decide +kernel
theorem d_M_notSame_16 : decode prog_14_method_36_code 16 = .ok (.iload_n 1, 1) := by decide +kernel
theorem d_M_notSame_17 : decode prog_14_method_36_code 17 = .ok (.ifCond .eq 29, 3) := by decide +kernel
theorem d_M_notSame_20 : decode prog_14_method_36_code 20 = .ok (.iload_n 2, 1) := by decide +kernel
theorem d_M_notSame_21 : decode prog_14_method_36_code 21 = .ok (.ifCond .eq 25, 3) := by decide +kernel
theorem d_M_notSame_24 : decode prog_14_method_36_code 24 = .ok (.aload_n 0, 1) := by decide +kernel
theorem d_M_notSame_25 : decode prog_14_method_36_code 25 = .ok (.getfield 104, 3) := by decide +kernel
theorem d_M_notSame_28 : decode prog_14_method_36_code 28 = .ok (.sipush 30075, 3) := by decide +kernel
theorem d_M_notSame_31 : decode prog_14_method_36_code 31 = .ok (.laload, 1) := by decide +kernel
theorem d_M_notSame_32 : decode prog_14_method_36_code 32 = .ok (.aload_n 0, 1) := by decide +kernel
theorem d_M_notSame_33 : decode prog_14_method_36_code 33 = .ok (.getfield 104, 3) := by decide +kernel
theorem d_M_notSame_36 : decode prog_14_method_36_code 36 = .ok (.sipush 30076, 3) := by decide +kernel
theorem d_M_notSame_39 : decode prog_14_method_36_code 39 = .ok (.laload, 1) := by decide +kernel
theorem d_M_notSame_40 : decode prog_14_method_36_code 40 = .ok (.lcmp, 1) := by decide +kernel
theorem d_M_notSame_41 : decode prog_14_method_36_code 41 = .ok (.ifCond .ne 5, 3) := by decide +kernel
theorem d_M_notSame_44 : decode prog_14_method_36_code 44 = .ok (.iconst 0, 1) := by decide +kernel
theorem d_M_notSame_45 : decode prog_14_method_36_code 45 = .ok (.ireturn, 1) := by decide +kernel
abbrev y_M_notSame : MethodName := ⟨"FilterGuardModel", "notSame", "()Z"⟩
def f_M_notSame_b46 (j0 : Nat) (M : me_M) (y1 : Int32) (y2 : Int32) : Option (me_M × Int32) := bd (mR M 1 j0 52) (fun (j1 : Nat) => gd (30075 < mZ M 16 j1) (st (mL M 16 j1 30075) (fun (v4 : Int64) => (if y2 = 0 then (if y1 = 0 then some (M, (1 : Int32)) else bd (f_M_without M j0 (30076 : Int32) v4) (fun (M8 : me_M) => some (M8, (1 : Int32)))) else gd (30076 < mZ M 16 j1) (bd (f_M_without M j0 (30075 : Int32) (mL M 16 j1 30076)) (fun (M11 : me_M) => (if y1 = 0 then some (M11, (1 : Int32)) else bd (f_M_without M11 j0 (30076 : Int32) v4) (fun (M14 : me_M) => some (M14, (1 : Int32))))))))))
def f_M_notSame (M0 : me_M) (j0 : Nat) : Option (me_M × Int32) := b2 (f_M_isExact M0 j0 (30075 : Int32)) (fun (M16 : me_M) (r17 : Int32) => b2 (f_M_isExact M16 j0 (30076 : Int32)) (fun (M18 : me_M) (r19 : Int32) => (if r17 = 0 then f_M_notSame_b46 j0 M18 r17 r19 else (if r19 = 0 then f_M_notSame_b46 j0 M18 r17 r19 else bd (mR M0 1 j0 52) (fun (j22 : Nat) => gd (30075 < mZ M0 16 j22) (gd (30076 < mZ M0 16 j22) ((if (mL M18 16 j22 30075) = (mL M18 16 j22 30076) then some (M18, (0 : Int32)) else f_M_notSame_b46 j0 M18 r17 r19))))))))
def rm_M_notSame : Room := { frames := 2, cells := 0, slots := 0, locals := 43 }
abbrev q_M_notSame (D : va_G) (ad : Nat → Nat → Nat) (ca : Nat → ClassId) (N : Nat → Nat) (M0 MZ : me_M) (RZ : Int32) (A : Nat → Prop) : Array Value → Jvm.State → Outcome → Jvm.State → Prop := va_Qi (fun r (_ : Unit) => r = RZ ∧ me_wf N MZ ∧ me_kp M0 MZ ∧ (RZ = 1 ∨ RZ = 0)) (fg_B D A (fun _ => me_W ad ca MZ) (fun _ => [])) A
set_option maxHeartbeats 4000000 in
set_option maxRecDepth 100000 in
theorem c_M_notSame (l : Launch) (D : va_G) (ad : Nat → Nat → Nat) (ca : Nat → ClassId) (N : Nat → Nat) (M0 MZ : me_M) (RZ : Int32) (j0 : Nat) (h : f_M_notSame M0 j0 = (some (MZ, RZ))) (hwf : me_wf N M0) (hj0 : j0 < N 1) (sz : Nat) : Met l y_M_notSame (fg_w y_M_notSame prog_14_method_36_code 5 (some .boolean)) rm_M_notSame (va_Pc [.ref (ad 1 j0)] (fz_P D (me_T ca) (me_W ad ca M0) sz)) (q_M_notSame D ad ca N M0 MZ RZ (va_A (me_W ad ca M0) sz)) rm_M_notSame.cells rm_M_notSame.slots (va_A (me_W ad ca M0) sz) := by
  refine fz_enter (fun A => q_M_notSame D ad ca N M0 MZ RZ A) (by decide +kernel) (Nat.le_of_ble_eq_true rfl) ?_
  intro p e s m below meth c ls A hx hb hml hown hts hr hlocks hin hP hK hD hS hA hX hl hz
  have hl : lv_has ls 5 [(0, .ref (ad 1 j0))] := hl
  unfold f_M_notSame at h
  have hkp : me_kp M0 M0 := me_kp.rf
  have hkb := hkp
  have b_46 : ∀ (M : me_M) (y1 : Int32) (y2 : Int32) (H : Heap) (locs : List Loc) (ls : Array Slot), f_M_notSame_b46 j0 M y1 y2 = (some (MZ, RZ)) → (y1 = 1 ∨ y1 = 0) → (y2 = 1 ∨ y2 = 0) → me_wf N M → me_kp M0 M → va_P D classes (me_W ad ca M) H → va_D A (me_W ad ca M) → va_S A s.heap H locs → lv_has ls 5 [(0, .ref (ad 1 j0)), (1, .int y1), (2, .int y2)] → W p l e rm_M_notSame s m [.ref (ad 1 j0)].toArray below meth c H locs 0 0 (MQ below (q_M_notSame D ad ca N M0 MZ RZ A) [.ref (ad 1 j0)].toArray s rm_M_notSame.cells rm_M_notSame.slots A) (F0 m 46 ls []) := by
    intro M y1 y2 H locs ls h zy1 zy2 hwf hkp hP hD hS hl
    unfold f_M_notSame_b46 at h
    have hkb := hkp
    refine lv_aload_n hx hb d_M_notSame_46 rfl (lv_at hl 0 rfl) ?_
    refine g_M_52 hx hb hts hown hK hP hwf hj0 (hts _ u_1793) d_M_notSame_47 ?_
    obtain ⟨j1, e2, h⟩ := bd_ob h
    have hj1 : j1 < N 16 := (hwf.2.1 1 j0 52 _ e2 (by decide) hj0)
    refine me_opt (j := j1) e2 ?_
    refine lv_sipush (v := 30075) hx hb d_M_notSame_50 (by decide) ?_
    obtain ⟨g3, h⟩ := gd_ob h
    refine me_lald hx hb hK hP hwf hj1 (me_in (i := (30075 : Int32)) (k := 30075) (by decide) (by decide) g3) d_M_notSame_53 ?_
    refine fg_topl (y := mL M 16 j1 30075) (congrArg _ (by decide)) ?_
    obtain ⟨v4, ev4, h⟩ := st_ob h
    refine fg_topl (y := v4) ev4.symm ?_
    refine lv_lstore_n (lv' := [(3, .long v4), (0, .ref (ad 1 j0)), (1, .int y1), (2, .int y2)]) hx hb d_M_notSame_54 rfl hl (by decide) rfl (fun ls hl => ?_)
    refine lv_iload_n hx hb d_M_notSame_55 rfl (lv_at hl 3 rfl) ?_
    refine lv_if_eq (tgt := 74) hx hb d_M_notSame_56 (by decide) (fun c5 => ?_) (fun c5 => ?_)
    · have h := if_t c5 h
      refine lv_iload_n hx hb d_M_notSame_74 rfl (lv_at hl 2 rfl) ?_
      refine lv_if_eq (tgt := 86) hx hb d_M_notSame_75 (by decide) (fun c6 => ?_) (fun c6 => ?_)
      · have h := if_t c6 h
        refine lv_iconst (v := 1) hx hb d_M_notSame_86 (by decide) ?_
        have z7 : (1 : Int32) = 1 ∨ (1 : Int32) = 0 := (by decide)
        cases h
        exact fg_retz () hx hb hr hlocks (me_nz z7) ⟨rfl, ⟨hwf, hkp, z7⟩⟩ hP (hK.sub (tys' := []) [] rfl) hD hS (Nat.le_of_ble_eq_true rfl) (Nat.le_of_ble_eq_true rfl) d_M_notSame_87
      have h := if_f c6 h
      refine lv_aload_n hx hb d_M_notSame_78 rfl (lv_at hl 1 rfl) ?_
      refine lv_sipush (v := 30076) hx hb d_M_notSame_79 (by decide) ?_
      refine lv_lload_n hx hb d_M_notSame_82 rfl (lv_at hl 0 rfl) ?_
      obtain ⟨M8, eM8, h⟩ := bd_ob h
      refine me_thenv0 (M1 := M8) (me_runV (C := "FilterGuardModel") (As := [.int 30076, .long v4]) (rest := []) ⟨hx, hb, hml, hown, hts⟩ (c_M_without l D ad ca N M M8 j0 (30076 : Int32) v4 eM8 hwf hj0 _) rfl (by show fg_nm y_M_without 2; decide +kernel) u_2262 u_2264 u_138 u_192 u_2265 ⟨Nat.le_of_ble_eq_true rfl, Nat.le_of_ble_eq_true rfl⟩ hX hz hK hP hD hwf hS hA hj0 (by decide) rfl rfl rfl hl.1 (Nat.le_of_ble_eq_true rfl) d_M_notSame_83 ⟨Nat.le_of_ble_eq_true rfl, Nat.le_of_ble_eq_true rfl⟩) hP hD hK hS hA rfl rfl (fun H locs hw hP hD hS => ?_)
      obtain ⟨hwf, hk9⟩ := hw
      have hkp := hkp.tr hk9
      refine lv_iconst (v := 1) hx hb d_M_notSame_86 (by decide) ?_
      have z9 : (1 : Int32) = 1 ∨ (1 : Int32) = 0 := (by decide)
      cases h
      exact fg_retz () hx hb hr hlocks (me_nz z9) ⟨rfl, ⟨hwf, hkp, z9⟩⟩ hP (hK.sub (tys' := []) [] rfl) hD hS (Nat.le_of_ble_eq_true rfl) (Nat.le_of_ble_eq_true rfl) d_M_notSame_87
    have h := if_f c5 h
    refine lv_aload_n hx hb d_M_notSame_59 rfl (lv_at hl 1 rfl) ?_
    refine lv_sipush (v := 30075) hx hb d_M_notSame_60 (by decide) ?_
    refine lv_aload_n hx hb d_M_notSame_63 rfl (lv_at hl 1 rfl) ?_
    refine g_M_52 hx hb hts hown hK hP hwf hj0 (hts _ u_1793) d_M_notSame_64 ?_
    refine me_opt (j := j1) e2 ?_
    refine lv_sipush (v := 30076) hx hb d_M_notSame_67 (by decide) ?_
    obtain ⟨g10, h⟩ := gd_ob h
    refine me_lald hx hb hK hP hwf hj1 (me_in (i := (30076 : Int32)) (k := 30076) (by decide) (by decide) g10) d_M_notSame_70 ?_
    refine fg_topl (y := mL M 16 j1 30076) (congrArg _ (by decide)) ?_
    obtain ⟨M11, eM11, h⟩ := bd_ob h
    refine me_thenv0 (M1 := M11) (me_runV (C := "FilterGuardModel") (As := [.int 30075, .long (mL M 16 j1 30076)]) (rest := []) ⟨hx, hb, hml, hown, hts⟩ (c_M_without l D ad ca N M M11 j0 (30075 : Int32) (mL M 16 j1 30076) eM11 hwf hj0 _) rfl (by show fg_nm y_M_without 2; decide +kernel) u_2262 u_2264 u_138 u_192 u_2265 ⟨Nat.le_of_ble_eq_true rfl, Nat.le_of_ble_eq_true rfl⟩ hX hz hK hP hD hwf hS hA hj0 (by decide) rfl rfl rfl hl.1 (Nat.le_of_ble_eq_true rfl) d_M_notSame_71 ⟨Nat.le_of_ble_eq_true rfl, Nat.le_of_ble_eq_true rfl⟩) hP hD hK hS hA rfl rfl (fun H locs hw hP hD hS => ?_)
    obtain ⟨hwf, hk9⟩ := hw
    have hkp := hkp.tr hk9
    refine lv_iload_n hx hb d_M_notSame_74 rfl (lv_at hl 2 rfl) ?_
    refine lv_if_eq (tgt := 86) hx hb d_M_notSame_75 (by decide) (fun c12 => ?_) (fun c12 => ?_)
    · have h := if_t c12 h
      refine lv_iconst (v := 1) hx hb d_M_notSame_86 (by decide) ?_
      have z13 : (1 : Int32) = 1 ∨ (1 : Int32) = 0 := (by decide)
      cases h
      exact fg_retz () hx hb hr hlocks (me_nz z13) ⟨rfl, ⟨hwf, hkp, z13⟩⟩ hP (hK.sub (tys' := []) [] rfl) hD hS (Nat.le_of_ble_eq_true rfl) (Nat.le_of_ble_eq_true rfl) d_M_notSame_87
    have h := if_f c12 h
    refine lv_aload_n hx hb d_M_notSame_78 rfl (lv_at hl 1 rfl) ?_
    refine lv_sipush (v := 30076) hx hb d_M_notSame_79 (by decide) ?_
    refine lv_lload_n hx hb d_M_notSame_82 rfl (lv_at hl 0 rfl) ?_
    obtain ⟨M14, eM14, h⟩ := bd_ob h
    refine me_thenv0 (M1 := M14) (me_runV (C := "FilterGuardModel") (As := [.int 30076, .long v4]) (rest := []) ⟨hx, hb, hml, hown, hts⟩ (c_M_without l D ad ca N M11 M14 j0 (30076 : Int32) v4 eM14 hwf hj0 _) rfl (by show fg_nm y_M_without 2; decide +kernel) u_2262 u_2264 u_138 u_192 u_2265 ⟨Nat.le_of_ble_eq_true rfl, Nat.le_of_ble_eq_true rfl⟩ hX hz hK hP hD hwf hS hA hj0 (by decide) rfl rfl rfl hl.1 (Nat.le_of_ble_eq_true rfl) d_M_notSame_83 ⟨Nat.le_of_ble_eq_true rfl, Nat.le_of_ble_eq_true rfl⟩) hP hD hK hS hA rfl rfl (fun H locs hw hP hD hS => ?_)
    obtain ⟨hwf, hk9⟩ := hw
    have hkp := hkp.tr hk9
    refine lv_iconst (v := 1) hx hb d_M_notSame_86 (by decide) ?_
    have z15 : (1 : Int32) = 1 ∨ (1 : Int32) = 0 := (by decide)
    cases h
    exact fg_retz () hx hb hr hlocks (me_nz z15) ⟨rfl, ⟨hwf, hkp, z15⟩⟩ hP (hK.sub (tys' := []) [] rfl) hD hS (Nat.le_of_ble_eq_true rfl) (Nat.le_of_ble_eq_true rfl) d_M_notSame_87
  refine lv_aload_n hx hb d_M_notSame_0 rfl (lv_at hl 0 rfl) ?_
  refine lv_sipush (v := 30075) hx hb d_M_notSame_1 (by decide) ?_
  obtain ⟨M16, r17, eM16, h⟩ := b2_ob h
  refine me_theni0 (M1 := M16) (me_runV (C := "FilterGuardModel") (As := [.int 30075]) (rest := []) ⟨hx, hb, hml, hown, hts⟩ (c_M_isExact l D ad ca N M0 M16 r17 j0 (30075 : Int32) eM16 hwf hj0 _) rfl (by show fg_nm y_M_isExact 1; decide +kernel) u_2251 u_2253 u_136 u_192 u_2254 ⟨Nat.le_of_ble_eq_true rfl, Nat.le_of_ble_eq_true rfl⟩ hX hz hK hP hD hwf hS hA hj0 (by decide) rfl rfl rfl hl.1 (Nat.le_of_ble_eq_true rfl) d_M_notSame_4 ⟨Nat.le_of_ble_eq_true rfl, Nat.le_of_ble_eq_true rfl⟩) hP hD hK hS hA rfl rfl (fun H locs hw hP hD hS => ?_)
  obtain ⟨hwf, hk9, zr17⟩ := hw
  have hkp := hkp.tr hk9
  refine lv_istore_n (lv' := [(1, .int r17), (0, .ref (ad 1 j0))]) hx hb d_M_notSame_7 rfl hl (by decide) rfl (fun ls hl => ?_)
  refine lv_aload_n hx hb d_M_notSame_8 rfl (lv_at hl 1 rfl) ?_
  refine lv_sipush (v := 30076) hx hb d_M_notSame_9 (by decide) ?_
  obtain ⟨M18, r19, eM18, h⟩ := b2_ob h
  refine me_theni0 (M1 := M18) (me_runV (C := "FilterGuardModel") (As := [.int 30076]) (rest := []) ⟨hx, hb, hml, hown, hts⟩ (c_M_isExact l D ad ca N M16 M18 r19 j0 (30076 : Int32) eM18 hwf hj0 _) rfl (by show fg_nm y_M_isExact 1; decide +kernel) u_2251 u_2253 u_136 u_192 u_2254 ⟨Nat.le_of_ble_eq_true rfl, Nat.le_of_ble_eq_true rfl⟩ hX hz hK hP hD hwf hS hA hj0 (by decide) rfl rfl rfl hl.1 (Nat.le_of_ble_eq_true rfl) d_M_notSame_12 ⟨Nat.le_of_ble_eq_true rfl, Nat.le_of_ble_eq_true rfl⟩) hP hD hK hS hA rfl rfl (fun H locs hw hP hD hS => ?_)
  obtain ⟨hwf, hk9, zr19⟩ := hw
  have hkp := hkp.tr hk9
  refine lv_istore_n (lv' := [(2, .int r19), (1, .int r17), (0, .ref (ad 1 j0))]) hx hb d_M_notSame_15 rfl hl (by decide) rfl (fun ls hl => ?_)
  refine lv_iload_n hx hb d_M_notSame_16 rfl (lv_at hl 1 rfl) ?_
  refine lv_if_eq (tgt := 46) hx hb d_M_notSame_17 (by decide) (fun c20 => ?_) (fun c20 => ?_)
  · have h := if_t c20 h
    exact b_46 M18 r17 r19 _ _ _ h zr17 zr19 hwf hkp hP hD hS (lv_sub hl [2, 1, 0] rfl)
  have h := if_f c20 h
  refine lv_iload_n hx hb d_M_notSame_20 rfl (lv_at hl 0 rfl) ?_
  refine lv_if_eq (tgt := 46) hx hb d_M_notSame_21 (by decide) (fun c21 => ?_) (fun c21 => ?_)
  · have h := if_t c21 h
    exact b_46 M18 r17 r19 _ _ _ h zr17 zr19 hwf hkp hP hD hS (lv_sub hl [2, 1, 0] rfl)
  have h := if_f c21 h
  refine lv_aload_n hx hb d_M_notSame_24 rfl (lv_at hl 2 rfl) ?_
  refine g_M_52 hx hb hts hown hK hP hwf hj0 (hts _ u_1793) d_M_notSame_25 ?_
  obtain ⟨j22, e23, h⟩ := bd_ob h
  have hj22 : j22 < N 16 := (hwf.2.1 1 j0 52 _ (kp_r hkb hkp e23) (by decide) hj0)
  refine me_opt (j := j22) (kp_r hkb hkp e23) ?_
  refine lv_sipush (v := 30075) hx hb d_M_notSame_28 (by decide) ?_
  obtain ⟨g24, h⟩ := gd_ob h
  refine me_lald hx hb hK hP hwf hj22 (me_in (i := (30075 : Int32)) (k := 30075) (by decide) (by decide) (kp_c hkb.z hkp.z g24)) d_M_notSame_31 ?_
  refine fg_topl (y := mL M18 16 j22 30075) (congrArg _ (by decide)) ?_
  refine lv_aload_n hx hb d_M_notSame_32 rfl (lv_at hl 2 rfl) ?_
  refine g_M_52 hx hb hts hown hK hP hwf hj0 (hts _ u_1793) d_M_notSame_33 ?_
  refine me_opt (j := j22) (kp_r hkb hkp e23) ?_
  refine lv_sipush (v := 30076) hx hb d_M_notSame_36 (by decide) ?_
  obtain ⟨g25, h⟩ := gd_ob h
  refine me_lald hx hb hK hP hwf hj22 (me_in (i := (30076 : Int32)) (k := 30076) (by decide) (by decide) (kp_c hkb.z hkp.z g25)) d_M_notSame_39 ?_
  refine fg_topl (y := mL M18 16 j22 30076) (congrArg _ (by decide)) ?_
  refine W.lcmp hx hb d_M_notSame_40 ?_
  refine lv_if_ne (tgt := 46) hx hb d_M_notSame_41 (by decide) (fun c26 => ?_) (fun c26 => ?_)
  · have h := if_f (fun z => c26 ((lg_cmp_eq _ _).mpr z)) h
    exact b_46 M18 r17 r19 _ _ _ h zr17 zr19 hwf hkp hP hD hS (lv_sub hl [2, 1, 0] rfl)
  have h := if_t ((lg_cmp_eq _ _).mp c26) h
  refine lv_iconst (v := 0) hx hb d_M_notSame_44 (by decide) ?_
  have z27 : (0 : Int32) = 1 ∨ (0 : Int32) = 0 := (by decide)
  cases h
  exact fg_retz () hx hb hr hlocks (me_nz z27) ⟨rfl, ⟨hwf, hkp, z27⟩⟩ hP (hK.sub (tys' := []) [] rfl) hD hS (Nat.le_of_ble_eq_true rfl) (Nat.le_of_ble_eq_true rfl) d_M_notSame_45
theorem d_M_isOne_0 : decode prog_14_method_37_code 0 = .ok (.lload_n 0, 1) := by decide +kernel
theorem d_M_isOne_1 : decode prog_14_method_37_code 1 = .ok (.lconst 0, 1) := by decide +kernel
theorem d_M_isOne_2 : decode prog_14_method_37_code 2 = .ok (.lcmp, 1) := by decide +kernel
theorem d_M_isOne_3 : decode prog_14_method_37_code 3 = .ok (.ifCond .eq 17, 3) := by decide +kernel
theorem d_M_isOne_20 : decode prog_14_method_37_code 20 = .ok (.iconst 0, 1) := by decide +kernel
theorem d_M_isOne_21 : decode prog_14_method_37_code 21 = .ok (.ireturn, 1) := by decide +kernel
theorem d_M_isOne_6 : decode prog_14_method_37_code 6 = .ok (.lload_n 0, 1) := by decide +kernel
theorem d_M_isOne_7 : decode prog_14_method_37_code 7 = .ok (.lload_n 0, 1) := by decide +kernel
theorem d_M_isOne_8 : decode prog_14_method_37_code 8 = .ok (.lconst 1, 1) := by decide +kernel
theorem d_M_isOne_9 : decode prog_14_method_37_code 9 = .ok (.lsub, 1) := by decide +kernel
theorem d_M_isOne_10 : decode prog_14_method_37_code 10 = .ok (.land, 1) := by decide +kernel
theorem d_M_isOne_11 : decode prog_14_method_37_code 11 = .ok (.lconst 0, 1) := by decide +kernel
theorem d_M_isOne_12 : decode prog_14_method_37_code 12 = .ok (.lcmp, 1) := by decide +kernel
theorem d_M_isOne_13 : decode prog_14_method_37_code 13 = .ok (.ifCond .ne 7, 3) := by decide +kernel
theorem d_M_isOne_16 : decode prog_14_method_37_code 16 = .ok (.iconst 1, 1) := by decide +kernel
theorem d_M_isOne_17 : decode prog_14_method_37_code 17 = .ok (.goto 4, 3) := by decide +kernel
abbrev y_M_isOne : MethodName := ⟨"FilterGuardModel", "isOne", "(J)Z"⟩
def f_M_isOne (x0 : Int64) : Option Int32 := (if x0 = 0 then some (0 : Int32) else (if (x0 &&& (x0 - 1)) = 0 then some (1 : Int32) else some (0 : Int32)))
def rm_M_isOne : Room := { frames := 1, cells := 0, slots := 0, locals := 20 }
abbrev q_M_isOne (D : va_G) (RZ : Int32) (A : Nat → Prop) : Array Value → Jvm.State → Outcome → Jvm.State → Prop := va_Qi (fun r (_ : Unit) => r = RZ ∧ (RZ = 1 ∨ RZ = 0)) (fg_B D A (fun _ => []) (fun _ => [])) A
set_option maxHeartbeats 4000000 in
set_option maxRecDepth 100000 in
theorem c_M_isOne (l : Launch) (D : va_G) (RZ : Int32) (x0 : Int64) (h : f_M_isOne x0 = (some RZ)) (sz : Nat) : Met l y_M_isOne (fg_w y_M_isOne prog_14_method_37_code 2 (some .boolean)) rm_M_isOne (va_Pc [.long x0] (fg_P D [] [] sz)) (q_M_isOne D RZ (va_A [] sz)) rm_M_isOne.cells rm_M_isOne.slots (va_A [] sz) := by
  refine fg_enter (fun A => q_M_isOne D RZ A) (by decide +kernel) (Nat.le_of_ble_eq_true rfl) ?_
  intro p e s m below meth c ls A hx hb hml hown hts hr hlocks hin hP hK hD hS hA hX hl
  have hl : lv_has ls 2 [(0, .long x0)] := hl
  unfold f_M_isOne at h
  refine lv_lload_n hx hb d_M_isOne_0 rfl (lv_at hl 0 rfl) ?_
  refine lv_lconst (v := 0) hx hb d_M_isOne_1 (by decide) ?_
  refine W.lcmp hx hb d_M_isOne_2 ?_
  refine lv_if_eq (tgt := 20) hx hb d_M_isOne_3 (by decide) (fun c1 => ?_) (fun c1 => ?_)
  · have h := if_t ((lg_cmp_eq _ _).mp c1) h
    refine lv_iconst (v := 0) hx hb d_M_isOne_20 (by decide) ?_
    have z2 : (0 : Int32) = 1 ∨ (0 : Int32) = 0 := (by decide)
    cases h
    exact fg_retz () hx hb hr hlocks (me_nz z2) ⟨rfl, z2⟩ me_P0 (hK.sub (tys' := []) [] rfl) me_D0 hS (Nat.le_of_ble_eq_true rfl) (Nat.le_of_ble_eq_true rfl) d_M_isOne_21
  have h := if_f (fun z => c1 ((lg_cmp_eq _ _).mpr z)) h
  refine lv_lload_n hx hb d_M_isOne_6 rfl (lv_at hl 0 rfl) ?_
  refine lv_lload_n hx hb d_M_isOne_7 rfl (lv_at hl 0 rfl) ?_
  refine lv_lconst (v := 1) hx hb d_M_isOne_8 (by decide) ?_
  refine lv_lsub hx hb d_M_isOne_9 ?_
  refine lv_land hx hb d_M_isOne_10 ?_
  refine lv_lconst (v := 0) hx hb d_M_isOne_11 (by decide) ?_
  refine W.lcmp hx hb d_M_isOne_12 ?_
  refine lv_if_ne (tgt := 20) hx hb d_M_isOne_13 (by decide) (fun c3 => ?_) (fun c3 => ?_)
  · have h := if_f (fun z => c3 ((lg_cmp_eq _ _).mpr z)) h
    refine lv_iconst (v := 0) hx hb d_M_isOne_20 (by decide) ?_
    have z4 : (0 : Int32) = 1 ∨ (0 : Int32) = 0 := (by decide)
    cases h
    exact fg_retz () hx hb hr hlocks (me_nz z4) ⟨rfl, z4⟩ me_P0 (hK.sub (tys' := []) [] rfl) me_D0 hS (Nat.le_of_ble_eq_true rfl) (Nat.le_of_ble_eq_true rfl) d_M_isOne_21
  have h := if_t ((lg_cmp_eq _ _).mp c3) h
  refine lv_iconst (v := 1) hx hb d_M_isOne_16 (by decide) ?_
  refine lv_goto (tgt := 21) hx hb d_M_isOne_17 (by decide) ?_
  have z5 : (1 : Int32) = 1 ∨ (1 : Int32) = 0 := (by decide)
  cases h
  exact fg_retz () hx hb hr hlocks (me_nz z5) ⟨rfl, z5⟩ me_P0 (hK.sub (tys' := []) [] rfl) me_D0 hS (Nat.le_of_ble_eq_true rfl) (Nat.le_of_ble_eq_true rfl) d_M_isOne_21
theorem d_M_meets_159 : decode prog_14_method_38_code 159 = .ok (.iload_n 1, 1) := by decide +kernel
theorem d_M_meets_160 : decode prog_14_method_38_code 160 = .ok (.ifCond .eq 43, 3) := by decide +kernel
theorem d_M_meets_203 : decode prog_14_method_38_code 203 = .ok (.iconst 1, 1) := by decide +kernel
theorem d_M_meets_204 : decode prog_14_method_38_code 204 = .ok (.ireturn, 1) := by decide +kernel
theorem d_M_meets_163 : decode prog_14_method_38_code 163 = .ok (.aload_n 0, 1) := by decide +kernel
theorem d_M_meets_164 : decode prog_14_method_38_code 164 = .ok (.getfield 104, 3) := by decide +kernel
theorem d_M_meets_167 : decode prog_14_method_38_code 167 = .ok (.sipush 30076, 3) := by decide +kernel
theorem d_M_meets_170 : decode prog_14_method_38_code 170 = .ok (.aload_n 0, 1) := by decide +kernel
theorem d_M_meets_171 : decode prog_14_method_38_code 171 = .ok (.getfield 104, 3) := by decide +kernel
theorem d_M_meets_174 : decode prog_14_method_38_code 174 = .ok (.sipush 30076, 3) := by decide +kernel
theorem d_M_meets_177 : decode prog_14_method_38_code 177 = .ok (.laload, 1) := by decide +kernel
theorem d_M_meets_178 : decode prog_14_method_38_code 178 = .ok (.lload_n 2, 1) := by decide +kernel
theorem d_M_meets_179 : decode prog_14_method_38_code 179 = .ok (.lor, 1) := by decide +kernel
theorem d_M_meets_180 : decode prog_14_method_38_code 180 = .ok (.lastore, 1) := by decide +kernel
theorem d_M_meets_181 : decode prog_14_method_38_code 181 = .ok (.aload_n 0, 1) := by decide +kernel
theorem d_M_meets_182 : decode prog_14_method_38_code 182 = .ok (.getfield 107, 3) := by decide +kernel
theorem d_M_meets_185 : decode prog_14_method_38_code 185 = .ok (.sipush 30076, 3) := by decide +kernel
theorem d_M_meets_188 : decode prog_14_method_38_code 188 = .ok (.aload_n 0, 1) := by decide +kernel
theorem d_M_meets_189 : decode prog_14_method_38_code 189 = .ok (.getfield 107, 3) := by decide +kernel
theorem d_M_meets_192 : decode prog_14_method_38_code 192 = .ok (.sipush 30076, 3) := by decide +kernel
theorem d_M_meets_195 : decode prog_14_method_38_code 195 = .ok (.laload, 1) := by decide +kernel
theorem d_M_meets_196 : decode prog_14_method_38_code 196 = .ok (.lload_n 2, 1) := by decide +kernel
theorem d_M_meets_197 : decode prog_14_method_38_code 197 = .ok (.ldc2_w 162, 3) := by decide +kernel
theorem d_M_meets_200 : decode prog_14_method_38_code 200 = .ok (.lxor, 1) := by decide +kernel
theorem d_M_meets_201 : decode prog_14_method_38_code 201 = .ok (.land, 1) := by decide +kernel
theorem d_M_meets_202 : decode prog_14_method_38_code 202 = .ok (.lastore, 1) := by decide +kernel
theorem d_M_meets_71 : decode prog_14_method_38_code 71 = .ok (.istore_n 1, 1) := by decide +kernel
theorem d_M_meets_72 : decode prog_14_method_38_code 72 = .ok (.aload_n 0, 1) := by decide +kernel
theorem d_M_meets_73 : decode prog_14_method_38_code 73 = .ok (.getfield 104, 3) := by decide +kernel
theorem d_M_meets_76 : decode prog_14_method_38_code 76 = .ok (.sipush 30075, 3) := by decide +kernel
theorem d_M_meets_79 : decode prog_14_method_38_code 79 = .ok (.laload, 1) := by decide +kernel
theorem d_M_meets_80 : decode prog_14_method_38_code 80 = .ok (.lstore_n 2, 1) := by decide +kernel
theorem d_M_meets_81 : decode prog_14_method_38_code 81 = .ok (.aload_n 0, 1) := by decide +kernel
theorem d_M_meets_82 : decode prog_14_method_38_code 82 = .ok (.sipush 30076, 3) := by decide +kernel
theorem d_M_meets_85 : decode prog_14_method_38_code 85 = .ok (.invokevirtual 192, 3) := by decide +kernel
theorem d_M_meets_88 : decode prog_14_method_38_code 88 = .ok (.ifCond .eq 71, 3) := by decide +kernel
theorem d_M_meets_91 : decode prog_14_method_38_code 91 = .ok (.aload_n 0, 1) := by decide +kernel
theorem d_M_meets_92 : decode prog_14_method_38_code 92 = .ok (.getfield 104, 3) := by decide +kernel
theorem d_M_meets_95 : decode prog_14_method_38_code 95 = .ok (.sipush 30076, 3) := by decide +kernel
theorem d_M_meets_98 : decode prog_14_method_38_code 98 = .ok (.laload, 1) := by decide +kernel
theorem d_M_meets_99 : decode prog_14_method_38_code 99 = .ok (.invokestatic 270, 3) := by decide +kernel
theorem u_2255 : Cond.methodLink "FilterGuardModel" 270 ⟨"FilterGuardModel", "isOne", "(J)Z"⟩ ∈ fg_g := fg_in (List.mem_of_getElem? (i := 2255) (by decide +kernel)) rfl
theorem u_2257 : Cond.code ⟨"FilterGuardModel", "isOne", "(J)Z"⟩ prog_14_method_37_code 2 (some .boolean) ∈ fg_g := fg_in (List.mem_of_getElem? (i := 2257) (by decide +kernel)) rfl
theorem u_2256 : Cond.static ⟨"FilterGuardModel", "isOne", "(J)Z"⟩ ∈ fg_g := fg_in (List.mem_of_getElem? (i := 2256) (by decide +kernel)) rfl
theorem d_M_meets_102 : decode prog_14_method_38_code 102 = .ok (.ifCond .eq 57, 3) := by decide +kernel
theorem d_M_meets_105 : decode prog_14_method_38_code 105 = .ok (.aload_n 0, 1) := by decide +kernel
theorem d_M_meets_106 : decode prog_14_method_38_code 106 = .ok (.getfield 104, 3) := by decide +kernel
theorem d_M_meets_109 : decode prog_14_method_38_code 109 = .ok (.sipush 30075, 3) := by decide +kernel
theorem d_M_meets_112 : decode prog_14_method_38_code 112 = .ok (.aload_n 0, 1) := by decide +kernel
theorem d_M_meets_113 : decode prog_14_method_38_code 113 = .ok (.getfield 104, 3) := by decide +kernel
theorem d_M_meets_116 : decode prog_14_method_38_code 116 = .ok (.sipush 30075, 3) := by decide +kernel
theorem d_M_meets_119 : decode prog_14_method_38_code 119 = .ok (.laload, 1) := by decide +kernel
theorem d_M_meets_120 : decode prog_14_method_38_code 120 = .ok (.aload_n 0, 1) := by decide +kernel
theorem d_M_meets_121 : decode prog_14_method_38_code 121 = .ok (.getfield 104, 3) := by decide +kernel
theorem d_M_meets_124 : decode prog_14_method_38_code 124 = .ok (.sipush 30076, 3) := by decide +kernel
theorem d_M_meets_127 : decode prog_14_method_38_code 127 = .ok (.laload, 1) := by decide +kernel
theorem d_M_meets_128 : decode prog_14_method_38_code 128 = .ok (.lor, 1) := by decide +kernel
theorem d_M_meets_129 : decode prog_14_method_38_code 129 = .ok (.lastore, 1) := by decide +kernel
theorem d_M_meets_130 : decode prog_14_method_38_code 130 = .ok (.aload_n 0, 1) := by decide +kernel
theorem d_M_meets_131 : decode prog_14_method_38_code 131 = .ok (.getfield 107, 3) := by decide +kernel
theorem d_M_meets_134 : decode prog_14_method_38_code 134 = .ok (.sipush 30075, 3) := by decide +kernel
theorem d_M_meets_137 : decode prog_14_method_38_code 137 = .ok (.aload_n 0, 1) := by decide +kernel
theorem d_M_meets_138 : decode prog_14_method_38_code 138 = .ok (.getfield 107, 3) := by decide +kernel
theorem d_M_meets_141 : decode prog_14_method_38_code 141 = .ok (.sipush 30075, 3) := by decide +kernel
theorem d_M_meets_144 : decode prog_14_method_38_code 144 = .ok (.laload, 1) := by decide +kernel
theorem d_M_meets_145 : decode prog_14_method_38_code 145 = .ok (.aload_n 0, 1) := by decide +kernel
theorem d_M_meets_146 : decode prog_14_method_38_code 146 = .ok (.getfield 104, 3) := by decide +kernel
theorem d_M_meets_149 : decode prog_14_method_38_code 149 = .ok (.sipush 30076, 3) := by decide +kernel
theorem d_M_meets_152 : decode prog_14_method_38_code 152 = .ok (.laload, 1) := by decide +kernel
theorem d_M_meets_153 : decode prog_14_method_38_code 153 = .ok (.ldc2_w 162, 3) := by decide +kernel
theorem d_M_meets_156 : decode prog_14_method_38_code 156 = .ok (.lxor, 1) := by decide +kernel
theorem d_M_meets_157 : decode prog_14_method_38_code 157 = .ok (.land, 1) := by decide +kernel
theorem d_M_meets_158 : decode prog_14_method_38_code 158 = .ok (.lastore, 1) := by decide +kernel
theorem d_M_meets_70 : decode prog_14_method_38_code 70 = .ok (.iconst 0, 1) := by decide +kernel
theorem d_M_meets_0 : decode prog_14_method_38_code 0 = .ok (.aload_n 0, 1) := by decide +kernel
theorem d_M_meets_1 : decode prog_14_method_38_code 1 = .ok (.getfield 104, 3) := by decide +kernel
theorem d_M_meets_4 : decode prog_14_method_38_code 4 = .ok (.sipush 30075, 3) := by decide +kernel
theorem d_M_meets_7 : decode prog_14_method_38_code 7 = .ok (.laload, 1) := by decide +kernel
theorem d_M_meets_8 : decode prog_14_method_38_code 8 = .ok (.aload_n 0, 1) := by decide +kernel
theorem d_M_meets_9 : decode prog_14_method_38_code 9 = .ok (.getfield 107, 3) := by decide +kernel
theorem d_M_meets_12 : decode prog_14_method_38_code 12 = .ok (.sipush 30075, 3) := by decide +kernel
theorem d_M_meets_15 : decode prog_14_method_38_code 15 = .ok (.laload, 1) := by decide +kernel
theorem d_M_meets_16 : decode prog_14_method_38_code 16 = .ok (.lor, 1) := by decide +kernel
theorem d_M_meets_17 : decode prog_14_method_38_code 17 = .ok (.aload_n 0, 1) := by decide +kernel
theorem d_M_meets_18 : decode prog_14_method_38_code 18 = .ok (.getfield 104, 3) := by decide +kernel
theorem d_M_meets_21 : decode prog_14_method_38_code 21 = .ok (.sipush 30076, 3) := by decide +kernel
theorem d_M_meets_24 : decode prog_14_method_38_code 24 = .ok (.laload, 1) := by decide +kernel
theorem d_M_meets_25 : decode prog_14_method_38_code 25 = .ok (.aload_n 0, 1) := by decide +kernel
theorem d_M_meets_26 : decode prog_14_method_38_code 26 = .ok (.getfield 107, 3) := by decide +kernel
theorem d_M_meets_29 : decode prog_14_method_38_code 29 = .ok (.sipush 30076, 3) := by decide +kernel
theorem d_M_meets_32 : decode prog_14_method_38_code 32 = .ok (.laload, 1) := by decide +kernel
theorem d_M_meets_33 : decode prog_14_method_38_code 33 = .ok (.lor, 1) := by decide +kernel
theorem d_M_meets_34 : decode prog_14_method_38_code 34 = .ok (.land, 1) := by decide +kernel
theorem d_M_meets_35 : decode prog_14_method_38_code 35 = .ok (.lconst 0, 1) := by decide +kernel
theorem d_M_meets_36 : decode prog_14_method_38_code 36 = .ok (.lcmp, 1) := by decide +kernel
theorem d_M_meets_37 : decode prog_14_method_38_code 37 = .ok (.ifCond .ne 5, 3) := by decide +kernel
theorem d_M_meets_42 : decode prog_14_method_38_code 42 = .ok (.aload_n 0, 1) := by decide +kernel
theorem d_M_meets_43 : decode prog_14_method_38_code 43 = .ok (.sipush 30075, 3) := by decide +kernel
theorem d_M_meets_46 : decode prog_14_method_38_code 46 = .ok (.invokevirtual 192, 3) := by decide +kernel
theorem d_M_meets_49 : decode prog_14_method_38_code 49 = .ok (.ifCond .eq 21, 3) := by decide +kernel
theorem d_M_meets_52 : decode prog_14_method_38_code 52 = .ok (.aload_n 0, 1) := by decide +kernel
theorem d_M_meets_53 : decode prog_14_method_38_code 53 = .ok (.getfield 104, 3) := by decide +kernel
theorem d_M_meets_56 : decode prog_14_method_38_code 56 = .ok (.sipush 30075, 3) := by decide +kernel
theorem d_M_meets_59 : decode prog_14_method_38_code 59 = .ok (.laload, 1) := by decide +kernel
theorem d_M_meets_60 : decode prog_14_method_38_code 60 = .ok (.invokestatic 270, 3) := by decide +kernel
theorem d_M_meets_63 : decode prog_14_method_38_code 63 = .ok (.ifCond .eq 7, 3) := by decide +kernel
theorem d_M_meets_66 : decode prog_14_method_38_code 66 = .ok (.iconst 1, 1) := by decide +kernel
theorem d_M_meets_67 : decode prog_14_method_38_code 67 = .ok (.goto 4, 3) := by decide +kernel
theorem d_M_meets_40 : decode prog_14_method_38_code 40 = .ok (.iconst 0, 1) := by decide +kernel
theorem d_M_meets_41 : decode prog_14_method_38_code 41 = .ok (.ireturn, 1) := by decide +kernel
abbrev y_M_meets : MethodName := ⟨"FilterGuardModel", "meets", "()Z"⟩
def f_M_meets_b159 (j0 : Nat) (M : me_M) (y1 : Int32) (y2 : Int64) : Option (me_M × Int32) := (if y1 = 0 then some (M, (1 : Int32)) else bd (mR M 1 j0 52) (fun (j3 : Nat) => gd (30076 < mZ M 16 j3) (st (wL M 16 j3 30076 ((mL M 16 j3 30076) ||| y2)) (fun (M6 : me_M) => bd (mR M 1 j0 53) (fun (j7 : Nat) => gd (30076 < mZ M 16 j7) (st (wL M6 16 j7 30076 ((mL M6 16 j7 30076) &&& (y2 ^^^ (-1)))) (fun (M10 : me_M) => some (M10, (1 : Int32)))))))))
def f_M_meets_b71 (j0 : Nat) (M : me_M) (s0 : Int32) : Option (me_M × Int32) := bd (mR M 1 j0 52) (fun (j12 : Nat) => gd (30075 < mZ M 16 j12) (st (mL M 16 j12 30075) (fun (v15 : Int64) => b2 (f_M_isExact M j0 (30076 : Int32)) (fun (M16 : me_M) (r17 : Int32) => (if r17 = 0 then f_M_meets_b159 j0 M16 s0 v15 else gd (30076 < mZ M 16 j12) (bd (f_M_isOne (mL M16 16 j12 30076)) (fun (r20 : Int32) => (if r20 = 0 then f_M_meets_b159 j0 M16 s0 v15 else st (wL M16 16 j12 30075 ((mL M16 16 j12 30075) ||| (mL M16 16 j12 30076))) (fun (M22 : me_M) => bd (mR M 1 j0 53) (fun (j23 : Nat) => gd (30075 < mZ M 16 j23) (st (wL M22 16 j23 30075 ((mL M22 16 j23 30075) &&& ((mL M22 16 j12 30076) ^^^ (-1)))) (fun (M26 : me_M) => f_M_meets_b159 j0 M26 s0 v15))))))))))))
def f_M_meets_b70 (j0 : Nat) (M : me_M) : Option (me_M × Int32) := f_M_meets_b71 j0 M (0 : Int32)
def f_M_meets (M0 : me_M) (j0 : Nat) : Option (me_M × Int32) := bd (mR M0 1 j0 52) (fun (j27 : Nat) => gd (30075 < mZ M0 16 j27) (bd (mR M0 1 j0 53) (fun (j30 : Nat) => gd (30075 < mZ M0 16 j30) (gd (30076 < mZ M0 16 j27) (gd (30076 < mZ M0 16 j30) (st (((mL M0 16 j27 30075) ||| (mL M0 16 j30 30075)) &&& ((mL M0 16 j27 30076) ||| (mL M0 16 j30 30076))) (fun (v35 : Int64) => (if v35 = 0 then some (M0, (0 : Int32)) else b2 (f_M_isExact M0 j0 (30075 : Int32)) (fun (M37 : me_M) (r38 : Int32) => (if r38 = 0 then f_M_meets_b70 j0 M37 else bd (f_M_isOne (mL M37 16 j27 30075)) (fun (r40 : Int32) => (if r40 = 0 then f_M_meets_b70 j0 M37 else f_M_meets_b71 j0 M37 (1 : Int32)))))))))))))
def rm_M_meets : Room := { frames := 2, cells := 0, slots := 0, locals := 41 }
abbrev q_M_meets (D : va_G) (ad : Nat → Nat → Nat) (ca : Nat → ClassId) (N : Nat → Nat) (M0 MZ : me_M) (RZ : Int32) (A : Nat → Prop) : Array Value → Jvm.State → Outcome → Jvm.State → Prop := va_Qi (fun r (_ : Unit) => r = RZ ∧ me_wf N MZ ∧ me_kp M0 MZ ∧ (RZ = 1 ∨ RZ = 0)) (fg_B D A (fun _ => me_W ad ca MZ) (fun _ => [])) A
set_option maxHeartbeats 4000000 in
set_option maxRecDepth 100000 in
theorem c_M_meets (l : Launch) (D : va_G) (ad : Nat → Nat → Nat) (ca : Nat → ClassId) (N : Nat → Nat) (M0 MZ : me_M) (RZ : Int32) (j0 : Nat) (h : f_M_meets M0 j0 = (some (MZ, RZ))) (hwf : me_wf N M0) (hj0 : j0 < N 1) (sz : Nat) : Met l y_M_meets (fg_w y_M_meets prog_14_method_38_code 4 (some .boolean)) rm_M_meets (va_Pc [.ref (ad 1 j0)] (fz_P D (me_T ca) (me_W ad ca M0) sz)) (q_M_meets D ad ca N M0 MZ RZ (va_A (me_W ad ca M0) sz)) rm_M_meets.cells rm_M_meets.slots (va_A (me_W ad ca M0) sz) := by
  refine fz_enter (fun A => q_M_meets D ad ca N M0 MZ RZ A) (by decide +kernel) (Nat.le_of_ble_eq_true rfl) ?_
  intro p e s m below meth c ls A hx hb hml hown hts hr hlocks hin hP hK hD hS hA hX hl hz
  have hl : lv_has ls 4 [(0, .ref (ad 1 j0))] := hl
  unfold f_M_meets at h
  have hkp : me_kp M0 M0 := me_kp.rf
  have hkb := hkp
  have b_159 : ∀ (M : me_M) (y1 : Int32) (y2 : Int64) (H : Heap) (locs : List Loc) (ls : Array Slot), f_M_meets_b159 j0 M y1 y2 = (some (MZ, RZ)) → (y1 = 1 ∨ y1 = 0) → me_wf N M → me_kp M0 M → va_P D classes (me_W ad ca M) H → va_D A (me_W ad ca M) → va_S A s.heap H locs → lv_has ls 4 [(0, .ref (ad 1 j0)), (1, .int y1), (2, .long y2)] → W p l e rm_M_meets s m [.ref (ad 1 j0)].toArray below meth c H locs 0 0 (MQ below (q_M_meets D ad ca N M0 MZ RZ A) [.ref (ad 1 j0)].toArray s rm_M_meets.cells rm_M_meets.slots A) (F0 m 159 ls []) := by
    intro M y1 y2 H locs ls h zy1 hwf hkp hP hD hS hl
    unfold f_M_meets_b159 at h
    have hkb := hkp
    refine lv_iload_n hx hb d_M_meets_159 rfl (lv_at hl 1 rfl) ?_
    refine lv_if_eq (tgt := 203) hx hb d_M_meets_160 (by decide) (fun c1 => ?_) (fun c1 => ?_)
    · have h := if_t c1 h
      refine lv_iconst (v := 1) hx hb d_M_meets_203 (by decide) ?_
      have z2 : (1 : Int32) = 1 ∨ (1 : Int32) = 0 := (by decide)
      cases h
      exact fg_retz () hx hb hr hlocks (me_nz z2) ⟨rfl, ⟨hwf, hkp, z2⟩⟩ hP (hK.sub (tys' := []) [] rfl) hD hS (Nat.le_of_ble_eq_true rfl) (Nat.le_of_ble_eq_true rfl) d_M_meets_204
    have h := if_f c1 h
    refine lv_aload_n hx hb d_M_meets_163 rfl (lv_at hl 0 rfl) ?_
    refine g_M_52 hx hb hts hown hK hP hwf hj0 (hts _ u_1793) d_M_meets_164 ?_
    obtain ⟨j3, e4, h⟩ := bd_ob h
    have hj3 : j3 < N 16 := (hwf.2.1 1 j0 52 _ e4 (by decide) hj0)
    refine me_opt (j := j3) e4 ?_
    refine lv_sipush (v := 30076) hx hb d_M_meets_167 (by decide) ?_
    refine lv_aload_n hx hb d_M_meets_170 rfl (lv_at hl 0 rfl) ?_
    refine g_M_52 hx hb hts hown hK hP hwf hj0 (hts _ u_1793) d_M_meets_171 ?_
    refine me_opt (j := j3) e4 ?_
    refine lv_sipush (v := 30076) hx hb d_M_meets_174 (by decide) ?_
    obtain ⟨g5, h⟩ := gd_ob h
    refine me_lald hx hb hK hP hwf hj3 (me_in (i := (30076 : Int32)) (k := 30076) (by decide) (by decide) g5) d_M_meets_177 ?_
    refine fg_topl (y := mL M 16 j3 30076) (congrArg _ (by decide)) ?_
    refine lv_lload_n hx hb d_M_meets_178 rfl (lv_at hl 2 rfl) ?_
    refine lv_lor hx hb d_M_meets_179 ?_
    obtain ⟨M6, eM6, h⟩ := st_ob h
    refine me_last (eM6.trans (by rw [show (30076 : Int32).toNatClampNeg = 30076 by decide])) hx hb hK hP hD hwf hS hj3 (me_in (i := (30076 : Int32)) (k := 30076) (by decide) (by decide) g5) d_M_meets_180 (fun H locs hP hD hwf hS => ?_)
    have hkp := kp_L eM6 hkp
    refine lv_aload_n hx hb d_M_meets_181 rfl (lv_at hl 0 rfl) ?_
    refine g_M_53 hx hb hts hown hK hP hwf hj0 (hts _ u_1794) d_M_meets_182 ?_
    obtain ⟨j7, e8, h⟩ := bd_ob h
    have hj7 : j7 < N 16 := (hwf.2.1 1 j0 53 _ (kp_r hkb hkp e8) (by decide) hj0)
    refine me_opt (j := j7) (kp_r hkb hkp e8) ?_
    refine lv_sipush (v := 30076) hx hb d_M_meets_185 (by decide) ?_
    refine lv_aload_n hx hb d_M_meets_188 rfl (lv_at hl 0 rfl) ?_
    refine g_M_53 hx hb hts hown hK hP hwf hj0 (hts _ u_1794) d_M_meets_189 ?_
    refine me_opt (j := j7) (kp_r hkb hkp e8) ?_
    refine lv_sipush (v := 30076) hx hb d_M_meets_192 (by decide) ?_
    obtain ⟨g9, h⟩ := gd_ob h
    refine me_lald hx hb hK hP hwf hj7 (me_in (i := (30076 : Int32)) (k := 30076) (by decide) (by decide) (kp_c hkb.z hkp.z g9)) d_M_meets_195 ?_
    refine fg_topl (y := mL M6 16 j7 30076) (congrArg _ (by decide)) ?_
    refine lv_lload_n hx hb d_M_meets_196 rfl (lv_at hl 2 rfl) ?_
    refine lv_ldc2 hx hb hown (hts _ u_2071) d_M_meets_197 ?_
    refine lv_lxor hx hb d_M_meets_200 ?_
    refine lv_land hx hb d_M_meets_201 ?_
    obtain ⟨M10, eM10, h⟩ := st_ob h
    refine me_last (eM10.trans (by rw [show (30076 : Int32).toNatClampNeg = 30076 by decide])) hx hb hK hP hD hwf hS hj7 (me_in (i := (30076 : Int32)) (k := 30076) (by decide) (by decide) (kp_c hkb.z hkp.z g9)) d_M_meets_202 (fun H locs hP hD hwf hS => ?_)
    have hkp := kp_L eM10 hkp
    refine lv_iconst (v := 1) hx hb d_M_meets_203 (by decide) ?_
    have z11 : (1 : Int32) = 1 ∨ (1 : Int32) = 0 := (by decide)
    cases h
    exact fg_retz () hx hb hr hlocks (me_nz z11) ⟨rfl, ⟨hwf, hkp, z11⟩⟩ hP (hK.sub (tys' := []) [] rfl) hD hS (Nat.le_of_ble_eq_true rfl) (Nat.le_of_ble_eq_true rfl) d_M_meets_204
  have b_71 : ∀ (M : me_M) (s0 : Int32) (H : Heap) (locs : List Loc) (ls : Array Slot), f_M_meets_b71 j0 M s0 = (some (MZ, RZ)) → (s0 = 1 ∨ s0 = 0) → me_wf N M → me_kp M0 M → va_P D classes (me_W ad ca M) H → va_D A (me_W ad ca M) → va_S A s.heap H locs → lv_has ls 4 [(0, .ref (ad 1 j0))] → W p l e rm_M_meets s m [.ref (ad 1 j0)].toArray below meth c H locs 0 0 (MQ below (q_M_meets D ad ca N M0 MZ RZ A) [.ref (ad 1 j0)].toArray s rm_M_meets.cells rm_M_meets.slots A) (F0 m 71 ls [.int s0]) := by
    intro M s0 H locs ls h zs0 hwf hkp hP hD hS hl
    unfold f_M_meets_b71 at h
    have hkb := hkp
    refine lv_istore_n (lv' := [(1, .int s0), (0, .ref (ad 1 j0))]) hx hb d_M_meets_71 rfl hl (by decide) rfl (fun ls hl => ?_)
    refine lv_aload_n hx hb d_M_meets_72 rfl (lv_at hl 1 rfl) ?_
    refine g_M_52 hx hb hts hown hK hP hwf hj0 (hts _ u_1793) d_M_meets_73 ?_
    obtain ⟨j12, e13, h⟩ := bd_ob h
    have hj12 : j12 < N 16 := (hwf.2.1 1 j0 52 _ e13 (by decide) hj0)
    refine me_opt (j := j12) e13 ?_
    refine lv_sipush (v := 30075) hx hb d_M_meets_76 (by decide) ?_
    obtain ⟨g14, h⟩ := gd_ob h
    refine me_lald hx hb hK hP hwf hj12 (me_in (i := (30075 : Int32)) (k := 30075) (by decide) (by decide) g14) d_M_meets_79 ?_
    refine fg_topl (y := mL M 16 j12 30075) (congrArg _ (by decide)) ?_
    obtain ⟨v15, ev15, h⟩ := st_ob h
    refine fg_topl (y := v15) ev15.symm ?_
    refine lv_lstore_n (lv' := [(2, .long v15), (1, .int s0), (0, .ref (ad 1 j0))]) hx hb d_M_meets_80 rfl hl (by decide) rfl (fun ls hl => ?_)
    refine lv_aload_n hx hb d_M_meets_81 rfl (lv_at hl 2 rfl) ?_
    refine lv_sipush (v := 30076) hx hb d_M_meets_82 (by decide) ?_
    obtain ⟨M16, r17, eM16, h⟩ := b2_ob h
    refine me_theni0 (M1 := M16) (me_runV (C := "FilterGuardModel") (As := [.int 30076]) (rest := []) ⟨hx, hb, hml, hown, hts⟩ (c_M_isExact l D ad ca N M M16 r17 j0 (30076 : Int32) eM16 hwf hj0 _) rfl (by show fg_nm y_M_isExact 1; decide +kernel) u_2251 u_2253 u_136 u_192 u_2254 ⟨Nat.le_of_ble_eq_true rfl, Nat.le_of_ble_eq_true rfl⟩ hX hz hK hP hD hwf hS hA hj0 (by decide) rfl rfl rfl hl.1 (Nat.le_of_ble_eq_true rfl) d_M_meets_85 ⟨Nat.le_of_ble_eq_true rfl, Nat.le_of_ble_eq_true rfl⟩) hP hD hK hS hA rfl rfl (fun H locs hw hP hD hS => ?_)
    obtain ⟨hwf, hk9, zr17⟩ := hw
    have hkp := hkp.tr hk9
    refine lv_if_eq (tgt := 159) hx hb d_M_meets_88 (by decide) (fun c18 => ?_) (fun c18 => ?_)
    · have h := if_t c18 h
      exact b_159 M16 s0 v15 _ _ _ h zs0 hwf hkp hP hD hS (lv_sub hl [2, 1, 0] rfl)
    have h := if_f c18 h
    refine lv_aload_n hx hb d_M_meets_91 rfl (lv_at hl 2 rfl) ?_
    refine g_M_52 hx hb hts hown hK hP hwf hj0 (hts _ u_1793) d_M_meets_92 ?_
    refine me_opt (j := j12) (kp_r hkb hkp e13) ?_
    refine lv_sipush (v := 30076) hx hb d_M_meets_95 (by decide) ?_
    obtain ⟨g19, h⟩ := gd_ob h
    refine me_lald hx hb hK hP hwf hj12 (me_in (i := (30076 : Int32)) (k := 30076) (by decide) (by decide) (kp_c hkb.z hkp.z g19)) d_M_meets_98 ?_
    refine fg_topl (y := mL M16 16 j12 30076) (congrArg _ (by decide)) ?_
    obtain ⟨r20, er20, h⟩ := bd_ob h
    refine me_pani' (r0 := r20) (fg_runS (wc := []) (tc := []) (A2 := A) (As := [.long (mL M16 16 j12 30076)]) (rest := []) ⟨hx, hb, hml, hown, hts⟩ (c_M_isOne l D r20 (mL M16 16 j12 30076) er20 _) (by show fg_nm y_M_isOne 1; decide +kernel) u_2255 u_2256 u_192 u_2257 ⟨Nat.le_of_ble_eq_true rfl, Nat.le_of_ble_eq_true rfl⟩ hX me_P0 (hK.sub (tys' := []) [] rfl) me_D0 rfl hl.1 (Nat.le_of_ble_eq_true rfl) d_M_meets_99 ⟨Nat.le_of_ble_eq_true rfl, Nat.le_of_ble_eq_true rfl⟩) hP hD hK hS hA rfl rfl (fun H locs hw hP hD hS => ?_)
    have zr20 := hw
    refine lv_if_eq (tgt := 159) hx hb d_M_meets_102 (by decide) (fun c21 => ?_) (fun c21 => ?_)
    · have h := if_t c21 h
      exact b_159 M16 s0 v15 _ _ _ h zs0 hwf hkp hP hD hS (lv_sub hl [2, 1, 0] rfl)
    have h := if_f c21 h
    refine lv_aload_n hx hb d_M_meets_105 rfl (lv_at hl 2 rfl) ?_
    refine g_M_52 hx hb hts hown hK hP hwf hj0 (hts _ u_1793) d_M_meets_106 ?_
    refine me_opt (j := j12) (kp_r hkb hkp e13) ?_
    refine lv_sipush (v := 30075) hx hb d_M_meets_109 (by decide) ?_
    refine lv_aload_n hx hb d_M_meets_112 rfl (lv_at hl 2 rfl) ?_
    refine g_M_52 hx hb hts hown hK hP hwf hj0 (hts _ u_1793) d_M_meets_113 ?_
    refine me_opt (j := j12) (kp_r hkb hkp e13) ?_
    refine lv_sipush (v := 30075) hx hb d_M_meets_116 (by decide) ?_
    refine me_lald hx hb hK hP hwf hj12 (me_in (i := (30075 : Int32)) (k := 30075) (by decide) (by decide) (kp_c hkb.z hkp.z g14)) d_M_meets_119 ?_
    refine fg_topl (y := mL M16 16 j12 30075) (congrArg _ (by decide)) ?_
    refine lv_aload_n hx hb d_M_meets_120 rfl (lv_at hl 2 rfl) ?_
    refine g_M_52 hx hb hts hown hK hP hwf hj0 (hts _ u_1793) d_M_meets_121 ?_
    refine me_opt (j := j12) (kp_r hkb hkp e13) ?_
    refine lv_sipush (v := 30076) hx hb d_M_meets_124 (by decide) ?_
    refine me_lald hx hb hK hP hwf hj12 (me_in (i := (30076 : Int32)) (k := 30076) (by decide) (by decide) (kp_c hkb.z hkp.z g19)) d_M_meets_127 ?_
    refine fg_topl (y := mL M16 16 j12 30076) (congrArg _ (by decide)) ?_
    refine lv_lor hx hb d_M_meets_128 ?_
    obtain ⟨M22, eM22, h⟩ := st_ob h
    refine me_last (eM22.trans (by rw [show (30075 : Int32).toNatClampNeg = 30075 by decide])) hx hb hK hP hD hwf hS hj12 (me_in (i := (30075 : Int32)) (k := 30075) (by decide) (by decide) (kp_c hkb.z hkp.z g14)) d_M_meets_129 (fun H locs hP hD hwf hS => ?_)
    have hkp := kp_L eM22 hkp
    refine lv_aload_n hx hb d_M_meets_130 rfl (lv_at hl 2 rfl) ?_
    refine g_M_53 hx hb hts hown hK hP hwf hj0 (hts _ u_1794) d_M_meets_131 ?_
    obtain ⟨j23, e24, h⟩ := bd_ob h
    have hj23 : j23 < N 16 := (hwf.2.1 1 j0 53 _ (kp_r hkb hkp e24) (by decide) hj0)
    refine me_opt (j := j23) (kp_r hkb hkp e24) ?_
    refine lv_sipush (v := 30075) hx hb d_M_meets_134 (by decide) ?_
    refine lv_aload_n hx hb d_M_meets_137 rfl (lv_at hl 2 rfl) ?_
    refine g_M_53 hx hb hts hown hK hP hwf hj0 (hts _ u_1794) d_M_meets_138 ?_
    refine me_opt (j := j23) (kp_r hkb hkp e24) ?_
    refine lv_sipush (v := 30075) hx hb d_M_meets_141 (by decide) ?_
    obtain ⟨g25, h⟩ := gd_ob h
    refine me_lald hx hb hK hP hwf hj23 (me_in (i := (30075 : Int32)) (k := 30075) (by decide) (by decide) (kp_c hkb.z hkp.z g25)) d_M_meets_144 ?_
    refine fg_topl (y := mL M22 16 j23 30075) (congrArg _ (by decide)) ?_
    refine lv_aload_n hx hb d_M_meets_145 rfl (lv_at hl 2 rfl) ?_
    refine g_M_52 hx hb hts hown hK hP hwf hj0 (hts _ u_1793) d_M_meets_146 ?_
    refine me_opt (j := j12) (kp_r hkb hkp e13) ?_
    refine lv_sipush (v := 30076) hx hb d_M_meets_149 (by decide) ?_
    refine me_lald hx hb hK hP hwf hj12 (me_in (i := (30076 : Int32)) (k := 30076) (by decide) (by decide) (kp_c hkb.z hkp.z g19)) d_M_meets_152 ?_
    refine fg_topl (y := mL M22 16 j12 30076) (congrArg _ (by decide)) ?_
    refine lv_ldc2 hx hb hown (hts _ u_2071) d_M_meets_153 ?_
    refine lv_lxor hx hb d_M_meets_156 ?_
    refine lv_land hx hb d_M_meets_157 ?_
    obtain ⟨M26, eM26, h⟩ := st_ob h
    refine me_last (eM26.trans (by rw [show (30075 : Int32).toNatClampNeg = 30075 by decide])) hx hb hK hP hD hwf hS hj23 (me_in (i := (30075 : Int32)) (k := 30075) (by decide) (by decide) (kp_c hkb.z hkp.z g25)) d_M_meets_158 (fun H locs hP hD hwf hS => ?_)
    have hkp := kp_L eM26 hkp
    exact b_159 M26 s0 v15 _ _ _ h zs0 hwf hkp hP hD hS (lv_sub hl [2, 1, 0] rfl)
  have b_70 : ∀ (M : me_M) (H : Heap) (locs : List Loc) (ls : Array Slot), f_M_meets_b70 j0 M = (some (MZ, RZ)) → me_wf N M → me_kp M0 M → va_P D classes (me_W ad ca M) H → va_D A (me_W ad ca M) → va_S A s.heap H locs → lv_has ls 4 [(0, .ref (ad 1 j0))] → W p l e rm_M_meets s m [.ref (ad 1 j0)].toArray below meth c H locs 0 0 (MQ below (q_M_meets D ad ca N M0 MZ RZ A) [.ref (ad 1 j0)].toArray s rm_M_meets.cells rm_M_meets.slots A) (F0 m 70 ls []) := by
    intro M H locs ls h hwf hkp hP hD hS hl
    unfold f_M_meets_b70 at h
    have hkb := hkp
    refine lv_iconst (v := 0) hx hb d_M_meets_70 (by decide) ?_
    exact b_71 M (0 : Int32) _ _ _ h (by decide) hwf hkp hP hD hS (lv_sub hl [0] rfl)
  refine lv_aload_n hx hb d_M_meets_0 rfl (lv_at hl 0 rfl) ?_
  refine g_M_52 hx hb hts hown hK hP hwf hj0 (hts _ u_1793) d_M_meets_1 ?_
  obtain ⟨j27, e28, h⟩ := bd_ob h
  have hj27 : j27 < N 16 := (hwf.2.1 1 j0 52 _ e28 (by decide) hj0)
  refine me_opt (j := j27) e28 ?_
  refine lv_sipush (v := 30075) hx hb d_M_meets_4 (by decide) ?_
  obtain ⟨g29, h⟩ := gd_ob h
  refine me_lald hx hb hK hP hwf hj27 (me_in (i := (30075 : Int32)) (k := 30075) (by decide) (by decide) g29) d_M_meets_7 ?_
  refine fg_topl (y := mL M0 16 j27 30075) (congrArg _ (by decide)) ?_
  refine lv_aload_n hx hb d_M_meets_8 rfl (lv_at hl 0 rfl) ?_
  refine g_M_53 hx hb hts hown hK hP hwf hj0 (hts _ u_1794) d_M_meets_9 ?_
  obtain ⟨j30, e31, h⟩ := bd_ob h
  have hj30 : j30 < N 16 := (hwf.2.1 1 j0 53 _ e31 (by decide) hj0)
  refine me_opt (j := j30) e31 ?_
  refine lv_sipush (v := 30075) hx hb d_M_meets_12 (by decide) ?_
  obtain ⟨g32, h⟩ := gd_ob h
  refine me_lald hx hb hK hP hwf hj30 (me_in (i := (30075 : Int32)) (k := 30075) (by decide) (by decide) g32) d_M_meets_15 ?_
  refine fg_topl (y := mL M0 16 j30 30075) (congrArg _ (by decide)) ?_
  refine lv_lor hx hb d_M_meets_16 ?_
  refine lv_aload_n hx hb d_M_meets_17 rfl (lv_at hl 0 rfl) ?_
  refine g_M_52 hx hb hts hown hK hP hwf hj0 (hts _ u_1793) d_M_meets_18 ?_
  refine me_opt (j := j27) e28 ?_
  refine lv_sipush (v := 30076) hx hb d_M_meets_21 (by decide) ?_
  obtain ⟨g33, h⟩ := gd_ob h
  refine me_lald hx hb hK hP hwf hj27 (me_in (i := (30076 : Int32)) (k := 30076) (by decide) (by decide) g33) d_M_meets_24 ?_
  refine fg_topl (y := mL M0 16 j27 30076) (congrArg _ (by decide)) ?_
  refine lv_aload_n hx hb d_M_meets_25 rfl (lv_at hl 0 rfl) ?_
  refine g_M_53 hx hb hts hown hK hP hwf hj0 (hts _ u_1794) d_M_meets_26 ?_
  refine me_opt (j := j30) e31 ?_
  refine lv_sipush (v := 30076) hx hb d_M_meets_29 (by decide) ?_
  obtain ⟨g34, h⟩ := gd_ob h
  refine me_lald hx hb hK hP hwf hj30 (me_in (i := (30076 : Int32)) (k := 30076) (by decide) (by decide) g34) d_M_meets_32 ?_
  refine fg_topl (y := mL M0 16 j30 30076) (congrArg _ (by decide)) ?_
  refine lv_lor hx hb d_M_meets_33 ?_
  refine lv_land hx hb d_M_meets_34 ?_
  obtain ⟨v35, ev35, h⟩ := st_ob h
  refine fg_topl (y := v35) ev35.symm ?_
  refine lv_lconst (v := 0) hx hb d_M_meets_35 (by decide) ?_
  refine W.lcmp hx hb d_M_meets_36 ?_
  refine lv_if_ne (tgt := 42) hx hb d_M_meets_37 (by decide) (fun c36 => ?_) (fun c36 => ?_)
  · have h := if_f (fun z => c36 ((lg_cmp_eq _ _).mpr z)) h
    refine lv_aload_n hx hb d_M_meets_42 rfl (lv_at hl 0 rfl) ?_
    refine lv_sipush (v := 30075) hx hb d_M_meets_43 (by decide) ?_
    obtain ⟨M37, r38, eM37, h⟩ := b2_ob h
    refine me_theni0 (M1 := M37) (me_runV (C := "FilterGuardModel") (As := [.int 30075]) (rest := []) ⟨hx, hb, hml, hown, hts⟩ (c_M_isExact l D ad ca N M0 M37 r38 j0 (30075 : Int32) eM37 hwf hj0 _) rfl (by show fg_nm y_M_isExact 1; decide +kernel) u_2251 u_2253 u_136 u_192 u_2254 ⟨Nat.le_of_ble_eq_true rfl, Nat.le_of_ble_eq_true rfl⟩ hX hz hK hP hD hwf hS hA hj0 (by decide) rfl rfl rfl hl.1 (Nat.le_of_ble_eq_true rfl) d_M_meets_46 ⟨Nat.le_of_ble_eq_true rfl, Nat.le_of_ble_eq_true rfl⟩) hP hD hK hS hA rfl rfl (fun H locs hw hP hD hS => ?_)
    obtain ⟨hwf, hk9, zr38⟩ := hw
    have hkp := hkp.tr hk9
    refine lv_if_eq (tgt := 70) hx hb d_M_meets_49 (by decide) (fun c39 => ?_) (fun c39 => ?_)
    · have h := if_t c39 h
      exact b_70 M37 _ _ _ h hwf hkp hP hD hS (lv_sub hl [0] rfl)
    have h := if_f c39 h
    refine lv_aload_n hx hb d_M_meets_52 rfl (lv_at hl 0 rfl) ?_
    refine g_M_52 hx hb hts hown hK hP hwf hj0 (hts _ u_1793) d_M_meets_53 ?_
    refine me_opt (j := j27) (kp_r hkb hkp e28) ?_
    refine lv_sipush (v := 30075) hx hb d_M_meets_56 (by decide) ?_
    refine me_lald hx hb hK hP hwf hj27 (me_in (i := (30075 : Int32)) (k := 30075) (by decide) (by decide) (kp_c hkb.z hkp.z g29)) d_M_meets_59 ?_
    refine fg_topl (y := mL M37 16 j27 30075) (congrArg _ (by decide)) ?_
    obtain ⟨r40, er40, h⟩ := bd_ob h
    refine me_pani' (r0 := r40) (fg_runS (wc := []) (tc := []) (A2 := A) (As := [.long (mL M37 16 j27 30075)]) (rest := []) ⟨hx, hb, hml, hown, hts⟩ (c_M_isOne l D r40 (mL M37 16 j27 30075) er40 _) (by show fg_nm y_M_isOne 1; decide +kernel) u_2255 u_2256 u_192 u_2257 ⟨Nat.le_of_ble_eq_true rfl, Nat.le_of_ble_eq_true rfl⟩ hX me_P0 (hK.sub (tys' := []) [] rfl) me_D0 rfl hl.1 (Nat.le_of_ble_eq_true rfl) d_M_meets_60 ⟨Nat.le_of_ble_eq_true rfl, Nat.le_of_ble_eq_true rfl⟩) hP hD hK hS hA rfl rfl (fun H locs hw hP hD hS => ?_)
    have zr40 := hw
    refine lv_if_eq (tgt := 70) hx hb d_M_meets_63 (by decide) (fun c41 => ?_) (fun c41 => ?_)
    · have h := if_t c41 h
      exact b_70 M37 _ _ _ h hwf hkp hP hD hS (lv_sub hl [0] rfl)
    have h := if_f c41 h
    refine lv_iconst (v := 1) hx hb d_M_meets_66 (by decide) ?_
    refine lv_goto (tgt := 71) hx hb d_M_meets_67 (by decide) ?_
    exact b_71 M37 (1 : Int32) _ _ _ h (by decide) hwf hkp hP hD hS (lv_sub hl [0] rfl)
  have h := if_t ((lg_cmp_eq _ _).mp c36) h
  refine lv_iconst (v := 0) hx hb d_M_meets_40 (by decide) ?_
  have z42 : (0 : Int32) = 1 ∨ (0 : Int32) = 0 := (by decide)
  cases h
  exact fg_retz () hx hb hr hlocks (me_nz z42) ⟨rfl, ⟨hwf, hkp, z42⟩⟩ hP (hK.sub (tys' := []) [] rfl) hD hS (Nat.le_of_ble_eq_true rfl) (Nat.le_of_ble_eq_true rfl) d_M_meets_41
