theorem d_Checks_allowsContext_75 : decode prog_3_method_9_code 75 = .ok (.putfield 34, 3) := by decide +kernel
theorem d_Checks_allowsContext_78 : decode prog_3_method_9_code 78 = .ok (.lload_n 1, 1) := by decide +kernel
theorem d_Checks_allowsContext_79 : decode prog_3_method_9_code 79 = .ok (.ldc2_w 110, 3) := by decide +kernel
theorem u_1648 : Cond.constantLong "FilterGuard$Checks" 110 16 ∈ fg_g := fg_in (List.mem_of_getElem? (i := 1648) (by decide +kernel)) rfl
theorem d_Checks_allowsContext_82 : decode prog_3_method_9_code 82 = .ok (.lcmp, 1) := by decide +kernel
theorem d_Checks_allowsContext_83 : decode prog_3_method_9_code 83 = .ok (.ifCond .ge 15, 3) := by decide +kernel
theorem d_Checks_allowsContext_98 : decode prog_3_method_9_code 98 = .ok (.iconst 1, 1) := by decide +kernel
theorem d_Checks_allowsContext_99 : decode prog_3_method_9_code 99 = .ok (.goto 4, 3) := by decide +kernel
theorem d_Checks_allowsContext_103 : decode prog_3_method_9_code 103 = .ok (.ireturn, 1) := by decide +kernel
theorem d_Checks_allowsContext_86 : decode prog_3_method_9_code 86 = .ok (.aload_n 0, 1) := by decide +kernel
theorem d_Checks_allowsContext_87 : decode prog_3_method_9_code 87 = .ok (.getfield 23, 3) := by decide +kernel
theorem d_Checks_allowsContext_90 : decode prog_3_method_9_code 90 = .ok (.getfield 105, 3) := by decide +kernel
theorem d_Checks_allowsContext_93 : decode prog_3_method_9_code 93 = .ok (.bipush 8, 2) := by decide +kernel
theorem d_Checks_allowsContext_95 : decode prog_3_method_9_code 95 = .ok (.if_icmp .ne 7, 3) := by decide +kernel
theorem d_Checks_allowsContext_102 : decode prog_3_method_9_code 102 = .ok (.iconst 0, 1) := by decide +kernel
theorem d_Checks_allowsContext_0 : decode prog_3_method_9_code 0 = .ok (.lload_n 1, 1) := by decide +kernel
theorem d_Checks_allowsContext_1 : decode prog_3_method_9_code 1 = .ok (.lconst 0, 1) := by decide +kernel
theorem d_Checks_allowsContext_2 : decode prog_3_method_9_code 2 = .ok (.lcmp, 1) := by decide +kernel
theorem d_Checks_allowsContext_3 : decode prog_3_method_9_code 3 = .ok (.ifCond .lt 35, 3) := by decide +kernel
theorem d_Checks_allowsContext_38 : decode prog_3_method_9_code 38 = .ok (.iconst 0, 1) := by decide +kernel
theorem d_Checks_allowsContext_39 : decode prog_3_method_9_code 39 = .ok (.ireturn, 1) := by decide +kernel
theorem d_Checks_allowsContext_6 : decode prog_3_method_9_code 6 = .ok (.lload_n 1, 1) := by decide +kernel
theorem d_Checks_allowsContext_7 : decode prog_3_method_9_code 7 = .ok (.aload_n 0, 1) := by decide +kernel
theorem d_Checks_allowsContext_8 : decode prog_3_method_9_code 8 = .ok (.getfield 23, 3) := by decide +kernel
theorem d_Checks_allowsContext_11 : decode prog_3_method_9_code 11 = .ok (.getfield 105, 3) := by decide +kernel
theorem d_Checks_allowsContext_14 : decode prog_3_method_9_code 14 = .ok (.i2l, 1) := by decide +kernel
theorem d_Checks_allowsContext_15 : decode prog_3_method_9_code 15 = .ok (.ladd, 1) := by decide +kernel
theorem d_Checks_allowsContext_16 : decode prog_3_method_9_code 16 = .ok (.ldc2_w 108, 3) := by decide +kernel
theorem u_1647 : Cond.constantLong "FilterGuard$Checks" 108 64 ∈ fg_g := fg_in (List.mem_of_getElem? (i := 1647) (by decide +kernel)) rfl
theorem d_Checks_allowsContext_19 : decode prog_3_method_9_code 19 = .ok (.lcmp, 1) := by decide +kernel
theorem d_Checks_allowsContext_20 : decode prog_3_method_9_code 20 = .ok (.ifCond .gt 18, 3) := by decide +kernel
theorem d_Checks_allowsContext_23 : decode prog_3_method_9_code 23 = .ok (.lload_n 1, 1) := by decide +kernel
theorem d_Checks_allowsContext_24 : decode prog_3_method_9_code 24 = .ok (.aload_n 0, 1) := by decide +kernel
theorem d_Checks_allowsContext_25 : decode prog_3_method_9_code 25 = .ok (.getfield 23, 3) := by decide +kernel
theorem d_Checks_allowsContext_28 : decode prog_3_method_9_code 28 = .ok (.getfield 105, 3) := by decide +kernel
theorem d_Checks_allowsContext_31 : decode prog_3_method_9_code 31 = .ok (.i2l, 1) := by decide +kernel
theorem d_Checks_allowsContext_32 : decode prog_3_method_9_code 32 = .ok (.lrem, 1) := by decide +kernel
theorem d_Checks_allowsContext_33 : decode prog_3_method_9_code 33 = .ok (.lconst 0, 1) := by decide +kernel
theorem d_Checks_allowsContext_34 : decode prog_3_method_9_code 34 = .ok (.lcmp, 1) := by decide +kernel
theorem d_Checks_allowsContext_35 : decode prog_3_method_9_code 35 = .ok (.ifCond .eq 5, 3) := by decide +kernel
theorem d_Checks_allowsContext_40 : decode prog_3_method_9_code 40 = .ok (.aload_n 0, 1) := by decide +kernel
theorem d_Checks_allowsContext_41 : decode prog_3_method_9_code 41 = .ok (.getfield 22, 3) := by decide +kernel
theorem d_Checks_allowsContext_44 : decode prog_3_method_9_code 44 = .ok (.aload_n 0, 1) := by decide +kernel
theorem d_Checks_allowsContext_45 : decode prog_3_method_9_code 45 = .ok (.getfield 23, 3) := by decide +kernel
theorem d_Checks_allowsContext_48 : decode prog_3_method_9_code 48 = .ok (.getfield 46, 3) := by decide +kernel
theorem d_Checks_allowsContext_51 : decode prog_3_method_9_code 51 = .ok (.aaload, 1) := by decide +kernel
theorem d_Checks_allowsContext_52 : decode prog_3_method_9_code 52 = .ok (.lload_n 1, 1) := by decide +kernel
theorem d_Checks_allowsContext_53 : decode prog_3_method_9_code 53 = .ok (.ldc2_w 110, 3) := by decide +kernel
theorem d_Checks_allowsContext_56 : decode prog_3_method_9_code 56 = .ok (.lcmp, 1) := by decide +kernel
theorem d_Checks_allowsContext_57 : decode prog_3_method_9_code 57 = .ok (.ifCond .lt 7, 3) := by decide +kernel
theorem d_Checks_allowsContext_64 : decode prog_3_method_9_code 64 = .ok (.lload_n 1, 1) := by decide +kernel
theorem d_Checks_allowsContext_65 : decode prog_3_method_9_code 65 = .ok (.lconst 0, 1) := by decide +kernel
theorem d_Checks_allowsContext_66 : decode prog_3_method_9_code 66 = .ok (.lcmp, 1) := by decide +kernel
theorem d_Checks_allowsContext_67 : decode prog_3_method_9_code 67 = .ok (.ifCond .ne 7, 3) := by decide +kernel
theorem d_Checks_allowsContext_74 : decode prog_3_method_9_code 74 = .ok (.iconst 5, 1) := by decide +kernel
theorem d_Checks_allowsContext_70 : decode prog_3_method_9_code 70 = .ok (.iconst 4, 1) := by decide +kernel
theorem d_Checks_allowsContext_71 : decode prog_3_method_9_code 71 = .ok (.goto 4, 3) := by decide +kernel
theorem d_Checks_allowsContext_60 : decode prog_3_method_9_code 60 = .ok (.iconst 1, 1) := by decide +kernel
theorem d_Checks_allowsContext_61 : decode prog_3_method_9_code 61 = .ok (.goto 14, 3) := by decide +kernel
abbrev y_Checks_allowsContext : MethodName := ⟨"FilterGuard$Checks", "allowsContext", "(J)Z"⟩
def f_Checks_allowsContext_b75 (j0 : Nat) (x1 : Int64) (M : me_M) (s0 : Int32) (s1 : Nat) : Option (me_M × Int32) := st (wI M 10 s1 0 s0) (fun (M1 : me_M) => (if x1 < 16 then bd (mR M 6 j0 0) (fun (j3 : Nat) => (if (mI M1 2 j3 11) = 8 then some (M1, (1 : Int32)) else some (M1, (0 : Int32)))) else some (M1, (1 : Int32))))
def f_Checks_allowsContext (M0 : me_M) (j0 : Nat) (x1 : Int64) : Option (me_M × Int32) := (if x1 < 0 then some (M0, (0 : Int32)) else bd (mR M0 6 j0 0) (fun (j7 : Nat) => (if 64 < (x1 + ((mI M0 2 j7 11).toInt64)) then some (M0, (0 : Int32)) else gd (((mI M0 2 j7 11).toInt64) ≠ 0) ((if (jlrem x1 ((mI M0 2 j7 11).toInt64)) = 0 then bd (mR M0 6 j0 3) (fun (j12 : Nat) => gd (¬ ((mI M0 2 j7 6) < 0 ∨ mZ M0 18 j12 ≤ (mI M0 2 j7 6).toNatClampNeg)) (bd (mR M0 18 j12 ((mI M0 2 j7 6).toNatClampNeg)) (fun (j15 : Nat) => (if x1 < 16 then (if x1 = 0 then f_Checks_allowsContext_b75 j0 x1 M0 (4 : Int32) j15 else f_Checks_allowsContext_b75 j0 x1 M0 (5 : Int32) j15) else f_Checks_allowsContext_b75 j0 x1 M0 (1 : Int32) j15)))) else some (M0, (0 : Int32)))))))
def rm_Checks_allowsContext : Room := { frames := 1, cells := 0, slots := 0, locals := 20 }
abbrev q_Checks_allowsContext (D : va_G) (ad : Nat → Nat → Nat) (ca : Nat → ClassId) (N : Nat → Nat) (M0 MZ : me_M) (RZ : Int32) (A : Nat → Prop) : Array Value → Jvm.State → Outcome → Jvm.State → Prop := va_Qi (fun r (_ : Unit) => r = RZ ∧ me_wf N MZ ∧ me_kp M0 MZ ∧ (RZ = 1 ∨ RZ = 0)) (fg_B D A (fun _ => me_W ad ca MZ) (fun _ => [])) A
set_option maxHeartbeats 4000000 in
set_option maxRecDepth 100000 in
theorem c_Checks_allowsContext (l : Launch) (D : va_G) (ad : Nat → Nat → Nat) (ca : Nat → ClassId) (N : Nat → Nat) (M0 MZ : me_M) (RZ : Int32) (j0 : Nat) (x1 : Int64) (h : f_Checks_allowsContext M0 j0 x1 = (some (MZ, RZ))) (hwf : me_wf N M0) (hj0 : j0 < N 6) (sz : Nat) : Met l y_Checks_allowsContext (fg_w y_Checks_allowsContext prog_3_method_9_code 3 (some .boolean)) rm_Checks_allowsContext (va_Pc [.ref (ad 6 j0), .long x1] (fz_P D (me_T ca) (me_W ad ca M0) sz)) (q_Checks_allowsContext D ad ca N M0 MZ RZ (va_A (me_W ad ca M0) sz)) rm_Checks_allowsContext.cells rm_Checks_allowsContext.slots (va_A (me_W ad ca M0) sz) := by
  refine fz_enter (fun A => q_Checks_allowsContext D ad ca N M0 MZ RZ A) (by decide +kernel) (Nat.le_of_ble_eq_true rfl) ?_
  intro p e s m below meth c ls A hx hb hml hown hts hr hlocks hin hP hK hD hS hA hX hl hz
  have hl : lv_has ls 3 [(0, .ref (ad 6 j0)), (1, .long x1)] := hl
  unfold f_Checks_allowsContext at h
  have hkp : me_kp M0 M0 := me_kp.rf
  have hkb := hkp
  have b_75 : ∀ (M : me_M) (s0 : Int32) (s1 : Nat) (H : Heap) (locs : List Loc) (ls : Array Slot), f_Checks_allowsContext_b75 j0 x1 M s0 s1 = (some (MZ, RZ)) → (s1 < N 10) → me_wf N M → me_kp M0 M → va_P D classes (me_W ad ca M) H → va_D A (me_W ad ca M) → va_S A s.heap H locs → lv_has ls 3 [(0, .ref (ad 6 j0)), (1, .long x1)] → W p l e rm_Checks_allowsContext s m [.ref (ad 6 j0), .long x1].toArray below meth c H locs 0 0 (MQ below (q_Checks_allowsContext D ad ca N M0 MZ RZ A) [.ref (ad 6 j0), .long x1].toArray s rm_Checks_allowsContext.cells rm_Checks_allowsContext.slots A) (F0 m 75 ls [.int s0, .ref (ad 10 s1)]) := by
    intro M s0 s1 H locs ls h hs1 hwf hkp hP hD hS hl
    unfold f_Checks_allowsContext_b75 at h
    have hkb := hkp
    obtain ⟨M1, eM1, h⟩ := st_ob h
    refine p_Cell_0 eM1 hx hb hts hown hK hP hD hwf hS hs1 (hts _ u_421) d_Checks_allowsContext_75 (fun H locs hP hD hwf hS => ?_)
    have hkp := kp_I eM1 hkp
    refine lv_lload_n hx hb d_Checks_allowsContext_78 rfl (lv_at hl 1 rfl) ?_
    refine lv_ldc2 hx hb hown (hts _ u_1648) d_Checks_allowsContext_79 ?_
    refine W.lcmp hx hb d_Checks_allowsContext_82 ?_
    refine lv_if_ge (tgt := 98) hx hb d_Checks_allowsContext_83 (by decide) (fun c2 => ?_) (fun c2 => ?_)
    · have h := if_f (Int64.not_lt.mpr ((lg_cmp_ge _ _).mp c2)) h
      refine lv_iconst (v := 1) hx hb d_Checks_allowsContext_98 (by decide) ?_
      refine lv_goto (tgt := 103) hx hb d_Checks_allowsContext_99 (by decide) ?_
      exact me_retz (me_kp M0) h (by decide) hx hb hr hlocks hwf hkp hP hK hD hS d_Checks_allowsContext_103
    have h := if_t (Int64.not_le.mp (fun z => c2 ((lg_cmp_ge _ _).mpr z))) h
    refine lv_aload_n hx hb d_Checks_allowsContext_86 rfl (lv_at hl 0 rfl) ?_
    refine g_Checks_0 hx hb hts hown hK hP hwf hj0 (hts _ u_610) d_Checks_allowsContext_87 ?_
    obtain ⟨j3, e4, h⟩ := bd_ob h
    have hj3 : j3 < N 2 := (hwf.2.1 6 j0 0 _ (kp_r hkb hkp e4) (by decide) hj0)
    refine me_opt (j := j3) (kp_r hkb hkp e4) ?_
    refine g_Code_11 hx hb hts hown hK hP hwf hj3 (hts _ u_258) d_Checks_allowsContext_90 ?_
    refine lv_bipush (v := 8) hx hb d_Checks_allowsContext_93 (by decide) ?_
    refine lv_icmp_ne (tgt := 102) hx hb d_Checks_allowsContext_95 (by decide) (fun c5 => ?_) (fun c5 => ?_)
    · have h := if_f c5 h
      refine lv_iconst (v := 0) hx hb d_Checks_allowsContext_102 (by decide) ?_
      exact me_retz (me_kp M0) h (by decide) hx hb hr hlocks hwf hkp hP hK hD hS d_Checks_allowsContext_103
    have h := if_t c5 h
    refine lv_iconst (v := 1) hx hb d_Checks_allowsContext_98 (by decide) ?_
    refine lv_goto (tgt := 103) hx hb d_Checks_allowsContext_99 (by decide) ?_
    exact me_retz (me_kp M0) h (by decide) hx hb hr hlocks hwf hkp hP hK hD hS d_Checks_allowsContext_103
  refine lv_lload_n hx hb d_Checks_allowsContext_0 rfl (lv_at hl 1 rfl) ?_
  refine lv_lconst (v := 0) hx hb d_Checks_allowsContext_1 (by decide) ?_
  refine W.lcmp hx hb d_Checks_allowsContext_2 ?_
  refine lv_if_lt (tgt := 38) hx hb d_Checks_allowsContext_3 (by decide) (fun c6 => ?_) (fun c6 => ?_)
  · have h := if_t ((lg_cmp_lt _ _).mp c6) h
    refine lv_iconst (v := 0) hx hb d_Checks_allowsContext_38 (by decide) ?_
    exact me_retz (me_kp M0) h (by decide) hx hb hr hlocks hwf hkp hP hK hD hS d_Checks_allowsContext_39
  have h := if_f (fun z => c6 ((lg_cmp_lt _ _).mpr z)) h
  refine lv_lload_n hx hb d_Checks_allowsContext_6 rfl (lv_at hl 1 rfl) ?_
  refine lv_aload_n hx hb d_Checks_allowsContext_7 rfl (lv_at hl 0 rfl) ?_
  refine g_Checks_0 hx hb hts hown hK hP hwf hj0 (hts _ u_610) d_Checks_allowsContext_8 ?_
  obtain ⟨j7, e8, h⟩ := bd_ob h
  have hj7 : j7 < N 2 := (hwf.2.1 6 j0 0 _ e8 (by decide) hj0)
  refine me_opt (j := j7) e8 ?_
  refine g_Code_11 hx hb hts hown hK hP hwf hj7 (hts _ u_258) d_Checks_allowsContext_11 ?_
  refine lv_i2l (v := (mI M0 2 j7 11).toInt64) hx hb d_Checks_allowsContext_14 rfl ?_
  refine lv_ladd hx hb d_Checks_allowsContext_15 ?_
  refine lv_ldc2 hx hb hown (hts _ u_1647) d_Checks_allowsContext_16 ?_
  refine W.lcmp hx hb d_Checks_allowsContext_19 ?_
  refine lv_if_gt (tgt := 38) hx hb d_Checks_allowsContext_20 (by decide) (fun c9 => ?_) (fun c9 => ?_)
  · have h := if_t ((lg_cmp_gt _ _).mp c9) h
    refine lv_iconst (v := 0) hx hb d_Checks_allowsContext_38 (by decide) ?_
    exact me_retz (me_kp M0) h (by decide) hx hb hr hlocks hwf hkp hP hK hD hS d_Checks_allowsContext_39
  have h := if_f (fun z => c9 ((lg_cmp_gt _ _).mpr z)) h
  refine lv_lload_n hx hb d_Checks_allowsContext_23 rfl (lv_at hl 1 rfl) ?_
  refine lv_aload_n hx hb d_Checks_allowsContext_24 rfl (lv_at hl 0 rfl) ?_
  refine g_Checks_0 hx hb hts hown hK hP hwf hj0 (hts _ u_610) d_Checks_allowsContext_25 ?_
  refine me_opt (j := j7) e8 ?_
  refine g_Code_11 hx hb hts hown hK hP hwf hj7 (hts _ u_258) d_Checks_allowsContext_28 ?_
  refine lv_i2l (v := (mI M0 2 j7 11).toInt64) hx hb d_Checks_allowsContext_31 rfl ?_
  obtain ⟨g10, h⟩ := gd_ob h
  refine lv_lrem hx hb d_Checks_allowsContext_32 g10 ?_
  refine fg_topl (y := jlrem x1 ((mI M0 2 j7 11).toInt64)) rfl ?_
  refine lv_lconst (v := 0) hx hb d_Checks_allowsContext_33 (by decide) ?_
  refine W.lcmp hx hb d_Checks_allowsContext_34 ?_
  refine lv_if_eq (tgt := 40) hx hb d_Checks_allowsContext_35 (by decide) (fun c11 => ?_) (fun c11 => ?_)
  · have h := if_t ((lg_cmp_eq _ _).mp c11) h
    refine lv_aload_n hx hb d_Checks_allowsContext_40 rfl (lv_at hl 0 rfl) ?_
    refine g_Checks_3 hx hb hts hown hK hP hwf hj0 (hts _ u_613) d_Checks_allowsContext_41 ?_
    obtain ⟨j12, e13, h⟩ := bd_ob h
    have hj12 : j12 < N 18 := (hwf.2.1 6 j0 3 _ e13 (by decide) hj0)
    refine me_opt (j := j12) e13 ?_
    refine lv_aload_n hx hb d_Checks_allowsContext_44 rfl (lv_at hl 0 rfl) ?_
    refine g_Checks_0 hx hb hts hown hK hP hwf hj0 (hts _ u_610) d_Checks_allowsContext_45 ?_
    refine me_opt (j := j7) e8 ?_
    refine g_Code_6 hx hb hts hown hK hP hwf hj7 (hts _ u_234) d_Checks_allowsContext_48 ?_
    obtain ⟨g14, h⟩ := gd_ob h
    refine me_aald (k := 18) (t := 10) hx hb hK hP hwf hj12 (by decide) (by decide) rfl (fun _ => rfl) g14 d_Checks_allowsContext_51 ?_
    obtain ⟨j15, e16, h⟩ := bd_ob h
    have hj15 : j15 < N 10 := (hwf.2.1 18 j12 ((mI M0 2 j7 6).toNatClampNeg) _ e16 (by decide) hj12)
    refine me_opt (j := j15) e16 ?_
    refine lv_lload_n hx hb d_Checks_allowsContext_52 rfl (lv_at hl 1 rfl) ?_
    refine lv_ldc2 hx hb hown (hts _ u_1648) d_Checks_allowsContext_53 ?_
    refine W.lcmp hx hb d_Checks_allowsContext_56 ?_
    refine lv_if_lt (tgt := 64) hx hb d_Checks_allowsContext_57 (by decide) (fun c17 => ?_) (fun c17 => ?_)
    · have h := if_t ((lg_cmp_lt _ _).mp c17) h
      refine lv_lload_n hx hb d_Checks_allowsContext_64 rfl (lv_at hl 1 rfl) ?_
      refine lv_lconst (v := 0) hx hb d_Checks_allowsContext_65 (by decide) ?_
      refine W.lcmp hx hb d_Checks_allowsContext_66 ?_
      refine lv_if_ne (tgt := 74) hx hb d_Checks_allowsContext_67 (by decide) (fun c18 => ?_) (fun c18 => ?_)
      · have h := if_f (fun z => c18 ((lg_cmp_eq _ _).mpr z)) h
        refine lv_iconst (v := 5) hx hb d_Checks_allowsContext_74 (by decide) ?_
        exact b_75 M0 (5 : Int32) j15 _ _ _ h hj15 hwf hkp hP hD hS (lv_sub hl [0, 1] rfl)
      have h := if_t ((lg_cmp_eq _ _).mp c18) h
      refine lv_iconst (v := 4) hx hb d_Checks_allowsContext_70 (by decide) ?_
      refine lv_goto (tgt := 75) hx hb d_Checks_allowsContext_71 (by decide) ?_
      exact b_75 M0 (4 : Int32) j15 _ _ _ h hj15 hwf hkp hP hD hS (lv_sub hl [0, 1] rfl)
    have h := if_f (fun z => c17 ((lg_cmp_lt _ _).mpr z)) h
    refine lv_iconst (v := 1) hx hb d_Checks_allowsContext_60 (by decide) ?_
    refine lv_goto (tgt := 75) hx hb d_Checks_allowsContext_61 (by decide) ?_
    exact b_75 M0 (1 : Int32) j15 _ _ _ h hj15 hwf hkp hP hD hS (lv_sub hl [0, 1] rfl)
  have h := if_f (fun z => c11 ((lg_cmp_eq _ _).mpr z)) h
  refine lv_iconst (v := 0) hx hb d_Checks_allowsContext_38 (by decide) ?_
  exact me_retz (me_kp M0) h (by decide) hx hb hr hlocks hwf hkp hP hK hD hS d_Checks_allowsContext_39
theorem d_Checks_allowsMemory_163 : decode prog_3_method_8_code 163 = .ok (.iload 7, 2) := by decide +kernel
theorem d_Checks_allowsMemory_165 : decode prog_3_method_8_code 165 = .ok (.ifCond .eq 19, 3) := by decide +kernel
theorem d_Checks_allowsMemory_184 : decode prog_3_method_8_code 184 = .ok (.iconst 0, 1) := by decide +kernel
theorem d_Checks_allowsMemory_185 : decode prog_3_method_8_code 185 = .ok (.ireturn, 1) := by decide +kernel
theorem d_Checks_allowsMemory_168 : decode prog_3_method_8_code 168 = .ok (.iload_n 2, 1) := by decide +kernel
theorem d_Checks_allowsMemory_169 : decode prog_3_method_8_code 169 = .ok (.ifCond .ne 11, 3) := by decide +kernel
theorem d_Checks_allowsMemory_180 : decode prog_3_method_8_code 180 = .ok (.iconst 1, 1) := by decide +kernel
theorem d_Checks_allowsMemory_181 : decode prog_3_method_8_code 181 = .ok (.goto 4, 3) := by decide +kernel
theorem d_Checks_allowsMemory_172 : decode prog_3_method_8_code 172 = .ok (.aload_n 0, 1) := by decide +kernel
theorem d_Checks_allowsMemory_173 : decode prog_3_method_8_code 173 = .ok (.invokevirtual 72, 3) := by decide +kernel
theorem d_Checks_allowsMemory_176 : decode prog_3_method_8_code 176 = .ok (.iconst 1, 1) := by decide +kernel
theorem d_Checks_allowsMemory_177 : decode prog_3_method_8_code 177 = .ok (.if_icmp .ne 7, 3) := by decide +kernel
theorem d_Checks_allowsMemory_141 : decode prog_3_method_8_code 141 = .ok (.istore 7, 2) := by decide +kernel
theorem d_Checks_allowsMemory_143 : decode prog_3_method_8_code 143 = .ok (.iload_n 2, 1) := by decide +kernel
theorem d_Checks_allowsMemory_144 : decode prog_3_method_8_code 144 = .ok (.ifCond .eq 19, 3) := by decide +kernel
theorem d_Checks_allowsMemory_147 : decode prog_3_method_8_code 147 = .ok (.aload_n 0, 1) := by decide +kernel
theorem d_Checks_allowsMemory_148 : decode prog_3_method_8_code 148 = .ok (.getfield 22, 3) := by decide +kernel
theorem d_Checks_allowsMemory_151 : decode prog_3_method_8_code 151 = .ok (.aload_n 0, 1) := by decide +kernel
theorem d_Checks_allowsMemory_152 : decode prog_3_method_8_code 152 = .ok (.getfield 23, 3) := by decide +kernel
theorem d_Checks_allowsMemory_155 : decode prog_3_method_8_code 155 = .ok (.getfield 46, 3) := by decide +kernel
theorem d_Checks_allowsMemory_158 : decode prog_3_method_8_code 158 = .ok (.aaload, 1) := by decide +kernel
theorem d_Checks_allowsMemory_159 : decode prog_3_method_8_code 159 = .ok (.iconst 1, 1) := by decide +kernel
theorem d_Checks_allowsMemory_160 : decode prog_3_method_8_code 160 = .ok (.putfield 34, 3) := by decide +kernel
theorem d_Checks_allowsMemory_140 : decode prog_3_method_8_code 140 = .ok (.iconst 0, 1) := by decide +kernel
theorem d_Checks_allowsMemory_136 : decode prog_3_method_8_code 136 = .ok (.iconst 1, 1) := by decide +kernel
theorem d_Checks_allowsMemory_137 : decode prog_3_method_8_code 137 = .ok (.goto 4, 3) := by decide +kernel
theorem d_Checks_allowsMemory_38 : decode prog_3_method_8_code 38 = .ok (.istore_n 3, 1) := by decide +kernel
theorem d_Checks_allowsMemory_39 : decode prog_3_method_8_code 39 = .ok (.aload_n 0, 1) := by decide +kernel
theorem d_Checks_allowsMemory_40 : decode prog_3_method_8_code 40 = .ok (.getfield 22, 3) := by decide +kernel
theorem d_Checks_allowsMemory_43 : decode prog_3_method_8_code 43 = .ok (.iload_n 3, 1) := by decide +kernel
theorem d_Checks_allowsMemory_44 : decode prog_3_method_8_code 44 = .ok (.aaload, 1) := by decide +kernel
theorem d_Checks_allowsMemory_45 : decode prog_3_method_8_code 45 = .ok (.getfield 34, 3) := by decide +kernel
theorem d_Checks_allowsMemory_48 : decode prog_3_method_8_code 48 = .ok (.istore 4, 2) := by decide +kernel
theorem d_Checks_allowsMemory_50 : decode prog_3_method_8_code 50 = .ok (.aload_n 1, 1) := by decide +kernel
theorem d_Checks_allowsMemory_51 : decode prog_3_method_8_code 51 = .ok (.iload_n 3, 1) := by decide +kernel
theorem d_Checks_allowsMemory_52 : decode prog_3_method_8_code 52 = .ok (.laload, 1) := by decide +kernel
theorem d_Checks_allowsMemory_53 : decode prog_3_method_8_code 53 = .ok (.aload_n 0, 1) := by decide +kernel
theorem d_Checks_allowsMemory_54 : decode prog_3_method_8_code 54 = .ok (.getfield 23, 3) := by decide +kernel
theorem d_Checks_allowsMemory_57 : decode prog_3_method_8_code 57 = .ok (.getfield 91, 3) := by decide +kernel
theorem u_244 : Cond.fieldLink "FilterGuard$Checks" 91 "FilterGuard$Code" "offset" "I" ∈ fg_g := fg_in (List.mem_of_getElem? (i := 244) (by decide +kernel)) rfl
theorem d_Checks_allowsMemory_60 : decode prog_3_method_8_code 60 = .ok (.i2l, 1) := by decide +kernel
theorem d_Checks_allowsMemory_61 : decode prog_3_method_8_code 61 = .ok (.ladd, 1) := by decide +kernel
theorem d_Checks_allowsMemory_62 : decode prog_3_method_8_code 62 = .ok (.lstore 5, 2) := by decide +kernel
theorem d_Checks_allowsMemory_64 : decode prog_3_method_8_code 64 = .ok (.iload 4, 2) := by decide +kernel
theorem d_Checks_allowsMemory_66 : decode prog_3_method_8_code 66 = .ok (.iconst 3, 1) := by decide +kernel
theorem d_Checks_allowsMemory_67 : decode prog_3_method_8_code 67 = .ok (.if_icmp .ne 15, 3) := by decide +kernel
theorem d_Checks_allowsMemory_82 : decode prog_3_method_8_code 82 = .ok (.iload 4, 2) := by decide +kernel
theorem d_Checks_allowsMemory_84 : decode prog_3_method_8_code 84 = .ok (.iconst 2, 1) := by decide +kernel
theorem d_Checks_allowsMemory_85 : decode prog_3_method_8_code 85 = .ok (.if_icmp .ne 27, 3) := by decide +kernel
theorem d_Checks_allowsMemory_112 : decode prog_3_method_8_code 112 = .ok (.iload 4, 2) := by decide +kernel
theorem d_Checks_allowsMemory_114 : decode prog_3_method_8_code 114 = .ok (.bipush 7, 2) := by decide +kernel
theorem d_Checks_allowsMemory_116 : decode prog_3_method_8_code 116 = .ok (.if_icmp .eq 20, 3) := by decide +kernel
theorem d_Checks_allowsMemory_119 : decode prog_3_method_8_code 119 = .ok (.iload 4, 2) := by decide +kernel
theorem d_Checks_allowsMemory_121 : decode prog_3_method_8_code 121 = .ok (.iconst 4, 1) := by decide +kernel
theorem d_Checks_allowsMemory_122 : decode prog_3_method_8_code 122 = .ok (.if_icmp .ne 18, 3) := by decide +kernel
theorem d_Checks_allowsMemory_125 : decode prog_3_method_8_code 125 = .ok (.aload_n 0, 1) := by decide +kernel
theorem d_Checks_allowsMemory_126 : decode prog_3_method_8_code 126 = .ok (.getfield 23, 3) := by decide +kernel
theorem d_Checks_allowsMemory_129 : decode prog_3_method_8_code 129 = .ok (.getfield 55, 3) := by decide +kernel
theorem d_Checks_allowsMemory_132 : decode prog_3_method_8_code 132 = .ok (.iconst 5, 1) := by decide +kernel
theorem d_Checks_allowsMemory_133 : decode prog_3_method_8_code 133 = .ok (.if_icmp .eq 7, 3) := by decide +kernel
theorem d_Checks_allowsMemory_88 : decode prog_3_method_8_code 88 = .ok (.iload_n 2, 1) := by decide +kernel
theorem d_Checks_allowsMemory_89 : decode prog_3_method_8_code 89 = .ok (.ifCond .eq 21, 3) := by decide +kernel
theorem d_Checks_allowsMemory_110 : decode prog_3_method_8_code 110 = .ok (.iconst 0, 1) := by decide +kernel
theorem d_Checks_allowsMemory_111 : decode prog_3_method_8_code 111 = .ok (.ireturn, 1) := by decide +kernel
theorem d_Checks_allowsMemory_92 : decode prog_3_method_8_code 92 = .ok (.aload_n 0, 1) := by decide +kernel
theorem d_Checks_allowsMemory_93 : decode prog_3_method_8_code 93 = .ok (.lload 5, 2) := by decide +kernel
theorem d_Checks_allowsMemory_95 : decode prog_3_method_8_code 95 = .ok (.iconst 1, 1) := by decide +kernel
theorem d_Checks_allowsMemory_96 : decode prog_3_method_8_code 96 = .ok (.invokestatic 94, 3) := by decide +kernel
theorem d_Checks_allowsMemory_99 : decode prog_3_method_8_code 99 = .ok (.lsub, 1) := by decide +kernel
theorem d_Checks_allowsMemory_100 : decode prog_3_method_8_code 100 = .ok (.invokevirtual 102, 3) := by decide +kernel
theorem u_1643 : Cond.methodLink "FilterGuard$Checks" 102 ⟨"FilterGuard$Checks", "allowsContext", "(J)Z"⟩ ∈ fg_g := fg_in (List.mem_of_getElem? (i := 1643) (by decide +kernel)) rfl
theorem u_1646 : Cond.code ⟨"FilterGuard$Checks", "allowsContext", "(J)Z"⟩ prog_3_method_9_code 3 (some .boolean) ∈ fg_g := fg_in (List.mem_of_getElem? (i := 1646) (by decide +kernel)) rfl
theorem u_1645 : Cond.instanceMethod ⟨"FilterGuard$Checks", "allowsContext", "(J)Z"⟩ ∈ fg_g := fg_in (List.mem_of_getElem? (i := 1645) (by decide +kernel)) rfl
theorem u_72 : Cond.selects "FilterGuard$Checks" ⟨"FilterGuard$Checks", "allowsContext", "(J)Z"⟩ ⟨"FilterGuard$Checks", "allowsContext", "(J)Z"⟩ ∈ fg_g := fg_in (List.mem_of_getElem? (i := 72) (by decide +kernel)) rfl
theorem d_Checks_allowsMemory_103 : decode prog_3_method_8_code 103 = .ok (.ifCond .eq 7, 3) := by decide +kernel
theorem d_Checks_allowsMemory_106 : decode prog_3_method_8_code 106 = .ok (.iconst 1, 1) := by decide +kernel
theorem d_Checks_allowsMemory_107 : decode prog_3_method_8_code 107 = .ok (.goto 4, 3) := by decide +kernel
theorem d_Checks_allowsMemory_70 : decode prog_3_method_8_code 70 = .ok (.aload_n 0, 1) := by decide +kernel
theorem d_Checks_allowsMemory_71 : decode prog_3_method_8_code 71 = .ok (.lload 5, 2) := by decide +kernel
theorem d_Checks_allowsMemory_73 : decode prog_3_method_8_code 73 = .ok (.iconst 2, 1) := by decide +kernel
theorem d_Checks_allowsMemory_74 : decode prog_3_method_8_code 74 = .ok (.invokestatic 94, 3) := by decide +kernel
theorem d_Checks_allowsMemory_77 : decode prog_3_method_8_code 77 = .ok (.lsub, 1) := by decide +kernel
theorem d_Checks_allowsMemory_78 : decode prog_3_method_8_code 78 = .ok (.invokevirtual 98, 3) := by decide +kernel
theorem u_1637 : Cond.methodLink "FilterGuard$Checks" 98 ⟨"FilterGuard$Checks", "allowsStack", "(J)Z"⟩ ∈ fg_g := fg_in (List.mem_of_getElem? (i := 1637) (by decide +kernel)) rfl
theorem u_1640 : Cond.code ⟨"FilterGuard$Checks", "allowsStack", "(J)Z"⟩ prog_3_method_10_code 7 (some .boolean) ∈ fg_g := fg_in (List.mem_of_getElem? (i := 1640) (by decide +kernel)) rfl
theorem u_1639 : Cond.instanceMethod ⟨"FilterGuard$Checks", "allowsStack", "(J)Z"⟩ ∈ fg_g := fg_in (List.mem_of_getElem? (i := 1639) (by decide +kernel)) rfl
theorem u_71 : Cond.selects "FilterGuard$Checks" ⟨"FilterGuard$Checks", "allowsStack", "(J)Z"⟩ ⟨"FilterGuard$Checks", "allowsStack", "(J)Z"⟩ ∈ fg_g := fg_in (List.mem_of_getElem? (i := 71) (by decide +kernel)) rfl
theorem d_Checks_allowsMemory_81 : decode prog_3_method_8_code 81 = .ok (.ireturn, 1) := by decide +kernel
theorem d_Checks_allowsMemory_16 : decode prog_3_method_8_code 16 = .ok (.istore_n 2, 1) := by decide +kernel
theorem d_Checks_allowsMemory_17 : decode prog_3_method_8_code 17 = .ok (.iload_n 2, 1) := by decide +kernel
theorem d_Checks_allowsMemory_18 : decode prog_3_method_8_code 18 = .ok (.ifCond .eq 13, 3) := by decide +kernel
theorem d_Checks_allowsMemory_31 : decode prog_3_method_8_code 31 = .ok (.aload_n 0, 1) := by decide +kernel
theorem d_Checks_allowsMemory_32 : decode prog_3_method_8_code 32 = .ok (.getfield 23, 3) := by decide +kernel
theorem d_Checks_allowsMemory_35 : decode prog_3_method_8_code 35 = .ok (.getfield 46, 3) := by decide +kernel
theorem d_Checks_allowsMemory_21 : decode prog_3_method_8_code 21 = .ok (.aload_n 0, 1) := by decide +kernel
theorem d_Checks_allowsMemory_22 : decode prog_3_method_8_code 22 = .ok (.getfield 23, 3) := by decide +kernel
theorem d_Checks_allowsMemory_25 : decode prog_3_method_8_code 25 = .ok (.getfield 52, 3) := by decide +kernel
theorem d_Checks_allowsMemory_28 : decode prog_3_method_8_code 28 = .ok (.goto 10, 3) := by decide +kernel
theorem d_Checks_allowsMemory_0 : decode prog_3_method_8_code 0 = .ok (.aload_n 0, 1) := by decide +kernel
theorem d_Checks_allowsMemory_1 : decode prog_3_method_8_code 1 = .ok (.getfield 23, 3) := by decide +kernel
theorem d_Checks_allowsMemory_4 : decode prog_3_method_8_code 4 = .ok (.getfield 55, 3) := by decide +kernel
theorem d_Checks_allowsMemory_7 : decode prog_3_method_8_code 7 = .ok (.iconst 2, 1) := by decide +kernel
theorem d_Checks_allowsMemory_8 : decode prog_3_method_8_code 8 = .ok (.if_icmp .ne 7, 3) := by decide +kernel
theorem d_Checks_allowsMemory_15 : decode prog_3_method_8_code 15 = .ok (.iconst 0, 1) := by decide +kernel
theorem d_Checks_allowsMemory_11 : decode prog_3_method_8_code 11 = .ok (.iconst 1, 1) := by decide +kernel
theorem d_Checks_allowsMemory_12 : decode prog_3_method_8_code 12 = .ok (.goto 4, 3) := by decide +kernel
abbrev y_Checks_allowsMemory : MethodName := ⟨"FilterGuard$Checks", "allowsMemory", "([J)Z"⟩
def f_Checks_allowsMemory_b163 (j0 : Nat) (M : me_M) (y2 : Int32) (y7 : Int32) : Option (me_M × Int32) := (if y7 = 0 then some (M, (0 : Int32)) else (if y2 = 0 then b2 (f_Checks_operandKind M j0) (fun (M3 : me_M) (r4 : Int32) => (if r4 = 1 then some (M3, (1 : Int32)) else some (M3, (0 : Int32)))) else some (M, (1 : Int32))))
def f_Checks_allowsMemory_b141 (j0 : Nat) (M : me_M) (y2 : Int32) (s0 : Int32) : Option (me_M × Int32) := (if y2 = 0 then f_Checks_allowsMemory_b163 j0 M y2 s0 else bd (mR M 6 j0 3) (fun (j7 : Nat) => bd (mR M 6 j0 0) (fun (j9 : Nat) => gd (¬ ((mI M 2 j9 6) < 0 ∨ mZ M 18 j7 ≤ (mI M 2 j9 6).toNatClampNeg)) (bd (mR M 18 j7 ((mI M 2 j9 6).toNatClampNeg)) (fun (j12 : Nat) => st (wI M 10 j12 0 1) (fun (M14 : me_M) => f_Checks_allowsMemory_b163 j0 M14 y2 s0))))))
def f_Checks_allowsMemory_b140 (j0 : Nat) (M : me_M) (y2 : Int32) : Option (me_M × Int32) := f_Checks_allowsMemory_b141 j0 M y2 (0 : Int32)
def f_Checks_allowsMemory_b136 (j0 : Nat) (M : me_M) (y2 : Int32) : Option (me_M × Int32) := f_Checks_allowsMemory_b141 j0 M y2 (1 : Int32)
def f_Checks_allowsMemory_b38 (j0 : Nat) (j1 : Nat) (M : me_M) (y2 : Int32) (s0 : Int32) : Option (me_M × Int32) := bd (mR M 6 j0 3) (fun (j15 : Nat) => gd (¬ (s0 < 0 ∨ mZ M 18 j15 ≤ s0.toNatClampNeg)) (bd (mR M 18 j15 s0.toNatClampNeg) (fun (j18 : Nat) => st (mI M 10 j18 0) (fun (v20 : Int32) => gd (¬ (s0 < 0 ∨ mZ M 16 j1 ≤ s0.toNatClampNeg)) (bd (mR M 6 j0 0) (fun (j22 : Nat) => st ((mL M 16 j1 s0.toNatClampNeg) + ((mI M 2 j22 8).toInt64)) (fun (v24 : Int64) => (if v20 = 3 then bd (f_G_baseOf (2 : Int32)) (fun (r35 : Int64) => b2 (f_Checks_allowsStack M j0 (v24 - r35)) (fun (M36 : me_M) (r37 : Int32) => some (M36, r37))) else (if v20 = 2 then (if y2 = 0 then some (M, (0 : Int32)) else bd (f_G_baseOf (1 : Int32)) (fun (r31 : Int64) => b2 (f_Checks_allowsContext M j0 (v24 - r31)) (fun (M32 : me_M) (r33 : Int32) => (if r33 = 0 then some (M32, (0 : Int32)) else some (M32, (1 : Int32)))))) else (if v20 = 7 then f_Checks_allowsMemory_b136 j0 M y2 else (if v20 = 4 then (if (mI M 2 j22 10) = 5 then f_Checks_allowsMemory_b140 j0 M y2 else f_Checks_allowsMemory_b136 j0 M y2) else f_Checks_allowsMemory_b140 j0 M y2)))))))))))
def f_Checks_allowsMemory_b16 (j0 : Nat) (j1 : Nat) (M : me_M) (s0 : Int32) : Option (me_M × Int32) := (if s0 = 0 then bd (mR M 6 j0 0) (fun (j39 : Nat) => f_Checks_allowsMemory_b38 j0 j1 M s0 (mI M 2 j39 6)) else bd (mR M 6 j0 0) (fun (j41 : Nat) => f_Checks_allowsMemory_b38 j0 j1 M s0 (mI M 2 j41 7)))
def f_Checks_allowsMemory (M0 : me_M) (j0 : Nat) (j1 : Nat) : Option (me_M × Int32) := bd (mR M0 6 j0 0) (fun (j43 : Nat) => (if (mI M0 2 j43 10) = 2 then f_Checks_allowsMemory_b16 j0 j1 M0 (1 : Int32) else f_Checks_allowsMemory_b16 j0 j1 M0 (0 : Int32)))
def rm_Checks_allowsMemory : Room := { frames := 4, cells := 0, slots := 0, locals := 108 }
abbrev q_Checks_allowsMemory (D : va_G) (ad : Nat → Nat → Nat) (ca : Nat → ClassId) (N : Nat → Nat) (M0 MZ : me_M) (RZ : Int32) (A : Nat → Prop) : Array Value → Jvm.State → Outcome → Jvm.State → Prop := va_Qi (fun r (_ : Unit) => r = RZ ∧ me_wf N MZ ∧ me_kp M0 MZ ∧ (RZ = 1 ∨ RZ = 0)) (fg_B D A (fun _ => me_W ad ca MZ) (fun _ => [])) A
set_option maxHeartbeats 4000000 in
set_option maxRecDepth 100000 in
theorem c_Checks_allowsMemory (l : Launch) (D : va_G) (ad : Nat → Nat → Nat) (ca : Nat → ClassId) (N : Nat → Nat) (M0 MZ : me_M) (RZ : Int32) (j0 : Nat) (j1 : Nat) (h : f_Checks_allowsMemory M0 j0 j1 = (some (MZ, RZ))) (hwf : me_wf N M0) (hj0 : j0 < N 6) (hj1 : j1 < N 16) (sz : Nat) : Met l y_Checks_allowsMemory (fg_w y_Checks_allowsMemory prog_3_method_8_code 8 (some .boolean)) rm_Checks_allowsMemory (va_Pc [.ref (ad 6 j0), .ref (ad 16 j1)] (fz_P D (me_T ca) (me_W ad ca M0) sz)) (q_Checks_allowsMemory D ad ca N M0 MZ RZ (va_A (me_W ad ca M0) sz)) rm_Checks_allowsMemory.cells rm_Checks_allowsMemory.slots (va_A (me_W ad ca M0) sz) := by
  refine fz_enter (fun A => q_Checks_allowsMemory D ad ca N M0 MZ RZ A) (by decide +kernel) (Nat.le_of_ble_eq_true rfl) ?_
  intro p e s m below meth c ls A hx hb hml hown hts hr hlocks hin hP hK hD hS hA hX hl hz
  have hl : lv_has ls 8 [(0, .ref (ad 6 j0)), (1, .ref (ad 16 j1))] := hl
  unfold f_Checks_allowsMemory at h
  have hkp : me_kp M0 M0 := me_kp.rf
  have hkb := hkp
  have b_163 : ∀ (M : me_M) (y2 : Int32) (y7 : Int32) (H : Heap) (locs : List Loc) (ls : Array Slot), f_Checks_allowsMemory_b163 j0 M y2 y7 = (some (MZ, RZ)) → (y2 = 1 ∨ y2 = 0) → (y7 = 1 ∨ y7 = 0) → me_wf N M → me_kp M0 M → va_P D classes (me_W ad ca M) H → va_D A (me_W ad ca M) → va_S A s.heap H locs → lv_has ls 8 [(0, .ref (ad 6 j0)), (2, .int y2), (7, .int y7)] → W p l e rm_Checks_allowsMemory s m [.ref (ad 6 j0), .ref (ad 16 j1)].toArray below meth c H locs 0 0 (MQ below (q_Checks_allowsMemory D ad ca N M0 MZ RZ A) [.ref (ad 6 j0), .ref (ad 16 j1)].toArray s rm_Checks_allowsMemory.cells rm_Checks_allowsMemory.slots A) (F0 m 163 ls []) := by
    intro M y2 y7 H locs ls h zy2 zy7 hwf hkp hP hD hS hl
    unfold f_Checks_allowsMemory_b163 at h
    have hkb := hkp
    refine lv_iload hx hb d_Checks_allowsMemory_163 (lv_at hl 2 rfl) ?_
    refine lv_if_eq (tgt := 184) hx hb d_Checks_allowsMemory_165 (by decide) (fun c1 => ?_) (fun c1 => ?_)
    · have h := if_t c1 h
      refine lv_iconst (v := 0) hx hb d_Checks_allowsMemory_184 (by decide) ?_
      exact me_retz (me_kp M0) h (by decide) hx hb hr hlocks hwf hkp hP hK hD hS d_Checks_allowsMemory_185
    have h := if_f c1 h
    refine lv_iload_n hx hb d_Checks_allowsMemory_168 rfl (lv_at hl 1 rfl) ?_
    refine lv_if_ne (tgt := 180) hx hb d_Checks_allowsMemory_169 (by decide) (fun c2 => ?_) (fun c2 => ?_)
    · have h := if_f c2 h
      refine lv_iconst (v := 1) hx hb d_Checks_allowsMemory_180 (by decide) ?_
      refine lv_goto (tgt := 185) hx hb d_Checks_allowsMemory_181 (by decide) ?_
      exact me_retz (me_kp M0) h (by decide) hx hb hr hlocks hwf hkp hP hK hD hS d_Checks_allowsMemory_185
    have h := if_t c2 h
    refine lv_aload_n hx hb d_Checks_allowsMemory_172 rfl (lv_at hl 0 rfl) ?_
    obtain ⟨M3, r4, eM3, h⟩ := b2_ob h
    refine me_theni0 (M1 := M3) (me_runV (C := "FilterGuard$Checks") (As := []) (rest := []) ⟨hx, hb, hml, hown, hts⟩ (c_Checks_operandKind l D ad ca N M M3 r4 j0 eM3 hwf hj0 _) rfl (by show fg_nm y_Checks_operandKind 0; decide +kernel) u_1605 u_1607 u_65 u_191 u_1608 ⟨Nat.le_of_ble_eq_true rfl, Nat.le_of_ble_eq_true rfl⟩ hX hz hK hP hD hwf hS hA hj0 (by decide) rfl rfl rfl hl.1 (Nat.le_of_ble_eq_true rfl) d_Checks_allowsMemory_173 ⟨Nat.le_of_ble_eq_true rfl, Nat.le_of_ble_eq_true rfl⟩) hP hD hK hS hA rfl rfl (fun H locs hw hP hD hS => ?_)
    obtain ⟨hwf, hk9⟩ := hw
    have hkp := hkp.tr hk9
    refine lv_iconst (v := 1) hx hb d_Checks_allowsMemory_176 (by decide) ?_
    refine lv_icmp_ne (tgt := 184) hx hb d_Checks_allowsMemory_177 (by decide) (fun c5 => ?_) (fun c5 => ?_)
    · have h := if_f c5 h
      refine lv_iconst (v := 0) hx hb d_Checks_allowsMemory_184 (by decide) ?_
      exact me_retz (me_kp M0) h (by decide) hx hb hr hlocks hwf hkp hP hK hD hS d_Checks_allowsMemory_185
    have h := if_t c5 h
    refine lv_iconst (v := 1) hx hb d_Checks_allowsMemory_180 (by decide) ?_
    refine lv_goto (tgt := 185) hx hb d_Checks_allowsMemory_181 (by decide) ?_
    exact me_retz (me_kp M0) h (by decide) hx hb hr hlocks hwf hkp hP hK hD hS d_Checks_allowsMemory_185
  have b_141 : ∀ (M : me_M) (y2 : Int32) (s0 : Int32) (H : Heap) (locs : List Loc) (ls : Array Slot), f_Checks_allowsMemory_b141 j0 M y2 s0 = (some (MZ, RZ)) → (y2 = 1 ∨ y2 = 0) → (s0 = 1 ∨ s0 = 0) → me_wf N M → me_kp M0 M → va_P D classes (me_W ad ca M) H → va_D A (me_W ad ca M) → va_S A s.heap H locs → lv_has ls 8 [(0, .ref (ad 6 j0)), (2, .int y2)] → W p l e rm_Checks_allowsMemory s m [.ref (ad 6 j0), .ref (ad 16 j1)].toArray below meth c H locs 0 0 (MQ below (q_Checks_allowsMemory D ad ca N M0 MZ RZ A) [.ref (ad 6 j0), .ref (ad 16 j1)].toArray s rm_Checks_allowsMemory.cells rm_Checks_allowsMemory.slots A) (F0 m 141 ls [.int s0]) := by
    intro M y2 s0 H locs ls h zy2 zs0 hwf hkp hP hD hS hl
    unfold f_Checks_allowsMemory_b141 at h
    have hkb := hkp
    refine lv_istore (lv' := [(7, .int s0), (0, .ref (ad 6 j0)), (2, .int y2)]) hx hb d_Checks_allowsMemory_141 hl (by decide) rfl (fun ls hl => ?_)
    refine lv_iload_n hx hb d_Checks_allowsMemory_143 rfl (lv_at hl 2 rfl) ?_
    refine lv_if_eq (tgt := 163) hx hb d_Checks_allowsMemory_144 (by decide) (fun c6 => ?_) (fun c6 => ?_)
    · have h := if_t c6 h
      exact b_163 M y2 s0 _ _ _ h zy2 zs0 hwf hkp hP hD hS (lv_sub hl [1, 2, 0] rfl)
    have h := if_f c6 h
    refine lv_aload_n hx hb d_Checks_allowsMemory_147 rfl (lv_at hl 1 rfl) ?_
    refine g_Checks_3 hx hb hts hown hK hP hwf hj0 (hts _ u_613) d_Checks_allowsMemory_148 ?_
    obtain ⟨j7, e8, h⟩ := bd_ob h
    have hj7 : j7 < N 18 := (hwf.2.1 6 j0 3 _ e8 (by decide) hj0)
    refine me_opt (j := j7) e8 ?_
    refine lv_aload_n hx hb d_Checks_allowsMemory_151 rfl (lv_at hl 1 rfl) ?_
    refine g_Checks_0 hx hb hts hown hK hP hwf hj0 (hts _ u_610) d_Checks_allowsMemory_152 ?_
    obtain ⟨j9, e10, h⟩ := bd_ob h
    have hj9 : j9 < N 2 := (hwf.2.1 6 j0 0 _ e10 (by decide) hj0)
    refine me_opt (j := j9) e10 ?_
    refine g_Code_6 hx hb hts hown hK hP hwf hj9 (hts _ u_234) d_Checks_allowsMemory_155 ?_
    obtain ⟨g11, h⟩ := gd_ob h
    refine me_aald (k := 18) (t := 10) hx hb hK hP hwf hj7 (by decide) (by decide) rfl (fun _ => rfl) g11 d_Checks_allowsMemory_158 ?_
    obtain ⟨j12, e13, h⟩ := bd_ob h
    have hj12 : j12 < N 10 := (hwf.2.1 18 j7 ((mI M 2 j9 6).toNatClampNeg) _ e13 (by decide) hj7)
    refine me_opt (j := j12) e13 ?_
    refine lv_iconst (v := 1) hx hb d_Checks_allowsMemory_159 (by decide) ?_
    obtain ⟨M14, eM14, h⟩ := st_ob h
    refine p_Cell_0 eM14 hx hb hts hown hK hP hD hwf hS hj12 (hts _ u_421) d_Checks_allowsMemory_160 (fun H locs hP hD hwf hS => ?_)
    have hkp := kp_I eM14 hkp
    exact b_163 M14 y2 s0 _ _ _ h zy2 zs0 hwf hkp hP hD hS (lv_sub hl [1, 2, 0] rfl)
  have b_140 : ∀ (M : me_M) (y2 : Int32) (H : Heap) (locs : List Loc) (ls : Array Slot), f_Checks_allowsMemory_b140 j0 M y2 = (some (MZ, RZ)) → (y2 = 1 ∨ y2 = 0) → me_wf N M → me_kp M0 M → va_P D classes (me_W ad ca M) H → va_D A (me_W ad ca M) → va_S A s.heap H locs → lv_has ls 8 [(0, .ref (ad 6 j0)), (2, .int y2)] → W p l e rm_Checks_allowsMemory s m [.ref (ad 6 j0), .ref (ad 16 j1)].toArray below meth c H locs 0 0 (MQ below (q_Checks_allowsMemory D ad ca N M0 MZ RZ A) [.ref (ad 6 j0), .ref (ad 16 j1)].toArray s rm_Checks_allowsMemory.cells rm_Checks_allowsMemory.slots A) (F0 m 140 ls []) := by
    intro M y2 H locs ls h zy2 hwf hkp hP hD hS hl
    unfold f_Checks_allowsMemory_b140 at h
    have hkb := hkp
    refine lv_iconst (v := 0) hx hb d_Checks_allowsMemory_140 (by decide) ?_
    exact b_141 M y2 (0 : Int32) _ _ _ h zy2 (by decide) hwf hkp hP hD hS (lv_sub hl [0, 1] rfl)
  have b_136 : ∀ (M : me_M) (y2 : Int32) (H : Heap) (locs : List Loc) (ls : Array Slot), f_Checks_allowsMemory_b136 j0 M y2 = (some (MZ, RZ)) → (y2 = 1 ∨ y2 = 0) → me_wf N M → me_kp M0 M → va_P D classes (me_W ad ca M) H → va_D A (me_W ad ca M) → va_S A s.heap H locs → lv_has ls 8 [(0, .ref (ad 6 j0)), (2, .int y2)] → W p l e rm_Checks_allowsMemory s m [.ref (ad 6 j0), .ref (ad 16 j1)].toArray below meth c H locs 0 0 (MQ below (q_Checks_allowsMemory D ad ca N M0 MZ RZ A) [.ref (ad 6 j0), .ref (ad 16 j1)].toArray s rm_Checks_allowsMemory.cells rm_Checks_allowsMemory.slots A) (F0 m 136 ls []) := by
    intro M y2 H locs ls h zy2 hwf hkp hP hD hS hl
    unfold f_Checks_allowsMemory_b136 at h
    have hkb := hkp
    refine lv_iconst (v := 1) hx hb d_Checks_allowsMemory_136 (by decide) ?_
    refine lv_goto (tgt := 141) hx hb d_Checks_allowsMemory_137 (by decide) ?_
    exact b_141 M y2 (1 : Int32) _ _ _ h zy2 (by decide) hwf hkp hP hD hS (lv_sub hl [0, 1] rfl)
  have b_38 : ∀ (M : me_M) (y2 : Int32) (s0 : Int32) (H : Heap) (locs : List Loc) (ls : Array Slot), f_Checks_allowsMemory_b38 j0 j1 M y2 s0 = (some (MZ, RZ)) → (y2 = 1 ∨ y2 = 0) → me_wf N M → me_kp M0 M → va_P D classes (me_W ad ca M) H → va_D A (me_W ad ca M) → va_S A s.heap H locs → lv_has ls 8 [(0, .ref (ad 6 j0)), (1, .ref (ad 16 j1)), (2, .int y2)] → W p l e rm_Checks_allowsMemory s m [.ref (ad 6 j0), .ref (ad 16 j1)].toArray below meth c H locs 0 0 (MQ below (q_Checks_allowsMemory D ad ca N M0 MZ RZ A) [.ref (ad 6 j0), .ref (ad 16 j1)].toArray s rm_Checks_allowsMemory.cells rm_Checks_allowsMemory.slots A) (F0 m 38 ls [.int s0]) := by
    intro M y2 s0 H locs ls h zy2 hwf hkp hP hD hS hl
    unfold f_Checks_allowsMemory_b38 at h
    have hkb := hkp
    refine lv_istore_n (lv' := [(3, .int s0), (0, .ref (ad 6 j0)), (1, .ref (ad 16 j1)), (2, .int y2)]) hx hb d_Checks_allowsMemory_38 rfl hl (by decide) rfl (fun ls hl => ?_)
    refine lv_aload_n hx hb d_Checks_allowsMemory_39 rfl (lv_at hl 1 rfl) ?_
    refine g_Checks_3 hx hb hts hown hK hP hwf hj0 (hts _ u_613) d_Checks_allowsMemory_40 ?_
    obtain ⟨j15, e16, h⟩ := bd_ob h
    have hj15 : j15 < N 18 := (hwf.2.1 6 j0 3 _ e16 (by decide) hj0)
    refine me_opt (j := j15) e16 ?_
    refine lv_iload_n hx hb d_Checks_allowsMemory_43 rfl (lv_at hl 0 rfl) ?_
    obtain ⟨g17, h⟩ := gd_ob h
    refine me_aald (k := 18) (t := 10) hx hb hK hP hwf hj15 (by decide) (by decide) rfl (fun _ => rfl) g17 d_Checks_allowsMemory_44 ?_
    obtain ⟨j18, e19, h⟩ := bd_ob h
    have hj18 : j18 < N 10 := (hwf.2.1 18 j15 s0.toNatClampNeg _ e19 (by decide) hj15)
    refine me_opt (j := j18) e19 ?_
    refine g_Cell_0 hx hb hts hown hK hP hwf hj18 (hts _ u_421) d_Checks_allowsMemory_45 ?_
    obtain ⟨v20, ev20, h⟩ := st_ob h
    refine fg_topi (y := v20) ev20.symm ?_
    refine lv_istore (lv' := [(4, .int v20), (3, .int s0), (0, .ref (ad 6 j0)), (1, .ref (ad 16 j1)), (2, .int y2)]) hx hb d_Checks_allowsMemory_48 hl (by decide) rfl (fun ls hl => ?_)
    refine lv_aload_n hx hb d_Checks_allowsMemory_50 rfl (lv_at hl 3 rfl) ?_
    refine lv_iload_n hx hb d_Checks_allowsMemory_51 rfl (lv_at hl 1 rfl) ?_
    obtain ⟨g21, h⟩ := gd_ob h
    refine me_lald hx hb hK hP hwf hj1 g21 d_Checks_allowsMemory_52 ?_
    refine lv_aload_n hx hb d_Checks_allowsMemory_53 rfl (lv_at hl 2 rfl) ?_
    refine g_Checks_0 hx hb hts hown hK hP hwf hj0 (hts _ u_610) d_Checks_allowsMemory_54 ?_
    obtain ⟨j22, e23, h⟩ := bd_ob h
    have hj22 : j22 < N 2 := (hwf.2.1 6 j0 0 _ e23 (by decide) hj0)
    refine me_opt (j := j22) e23 ?_
    refine g_Code_8 hx hb hts hown hK hP hwf hj22 (hts _ u_244) d_Checks_allowsMemory_57 ?_
    refine lv_i2l (v := (mI M 2 j22 8).toInt64) hx hb d_Checks_allowsMemory_60 rfl ?_
    refine lv_ladd hx hb d_Checks_allowsMemory_61 ?_
    obtain ⟨v24, ev24, h⟩ := st_ob h
    refine fg_topl (y := v24) ev24.symm ?_
    refine lv_lstore (lv' := [(5, .long v24), (4, .int v20), (3, .int s0), (0, .ref (ad 6 j0)), (1, .ref (ad 16 j1)), (2, .int y2)]) hx hb d_Checks_allowsMemory_62 hl (by decide) rfl (fun ls hl => ?_)
    refine lv_iload hx hb d_Checks_allowsMemory_64 (lv_at hl 1 rfl) ?_
    refine lv_iconst (v := 3) hx hb d_Checks_allowsMemory_66 (by decide) ?_
    refine lv_icmp_ne (tgt := 82) hx hb d_Checks_allowsMemory_67 (by decide) (fun c25 => ?_) (fun c25 => ?_)
    · have h := if_f c25 h
      refine lv_iload hx hb d_Checks_allowsMemory_82 (lv_at hl 1 rfl) ?_
      refine lv_iconst (v := 2) hx hb d_Checks_allowsMemory_84 (by decide) ?_
      refine lv_icmp_ne (tgt := 112) hx hb d_Checks_allowsMemory_85 (by decide) (fun c26 => ?_) (fun c26 => ?_)
      · have h := if_f c26 h
        refine lv_iload hx hb d_Checks_allowsMemory_112 (lv_at hl 1 rfl) ?_
        refine lv_bipush (v := 7) hx hb d_Checks_allowsMemory_114 (by decide) ?_
        refine lv_icmp_eq (tgt := 136) hx hb d_Checks_allowsMemory_116 (by decide) (fun c27 => ?_) (fun c27 => ?_)
        · have h := if_t c27 h
          exact b_136 M y2 _ _ _ h zy2 hwf hkp hP hD hS (lv_sub hl [3, 5] rfl)
        have h := if_f c27 h
        refine lv_iload hx hb d_Checks_allowsMemory_119 (lv_at hl 1 rfl) ?_
        refine lv_iconst (v := 4) hx hb d_Checks_allowsMemory_121 (by decide) ?_
        refine lv_icmp_ne (tgt := 140) hx hb d_Checks_allowsMemory_122 (by decide) (fun c28 => ?_) (fun c28 => ?_)
        · have h := if_f c28 h
          exact b_140 M y2 _ _ _ h zy2 hwf hkp hP hD hS (lv_sub hl [3, 5] rfl)
        have h := if_t c28 h
        refine lv_aload_n hx hb d_Checks_allowsMemory_125 rfl (lv_at hl 3 rfl) ?_
        refine g_Checks_0 hx hb hts hown hK hP hwf hj0 (hts _ u_610) d_Checks_allowsMemory_126 ?_
        refine me_opt (j := j22) e23 ?_
        refine g_Code_10 hx hb hts hown hK hP hwf hj22 (hts _ u_253) d_Checks_allowsMemory_129 ?_
        refine lv_iconst (v := 5) hx hb d_Checks_allowsMemory_132 (by decide) ?_
        refine lv_icmp_eq (tgt := 140) hx hb d_Checks_allowsMemory_133 (by decide) (fun c29 => ?_) (fun c29 => ?_)
        · have h := if_t c29 h
          exact b_140 M y2 _ _ _ h zy2 hwf hkp hP hD hS (lv_sub hl [3, 5] rfl)
        have h := if_f c29 h
        exact b_136 M y2 _ _ _ h zy2 hwf hkp hP hD hS (lv_sub hl [3, 5] rfl)
      have h := if_t c26 h
      refine lv_iload_n hx hb d_Checks_allowsMemory_88 rfl (lv_at hl 5 rfl) ?_
      refine lv_if_eq (tgt := 110) hx hb d_Checks_allowsMemory_89 (by decide) (fun c30 => ?_) (fun c30 => ?_)
      · have h := if_t c30 h
        refine lv_iconst (v := 0) hx hb d_Checks_allowsMemory_110 (by decide) ?_
        exact me_retz (me_kp M0) h (by decide) hx hb hr hlocks hwf hkp hP hK hD hS d_Checks_allowsMemory_111
      have h := if_f c30 h
      refine lv_aload_n hx hb d_Checks_allowsMemory_92 rfl (lv_at hl 3 rfl) ?_
      refine lv_lload hx hb d_Checks_allowsMemory_93 (lv_at hl 0 rfl) ?_
      refine lv_iconst (v := 1) hx hb d_Checks_allowsMemory_95 (by decide) ?_
      obtain ⟨r31, er31, h⟩ := bd_ob h
      refine me_panl' (r0 := r31) (fg_runSN (wc := []) (tc := []) (A2 := A) (As := [.int 1]) (rest := [.long v24, .ref (ad 6 j0)]) ⟨hx, hb, hml, hown, hts⟩ (c_G_baseOf l D r31 (1 : Int32) er31 _) (by show fg_nm y_G_baseOf 1; decide +kernel) o_1627 u_1587 u_181 u_1588 ⟨Nat.le_of_ble_eq_true rfl, Nat.le_of_ble_eq_true rfl⟩ hX me_P0 (hK.sub (tys' := []) [] rfl) me_D0 rfl hl.1 (Nat.le_of_ble_eq_true rfl) d_Checks_allowsMemory_96 ⟨Nat.le_of_ble_eq_true rfl, Nat.le_of_ble_eq_true rfl⟩) hP hD hK hS hA rfl rfl (fun H locs hw hP hD hS => ?_)
      refine lv_lsub hx hb d_Checks_allowsMemory_99 ?_
      obtain ⟨M32, r33, eM32, h⟩ := b2_ob h
      refine me_theni0 (M1 := M32) (me_runV (C := "FilterGuard$Checks") (As := [.long (v24 - r31)]) (rest := []) ⟨hx, hb, hml, hown, hts⟩ (c_Checks_allowsContext l D ad ca N M M32 r33 j0 (v24 - r31) eM32 hwf hj0 _) rfl (by show fg_nm y_Checks_allowsContext 1; decide +kernel) u_1643 u_1645 u_72 u_191 u_1646 ⟨Nat.le_of_ble_eq_true rfl, Nat.le_of_ble_eq_true rfl⟩ hX hz hK hP hD hwf hS hA hj0 (by decide) rfl rfl rfl hl.1 (Nat.le_of_ble_eq_true rfl) d_Checks_allowsMemory_100 ⟨Nat.le_of_ble_eq_true rfl, Nat.le_of_ble_eq_true rfl⟩) hP hD hK hS hA rfl rfl (fun H locs hw hP hD hS => ?_)
      obtain ⟨hwf, hk9, zr33⟩ := hw
      have hkp := hkp.tr hk9
      refine lv_if_eq (tgt := 110) hx hb d_Checks_allowsMemory_103 (by decide) (fun c34 => ?_) (fun c34 => ?_)
      · have h := if_t c34 h
        refine lv_iconst (v := 0) hx hb d_Checks_allowsMemory_110 (by decide) ?_
        exact me_retz (me_kp M0) h (by decide) hx hb hr hlocks hwf hkp hP hK hD hS d_Checks_allowsMemory_111
      have h := if_f c34 h
      refine lv_iconst (v := 1) hx hb d_Checks_allowsMemory_106 (by decide) ?_
      refine lv_goto (tgt := 111) hx hb d_Checks_allowsMemory_107 (by decide) ?_
      exact me_retz (me_kp M0) h (by decide) hx hb hr hlocks hwf hkp hP hK hD hS d_Checks_allowsMemory_111
    have h := if_t c25 h
    refine lv_aload_n hx hb d_Checks_allowsMemory_70 rfl (lv_at hl 3 rfl) ?_
    refine lv_lload hx hb d_Checks_allowsMemory_71 (lv_at hl 0 rfl) ?_
    refine lv_iconst (v := 2) hx hb d_Checks_allowsMemory_73 (by decide) ?_
    obtain ⟨r35, er35, h⟩ := bd_ob h
    refine me_panl' (r0 := r35) (fg_runSN (wc := []) (tc := []) (A2 := A) (As := [.int 2]) (rest := [.long v24, .ref (ad 6 j0)]) ⟨hx, hb, hml, hown, hts⟩ (c_G_baseOf l D r35 (2 : Int32) er35 _) (by show fg_nm y_G_baseOf 1; decide +kernel) o_1627 u_1587 u_181 u_1588 ⟨Nat.le_of_ble_eq_true rfl, Nat.le_of_ble_eq_true rfl⟩ hX me_P0 (hK.sub (tys' := []) [] rfl) me_D0 rfl hl.1 (Nat.le_of_ble_eq_true rfl) d_Checks_allowsMemory_74 ⟨Nat.le_of_ble_eq_true rfl, Nat.le_of_ble_eq_true rfl⟩) hP hD hK hS hA rfl rfl (fun H locs hw hP hD hS => ?_)
    refine lv_lsub hx hb d_Checks_allowsMemory_77 ?_
    obtain ⟨M36, r37, eM36, h⟩ := b2_ob h
    refine me_theni0 (M1 := M36) (me_runV (C := "FilterGuard$Checks") (As := [.long (v24 - r35)]) (rest := []) ⟨hx, hb, hml, hown, hts⟩ (c_Checks_allowsStack l D ad ca N M M36 r37 j0 (v24 - r35) eM36 hwf hj0 _) rfl (by show fg_nm y_Checks_allowsStack 1; decide +kernel) u_1637 u_1639 u_71 u_191 u_1640 ⟨Nat.le_of_ble_eq_true rfl, Nat.le_of_ble_eq_true rfl⟩ hX hz hK hP hD hwf hS hA hj0 (by decide) rfl rfl rfl hl.1 (Nat.le_of_ble_eq_true rfl) d_Checks_allowsMemory_78 ⟨Nat.le_of_ble_eq_true rfl, Nat.le_of_ble_eq_true rfl⟩) hP hD hK hS hA rfl rfl (fun H locs hw hP hD hS => ?_)
    obtain ⟨hwf, hk9, zr37⟩ := hw
    have hkp := hkp.tr hk9
    exact me_retz (me_kp M0) h zr37 hx hb hr hlocks hwf hkp hP hK hD hS d_Checks_allowsMemory_81
  have b_16 : ∀ (M : me_M) (s0 : Int32) (H : Heap) (locs : List Loc) (ls : Array Slot), f_Checks_allowsMemory_b16 j0 j1 M s0 = (some (MZ, RZ)) → (s0 = 1 ∨ s0 = 0) → me_wf N M → me_kp M0 M → va_P D classes (me_W ad ca M) H → va_D A (me_W ad ca M) → va_S A s.heap H locs → lv_has ls 8 [(0, .ref (ad 6 j0)), (1, .ref (ad 16 j1))] → W p l e rm_Checks_allowsMemory s m [.ref (ad 6 j0), .ref (ad 16 j1)].toArray below meth c H locs 0 0 (MQ below (q_Checks_allowsMemory D ad ca N M0 MZ RZ A) [.ref (ad 6 j0), .ref (ad 16 j1)].toArray s rm_Checks_allowsMemory.cells rm_Checks_allowsMemory.slots A) (F0 m 16 ls [.int s0]) := by
    intro M s0 H locs ls h zs0 hwf hkp hP hD hS hl
    unfold f_Checks_allowsMemory_b16 at h
    have hkb := hkp
    refine lv_istore_n (lv' := [(2, .int s0), (0, .ref (ad 6 j0)), (1, .ref (ad 16 j1))]) hx hb d_Checks_allowsMemory_16 rfl hl (by decide) rfl (fun ls hl => ?_)
    refine lv_iload_n hx hb d_Checks_allowsMemory_17 rfl (lv_at hl 0 rfl) ?_
    refine lv_if_eq (tgt := 31) hx hb d_Checks_allowsMemory_18 (by decide) (fun c38 => ?_) (fun c38 => ?_)
    · have h := if_t c38 h
      refine lv_aload_n hx hb d_Checks_allowsMemory_31 rfl (lv_at hl 1 rfl) ?_
      refine g_Checks_0 hx hb hts hown hK hP hwf hj0 (hts _ u_610) d_Checks_allowsMemory_32 ?_
      obtain ⟨j39, e40, h⟩ := bd_ob h
      have hj39 : j39 < N 2 := (hwf.2.1 6 j0 0 _ e40 (by decide) hj0)
      refine me_opt (j := j39) e40 ?_
      refine g_Code_6 hx hb hts hown hK hP hwf hj39 (hts _ u_234) d_Checks_allowsMemory_35 ?_
      exact b_38 M s0 (mI M 2 j39 6) _ _ _ h zs0 hwf hkp hP hD hS (lv_sub hl [1, 2, 0] rfl)
    have h := if_f c38 h
    refine lv_aload_n hx hb d_Checks_allowsMemory_21 rfl (lv_at hl 1 rfl) ?_
    refine g_Checks_0 hx hb hts hown hK hP hwf hj0 (hts _ u_610) d_Checks_allowsMemory_22 ?_
    obtain ⟨j41, e42, h⟩ := bd_ob h
    have hj41 : j41 < N 2 := (hwf.2.1 6 j0 0 _ e42 (by decide) hj0)
    refine me_opt (j := j41) e42 ?_
    refine g_Code_7 hx hb hts hown hK hP hwf hj41 (hts _ u_240) d_Checks_allowsMemory_25 ?_
    refine lv_goto (tgt := 38) hx hb d_Checks_allowsMemory_28 (by decide) ?_
    exact b_38 M s0 (mI M 2 j41 7) _ _ _ h zs0 hwf hkp hP hD hS (lv_sub hl [1, 2, 0] rfl)
  refine lv_aload_n hx hb d_Checks_allowsMemory_0 rfl (lv_at hl 0 rfl) ?_
  refine g_Checks_0 hx hb hts hown hK hP hwf hj0 (hts _ u_610) d_Checks_allowsMemory_1 ?_
  obtain ⟨j43, e44, h⟩ := bd_ob h
  have hj43 : j43 < N 2 := (hwf.2.1 6 j0 0 _ e44 (by decide) hj0)
  refine me_opt (j := j43) e44 ?_
  refine g_Code_10 hx hb hts hown hK hP hwf hj43 (hts _ u_253) d_Checks_allowsMemory_4 ?_
  refine lv_iconst (v := 2) hx hb d_Checks_allowsMemory_7 (by decide) ?_
  refine lv_icmp_ne (tgt := 15) hx hb d_Checks_allowsMemory_8 (by decide) (fun c45 => ?_) (fun c45 => ?_)
  · have h := if_f c45 h
    refine lv_iconst (v := 0) hx hb d_Checks_allowsMemory_15 (by decide) ?_
    exact b_16 M0 (0 : Int32) _ _ _ h (by decide) hwf hkp hP hD hS (lv_sub hl [0, 1] rfl)
  have h := if_t c45 h
  refine lv_iconst (v := 1) hx hb d_Checks_allowsMemory_11 (by decide) ?_
  refine lv_goto (tgt := 16) hx hb d_Checks_allowsMemory_12 (by decide) ?_
  exact b_16 M0 (1 : Int32) _ _ _ h (by decide) hwf hkp hP hD hS (lv_sub hl [0, 1] rfl)
theorem d_Checks_allows_68 : decode prog_3_method_4_code 68 = .ok (.aload_n 0, 1) := by decide +kernel
theorem d_Checks_allows_69 : decode prog_3_method_4_code 69 = .ok (.getfield 23, 3) := by decide +kernel
theorem d_Checks_allows_72 : decode prog_3_method_4_code 72 = .ok (.getfield 55, 3) := by decide +kernel
theorem d_Checks_allows_75 : decode prog_3_method_4_code 75 = .ok (.tableswitch 124 1 10 #[53, 124, 124, 124, 124, 86, 122, 91, 97, 103], 53) := by decide +kernel
theorem d_Checks_allows_128 : decode prog_3_method_4_code 128 = .ok (.aload_n 0, 1) := by decide +kernel
theorem d_Checks_allows_129 : decode prog_3_method_4_code 129 = .ok (.getfield 22, 3) := by decide +kernel
theorem d_Checks_allows_132 : decode prog_3_method_4_code 132 = .ok (.aload_n 0, 1) := by decide +kernel
theorem d_Checks_allows_133 : decode prog_3_method_4_code 133 = .ok (.getfield 23, 3) := by decide +kernel
theorem d_Checks_allows_136 : decode prog_3_method_4_code 136 = .ok (.getfield 46, 3) := by decide +kernel
theorem d_Checks_allows_139 : decode prog_3_method_4_code 139 = .ok (.aaload, 1) := by decide +kernel
theorem d_Checks_allows_140 : decode prog_3_method_4_code 140 = .ok (.aload_n 0, 1) := by decide +kernel
theorem d_Checks_allows_141 : decode prog_3_method_4_code 141 = .ok (.getfield 23, 3) := by decide +kernel
theorem d_Checks_allows_144 : decode prog_3_method_4_code 144 = .ok (.getfield 52, 3) := by decide +kernel
theorem d_Checks_allows_147 : decode prog_3_method_4_code 147 = .ok (.ifCond .ne 7, 3) := by decide +kernel
theorem d_Checks_allows_154 : decode prog_3_method_4_code 154 = .ok (.bipush 6, 2) := by decide +kernel
theorem d_Checks_allows_156 : decode prog_3_method_4_code 156 = .ok (.putfield 34, 3) := by decide +kernel
theorem d_Checks_allows_159 : decode prog_3_method_4_code 159 = .ok (.iconst 1, 1) := by decide +kernel
theorem d_Checks_allows_160 : decode prog_3_method_4_code 160 = .ok (.ireturn, 1) := by decide +kernel
theorem d_Checks_allows_150 : decode prog_3_method_4_code 150 = .ok (.iconst 1, 1) := by decide +kernel
theorem d_Checks_allows_151 : decode prog_3_method_4_code 151 = .ok (.goto 5, 3) := by decide +kernel
theorem d_Checks_allows_199 : decode prog_3_method_4_code 199 = .ok (.aload_n 0, 1) := by decide +kernel
theorem d_Checks_allows_200 : decode prog_3_method_4_code 200 = .ok (.aload_n 1, 1) := by decide +kernel
theorem d_Checks_allows_201 : decode prog_3_method_4_code 201 = .ok (.invokevirtual 69, 3) := by decide +kernel
theorem u_1633 : Cond.methodLink "FilterGuard$Checks" 69 ⟨"FilterGuard$Checks", "allowsMemory", "([J)Z"⟩ ∈ fg_g := fg_in (List.mem_of_getElem? (i := 1633) (by decide +kernel)) rfl
theorem u_1636 : Cond.code ⟨"FilterGuard$Checks", "allowsMemory", "([J)Z"⟩ prog_3_method_8_code 8 (some .boolean) ∈ fg_g := fg_in (List.mem_of_getElem? (i := 1636) (by decide +kernel)) rfl
theorem u_1635 : Cond.instanceMethod ⟨"FilterGuard$Checks", "allowsMemory", "([J)Z"⟩ ∈ fg_g := fg_in (List.mem_of_getElem? (i := 1635) (by decide +kernel)) rfl
theorem u_70 : Cond.selects "FilterGuard$Checks" ⟨"FilterGuard$Checks", "allowsMemory", "([J)Z"⟩ ⟨"FilterGuard$Checks", "allowsMemory", "([J)Z"⟩ ∈ fg_g := fg_in (List.mem_of_getElem? (i := 70) (by decide +kernel)) rfl
theorem d_Checks_allows_204 : decode prog_3_method_4_code 204 = .ok (.ireturn, 1) := by decide +kernel
theorem d_Checks_allows_161 : decode prog_3_method_4_code 161 = .ok (.aload_n 0, 1) := by decide +kernel
theorem d_Checks_allows_162 : decode prog_3_method_4_code 162 = .ok (.invokevirtual 58, 3) := by decide +kernel
theorem u_1601 : Cond.methodLink "FilterGuard$Checks" 58 ⟨"FilterGuard$Checks", "allowsArithmetic", "()Z"⟩ ∈ fg_g := fg_in (List.mem_of_getElem? (i := 1601) (by decide +kernel)) rfl
theorem u_1604 : Cond.code ⟨"FilterGuard$Checks", "allowsArithmetic", "()Z"⟩ prog_3_method_6_code 6 (some .boolean) ∈ fg_g := fg_in (List.mem_of_getElem? (i := 1604) (by decide +kernel)) rfl
theorem u_1603 : Cond.instanceMethod ⟨"FilterGuard$Checks", "allowsArithmetic", "()Z"⟩ ∈ fg_g := fg_in (List.mem_of_getElem? (i := 1603) (by decide +kernel)) rfl
theorem u_64 : Cond.selects "FilterGuard$Checks" ⟨"FilterGuard$Checks", "allowsArithmetic", "()Z"⟩ ⟨"FilterGuard$Checks", "allowsArithmetic", "()Z"⟩ ∈ fg_g := fg_in (List.mem_of_getElem? (i := 64) (by decide +kernel)) rfl
theorem d_Checks_allows_165 : decode prog_3_method_4_code 165 = .ok (.ireturn, 1) := by decide +kernel
theorem d_Checks_allows_197 : decode prog_3_method_4_code 197 = .ok (.iconst 1, 1) := by decide +kernel
theorem d_Checks_allows_198 : decode prog_3_method_4_code 198 = .ok (.ireturn, 1) := by decide +kernel
theorem d_Checks_allows_166 : decode prog_3_method_4_code 166 = .ok (.aload_n 0, 1) := by decide +kernel
theorem d_Checks_allows_167 : decode prog_3_method_4_code 167 = .ok (.aload_n 1, 1) := by decide +kernel
theorem d_Checks_allows_168 : decode prog_3_method_4_code 168 = .ok (.invokevirtual 62, 3) := by decide +kernel
theorem u_1611 : Cond.methodLink "FilterGuard$Checks" 62 ⟨"FilterGuard$Checks", "allowsRelation", "([J)Z"⟩ ∈ fg_g := fg_in (List.mem_of_getElem? (i := 1611) (by decide +kernel)) rfl
theorem u_1614 : Cond.code ⟨"FilterGuard$Checks", "allowsRelation", "([J)Z"⟩ prog_3_method_7_code 6 (some .boolean) ∈ fg_g := fg_in (List.mem_of_getElem? (i := 1614) (by decide +kernel)) rfl
theorem u_1613 : Cond.instanceMethod ⟨"FilterGuard$Checks", "allowsRelation", "([J)Z"⟩ ∈ fg_g := fg_in (List.mem_of_getElem? (i := 1613) (by decide +kernel)) rfl
theorem u_66 : Cond.selects "FilterGuard$Checks" ⟨"FilterGuard$Checks", "allowsRelation", "([J)Z"⟩ ⟨"FilterGuard$Checks", "allowsRelation", "([J)Z"⟩ ∈ fg_g := fg_in (List.mem_of_getElem? (i := 66) (by decide +kernel)) rfl
theorem d_Checks_allows_171 : decode prog_3_method_4_code 171 = .ok (.ireturn, 1) := by decide +kernel
theorem d_Checks_allows_172 : decode prog_3_method_4_code 172 = .ok (.aload_n 0, 1) := by decide +kernel
theorem d_Checks_allows_173 : decode prog_3_method_4_code 173 = .ok (.aload_n 1, 1) := by decide +kernel
theorem d_Checks_allows_174 : decode prog_3_method_4_code 174 = .ok (.invokevirtual 66, 3) := by decide +kernel
theorem u_1615 : Cond.methodLink "FilterGuard$Checks" 66 ⟨"FilterGuard$Checks", "allowsCall", "([J)Z"⟩ ∈ fg_g := fg_in (List.mem_of_getElem? (i := 1615) (by decide +kernel)) rfl
theorem u_1618 : Cond.code ⟨"FilterGuard$Checks", "allowsCall", "([J)Z"⟩ prog_3_method_11_code 4 (some .boolean) ∈ fg_g := fg_in (List.mem_of_getElem? (i := 1618) (by decide +kernel)) rfl
theorem u_1617 : Cond.instanceMethod ⟨"FilterGuard$Checks", "allowsCall", "([J)Z"⟩ ∈ fg_g := fg_in (List.mem_of_getElem? (i := 1617) (by decide +kernel)) rfl
theorem u_67 : Cond.selects "FilterGuard$Checks" ⟨"FilterGuard$Checks", "allowsCall", "([J)Z"⟩ ⟨"FilterGuard$Checks", "allowsCall", "([J)Z"⟩ ∈ fg_g := fg_in (List.mem_of_getElem? (i := 67) (by decide +kernel)) rfl
theorem d_Checks_allows_177 : decode prog_3_method_4_code 177 = .ok (.ireturn, 1) := by decide +kernel
theorem d_Checks_allows_178 : decode prog_3_method_4_code 178 = .ok (.aload_n 0, 1) := by decide +kernel
theorem d_Checks_allows_179 : decode prog_3_method_4_code 179 = .ok (.getfield 22, 3) := by decide +kernel
theorem d_Checks_allows_182 : decode prog_3_method_4_code 182 = .ok (.iconst 0, 1) := by decide +kernel
theorem d_Checks_allows_183 : decode prog_3_method_4_code 183 = .ok (.aaload, 1) := by decide +kernel
theorem d_Checks_allows_184 : decode prog_3_method_4_code 184 = .ok (.getfield 34, 3) := by decide +kernel
theorem d_Checks_allows_187 : decode prog_3_method_4_code 187 = .ok (.iconst 1, 1) := by decide +kernel
theorem d_Checks_allows_188 : decode prog_3_method_4_code 188 = .ok (.if_icmp .ne 7, 3) := by decide +kernel
theorem d_Checks_allows_195 : decode prog_3_method_4_code 195 = .ok (.iconst 0, 1) := by decide +kernel
theorem d_Checks_allows_196 : decode prog_3_method_4_code 196 = .ok (.ireturn, 1) := by decide +kernel
theorem d_Checks_allows_191 : decode prog_3_method_4_code 191 = .ok (.iconst 1, 1) := by decide +kernel
theorem d_Checks_allows_192 : decode prog_3_method_4_code 192 = .ok (.goto 4, 3) := by decide +kernel
theorem d_Checks_allows_33 : decode prog_3_method_4_code 33 = .ok (.istore_n 2, 1) := by decide +kernel
theorem d_Checks_allows_34 : decode prog_3_method_4_code 34 = .ok (.iload_n 2, 1) := by decide +kernel
theorem d_Checks_allows_35 : decode prog_3_method_4_code 35 = .ok (.ifCond .ne 31, 3) := by decide +kernel
theorem d_Checks_allows_66 : decode prog_3_method_4_code 66 = .ok (.iconst 0, 1) := by decide +kernel
theorem d_Checks_allows_67 : decode prog_3_method_4_code 67 = .ok (.ireturn, 1) := by decide +kernel
theorem d_Checks_allows_38 : decode prog_3_method_4_code 38 = .ok (.aload_n 0, 1) := by decide +kernel
theorem d_Checks_allows_39 : decode prog_3_method_4_code 39 = .ok (.getfield 23, 3) := by decide +kernel
theorem d_Checks_allows_42 : decode prog_3_method_4_code 42 = .ok (.getfield 49, 3) := by decide +kernel
theorem d_Checks_allows_45 : decode prog_3_method_4_code 45 = .ok (.ifCond .eq 23, 3) := by decide +kernel
theorem d_Checks_allows_48 : decode prog_3_method_4_code 48 = .ok (.aload_n 0, 1) := by decide +kernel
theorem d_Checks_allows_49 : decode prog_3_method_4_code 49 = .ok (.getfield 22, 3) := by decide +kernel
theorem d_Checks_allows_52 : decode prog_3_method_4_code 52 = .ok (.aload_n 0, 1) := by decide +kernel
theorem d_Checks_allows_53 : decode prog_3_method_4_code 53 = .ok (.getfield 23, 3) := by decide +kernel
theorem d_Checks_allows_56 : decode prog_3_method_4_code 56 = .ok (.getfield 52, 3) := by decide +kernel
theorem d_Checks_allows_59 : decode prog_3_method_4_code 59 = .ok (.aaload, 1) := by decide +kernel
theorem d_Checks_allows_60 : decode prog_3_method_4_code 60 = .ok (.getfield 34, 3) := by decide +kernel
theorem d_Checks_allows_63 : decode prog_3_method_4_code 63 = .ok (.ifCond .ne 5, 3) := by decide +kernel
theorem d_Checks_allows_32 : decode prog_3_method_4_code 32 = .ok (.iconst 0, 1) := by decide +kernel
theorem d_Checks_allows_0 : decode prog_3_method_4_code 0 = .ok (.aload_n 0, 1) := by decide +kernel
theorem d_Checks_allows_1 : decode prog_3_method_4_code 1 = .ok (.getfield 23, 3) := by decide +kernel
theorem d_Checks_allows_4 : decode prog_3_method_4_code 4 = .ok (.getfield 40, 3) := by decide +kernel
theorem u_271 : Cond.fieldLink "FilterGuard$Checks" 40 "FilterGuard$Code" "readsTo" "Z" ∈ fg_g := fg_in (List.mem_of_getElem? (i := 271) (by decide +kernel)) rfl
theorem d_Checks_allows_7 : decode prog_3_method_4_code 7 = .ok (.ifCond .eq 25, 3) := by decide +kernel
theorem d_Checks_allows_10 : decode prog_3_method_4_code 10 = .ok (.aload_n 0, 1) := by decide +kernel
theorem d_Checks_allows_11 : decode prog_3_method_4_code 11 = .ok (.getfield 22, 3) := by decide +kernel
theorem d_Checks_allows_14 : decode prog_3_method_4_code 14 = .ok (.aload_n 0, 1) := by decide +kernel
theorem d_Checks_allows_15 : decode prog_3_method_4_code 15 = .ok (.getfield 23, 3) := by decide +kernel
theorem d_Checks_allows_18 : decode prog_3_method_4_code 18 = .ok (.getfield 46, 3) := by decide +kernel
theorem d_Checks_allows_21 : decode prog_3_method_4_code 21 = .ok (.aaload, 1) := by decide +kernel
theorem d_Checks_allows_22 : decode prog_3_method_4_code 22 = .ok (.getfield 34, 3) := by decide +kernel
theorem d_Checks_allows_25 : decode prog_3_method_4_code 25 = .ok (.ifCond .ne 7, 3) := by decide +kernel
theorem d_Checks_allows_28 : decode prog_3_method_4_code 28 = .ok (.iconst 1, 1) := by decide +kernel
theorem d_Checks_allows_29 : decode prog_3_method_4_code 29 = .ok (.goto 4, 3) := by decide +kernel
abbrev y_Checks_allows : MethodName := ⟨"FilterGuard$Checks", "allows", "([J)Z"⟩
def f_Checks_allows_b68 (j0 : Nat) (j1 : Nat) (M : me_M) : Option (me_M × Int32) := bd (mR M 6 j0 0) (fun (j2 : Nat) => (if (mI M 2 j2 10) = 1 then bd (mR M 6 j0 3) (fun (j6 : Nat) => gd (¬ ((mI M 2 j2 6) < 0 ∨ mZ M 18 j6 ≤ (mI M 2 j2 6).toNatClampNeg)) (bd (mR M 18 j6 ((mI M 2 j2 6).toNatClampNeg)) (fun (j9 : Nat) => (if (mI M 2 j2 7) = 0 then st (wI M 10 j9 0 1) (fun (M13 : me_M) => some (M13, (1 : Int32))) else st (wI M 10 j9 0 6) (fun (M12 : me_M) => some (M12, (1 : Int32))))))) else (if (mI M 2 j2 10) = 2 then b2 (f_Checks_allowsMemory M j0 j1) (fun (M15 : me_M) (r16 : Int32) => some (M15, r16)) else (if (mI M 2 j2 10) = 3 then b2 (f_Checks_allowsMemory M j0 j1) (fun (M18 : me_M) (r19 : Int32) => some (M18, r19)) else (if (mI M 2 j2 10) = 4 then b2 (f_Checks_allowsMemory M j0 j1) (fun (M21 : me_M) (r22 : Int32) => some (M21, r22)) else (if (mI M 2 j2 10) = 5 then b2 (f_Checks_allowsMemory M j0 j1) (fun (M24 : me_M) (r25 : Int32) => some (M24, r25)) else (if (mI M 2 j2 10) = 6 then b2 (f_Checks_allowsArithmetic M j0) (fun (M27 : me_M) (r28 : Int32) => some (M27, r28)) else (if (mI M 2 j2 10) = 7 then some (M, (1 : Int32)) else (if (mI M 2 j2 10) = 8 then b2 (f_Checks_allowsRelation M j0 j1) (fun (M31 : me_M) (r32 : Int32) => some (M31, r32)) else (if (mI M 2 j2 10) = 9 then b2 (f_Checks_allowsCall M j0 j1) (fun (M34 : me_M) (r35 : Int32) => some (M34, r35)) else (if (mI M 2 j2 10) = 10 then bd (mR M 6 j0 3) (fun (j37 : Nat) => gd (0 < mZ M 18 j37) (bd (mR M 18 j37 0) (fun (j40 : Nat) => (if (mI M 10 j40 0) = 1 then some (M, (1 : Int32)) else some (M, (0 : Int32)))))) else b2 (f_Checks_allowsMemory M j0 j1) (fun (M43 : me_M) (r44 : Int32) => some (M43, r44)))))))))))))
def f_Checks_allows_b33 (j0 : Nat) (j1 : Nat) (M : me_M) (s0 : Int32) : Option (me_M × Int32) := (if s0 = 0 then bd (mR M 6 j0 0) (fun (j46 : Nat) => (if (mI M 2 j46 15) = 0 then f_Checks_allows_b68 j0 j1 M else bd (mR M 6 j0 3) (fun (j50 : Nat) => gd (¬ ((mI M 2 j46 7) < 0 ∨ mZ M 18 j50 ≤ (mI M 2 j46 7).toNatClampNeg)) (bd (mR M 18 j50 ((mI M 2 j46 7).toNatClampNeg)) (fun (j53 : Nat) => (if (mI M 10 j53 0) = 0 then some (M, (0 : Int32)) else f_Checks_allows_b68 j0 j1 M)))))) else some (M, (0 : Int32)))
def f_Checks_allows_b32 (j0 : Nat) (j1 : Nat) (M : me_M) : Option (me_M × Int32) := f_Checks_allows_b33 j0 j1 M (0 : Int32)
def f_Checks_allows (M0 : me_M) (j0 : Nat) (j1 : Nat) : Option (me_M × Int32) := bd (mR M0 6 j0 0) (fun (j56 : Nat) => (if (mI M0 2 j56 14) = 0 then f_Checks_allows_b32 j0 j1 M0 else bd (mR M0 6 j0 3) (fun (j60 : Nat) => gd (¬ ((mI M0 2 j56 6) < 0 ∨ mZ M0 18 j60 ≤ (mI M0 2 j56 6).toNatClampNeg)) (bd (mR M0 18 j60 ((mI M0 2 j56 6).toNatClampNeg)) (fun (j63 : Nat) => (if (mI M0 10 j63 0) = 0 then f_Checks_allows_b33 j0 j1 M0 (1 : Int32) else f_Checks_allows_b32 j0 j1 M0))))))
def rm_Checks_allows : Room := { frames := 6, cells := 0, slots := 0, locals := 158 }
abbrev q_Checks_allows (D : va_G) (ad : Nat → Nat → Nat) (ca : Nat → ClassId) (N : Nat → Nat) (M0 MZ : me_M) (RZ : Int32) (A : Nat → Prop) : Array Value → Jvm.State → Outcome → Jvm.State → Prop := va_Qi (fun r (_ : Unit) => r = RZ ∧ me_wf N MZ ∧ me_kp M0 MZ ∧ (RZ = 1 ∨ RZ = 0)) (fg_B D A (fun _ => me_W ad ca MZ) (fun _ => [])) A
set_option maxHeartbeats 4000000 in
set_option maxRecDepth 100000 in
theorem c_Checks_allows (l : Launch) (D : va_G) (ad : Nat → Nat → Nat) (ca : Nat → ClassId) (N : Nat → Nat) (M0 MZ : me_M) (RZ : Int32) (j0 : Nat) (j1 : Nat) (h : f_Checks_allows M0 j0 j1 = (some (MZ, RZ))) (hwf : me_wf N M0) (hj0 : j0 < N 6) (hj1 : j1 < N 16) (sz : Nat) : Met l y_Checks_allows (fg_w y_Checks_allows prog_3_method_4_code 3 (some .boolean)) rm_Checks_allows (va_Pc [.ref (ad 6 j0), .ref (ad 16 j1)] (fz_P D (me_T ca) (me_W ad ca M0) sz)) (q_Checks_allows D ad ca N M0 MZ RZ (va_A (me_W ad ca M0) sz)) rm_Checks_allows.cells rm_Checks_allows.slots (va_A (me_W ad ca M0) sz) := by
  refine fz_enter (fun A => q_Checks_allows D ad ca N M0 MZ RZ A) (by decide +kernel) (Nat.le_of_ble_eq_true rfl) ?_
  intro p e s m below meth c ls A hx hb hml hown hts hr hlocks hin hP hK hD hS hA hX hl hz
  have hl : lv_has ls 3 [(0, .ref (ad 6 j0)), (1, .ref (ad 16 j1))] := hl
  unfold f_Checks_allows at h
  have hkp : me_kp M0 M0 := me_kp.rf
  have hkb := hkp
  have b_68 : ∀ (M : me_M) (H : Heap) (locs : List Loc) (ls : Array Slot), f_Checks_allows_b68 j0 j1 M = (some (MZ, RZ)) → me_wf N M → me_kp M0 M → va_P D classes (me_W ad ca M) H → va_D A (me_W ad ca M) → va_S A s.heap H locs → lv_has ls 3 [(0, .ref (ad 6 j0)), (1, .ref (ad 16 j1))] → W p l e rm_Checks_allows s m [.ref (ad 6 j0), .ref (ad 16 j1)].toArray below meth c H locs 0 0 (MQ below (q_Checks_allows D ad ca N M0 MZ RZ A) [.ref (ad 6 j0), .ref (ad 16 j1)].toArray s rm_Checks_allows.cells rm_Checks_allows.slots A) (F0 m 68 ls []) := by
    intro M H locs ls h hwf hkp hP hD hS hl
    unfold f_Checks_allows_b68 at h
    have hkb := hkp
    refine lv_aload_n hx hb d_Checks_allows_68 rfl (lv_at hl 0 rfl) ?_
    refine g_Checks_0 hx hb hts hown hK hP hwf hj0 (hts _ u_610) d_Checks_allows_69 ?_
    obtain ⟨j2, e3, h⟩ := bd_ob h
    have hj2 : j2 < N 2 := (hwf.2.1 6 j0 0 _ e3 (by decide) hj0)
    refine me_opt (j := j2) e3 ?_
    refine g_Code_10 hx hb hts hown hK hP hwf hj2 (hts _ u_253) d_Checks_allows_72 ?_
    refine lv_topi (fun w4 ew4 => ?_)
    by_cases n5 : w4 = 1
    · have h := if_t (ew4.symm.trans n5) h
      subst n5
      refine lv_tableIn (off := 53) (tgt := 128) hx hb d_Checks_allows_75 (by decide) (by decide) (by decide) (by decide) ?_
      refine lv_aload_n hx hb d_Checks_allows_128 rfl (lv_at hl 0 rfl) ?_
      refine g_Checks_3 hx hb hts hown hK hP hwf hj0 (hts _ u_613) d_Checks_allows_129 ?_
      obtain ⟨j6, e7, h⟩ := bd_ob h
      have hj6 : j6 < N 18 := (hwf.2.1 6 j0 3 _ e7 (by decide) hj0)
      refine me_opt (j := j6) e7 ?_
      refine lv_aload_n hx hb d_Checks_allows_132 rfl (lv_at hl 0 rfl) ?_
      refine g_Checks_0 hx hb hts hown hK hP hwf hj0 (hts _ u_610) d_Checks_allows_133 ?_
      refine me_opt (j := j2) e3 ?_
      refine g_Code_6 hx hb hts hown hK hP hwf hj2 (hts _ u_234) d_Checks_allows_136 ?_
      obtain ⟨g8, h⟩ := gd_ob h
      refine me_aald (k := 18) (t := 10) hx hb hK hP hwf hj6 (by decide) (by decide) rfl (fun _ => rfl) g8 d_Checks_allows_139 ?_
      obtain ⟨j9, e10, h⟩ := bd_ob h
      have hj9 : j9 < N 10 := (hwf.2.1 18 j6 ((mI M 2 j2 6).toNatClampNeg) _ e10 (by decide) hj6)
      refine me_opt (j := j9) e10 ?_
      refine lv_aload_n hx hb d_Checks_allows_140 rfl (lv_at hl 0 rfl) ?_
      refine g_Checks_0 hx hb hts hown hK hP hwf hj0 (hts _ u_610) d_Checks_allows_141 ?_
      refine me_opt (j := j2) e3 ?_
      refine g_Code_7 hx hb hts hown hK hP hwf hj2 (hts _ u_240) d_Checks_allows_144 ?_
      refine lv_if_ne (tgt := 154) hx hb d_Checks_allows_147 (by decide) (fun c11 => ?_) (fun c11 => ?_)
      · have h := if_f c11 h
        refine lv_bipush (v := 6) hx hb d_Checks_allows_154 (by decide) ?_
        obtain ⟨M12, eM12, h⟩ := st_ob h
        refine p_Cell_0 eM12 hx hb hts hown hK hP hD hwf hS hj9 (hts _ u_421) d_Checks_allows_156 (fun H locs hP hD hwf hS => ?_)
        have hkp := kp_I eM12 hkp
        refine lv_iconst (v := 1) hx hb d_Checks_allows_159 (by decide) ?_
        exact me_retz (me_kp M0) h (by decide) hx hb hr hlocks hwf hkp hP hK hD hS d_Checks_allows_160
      have h := if_t c11 h
      refine lv_iconst (v := 1) hx hb d_Checks_allows_150 (by decide) ?_
      refine lv_goto (tgt := 156) hx hb d_Checks_allows_151 (by decide) ?_
      obtain ⟨M13, eM13, h⟩ := st_ob h
      refine p_Cell_0 eM13 hx hb hts hown hK hP hD hwf hS hj9 (hts _ u_421) d_Checks_allows_156 (fun H locs hP hD hwf hS => ?_)
      have hkp := kp_I eM13 hkp
      refine lv_iconst (v := 1) hx hb d_Checks_allows_159 (by decide) ?_
      exact me_retz (me_kp M0) h (by decide) hx hb hr hlocks hwf hkp hP hK hD hS d_Checks_allows_160
    have h := if_f (fun z => n5 (ew4.trans z)) h
    by_cases n14 : w4 = 2
    · have h := if_t (ew4.symm.trans n14) h
      subst n14
      refine lv_tableIn (off := 124) (tgt := 199) hx hb d_Checks_allows_75 (by decide) (by decide) (by decide) (by decide) ?_
      refine lv_aload_n hx hb d_Checks_allows_199 rfl (lv_at hl 0 rfl) ?_
      refine lv_aload_n hx hb d_Checks_allows_200 rfl (lv_at hl 1 rfl) ?_
      obtain ⟨M15, r16, eM15, h⟩ := b2_ob h
      refine me_theni0 (M1 := M15) (me_runV (C := "FilterGuard$Checks") (As := [.ref (ad 16 j1)]) (rest := []) ⟨hx, hb, hml, hown, hts⟩ (c_Checks_allowsMemory l D ad ca N M M15 r16 j0 j1 eM15 hwf hj0 hj1 _) rfl (by show fg_nm y_Checks_allowsMemory 1; decide +kernel) u_1633 u_1635 u_70 u_191 u_1636 ⟨Nat.le_of_ble_eq_true rfl, Nat.le_of_ble_eq_true rfl⟩ hX hz hK hP hD hwf hS hA hj0 (by decide) rfl rfl rfl hl.1 (Nat.le_of_ble_eq_true rfl) d_Checks_allows_201 ⟨Nat.le_of_ble_eq_true rfl, Nat.le_of_ble_eq_true rfl⟩) hP hD hK hS hA rfl rfl (fun H locs hw hP hD hS => ?_)
      obtain ⟨hwf, hk9, zr16⟩ := hw
      have hkp := hkp.tr hk9
      exact me_retz (me_kp M0) h zr16 hx hb hr hlocks hwf hkp hP hK hD hS d_Checks_allows_204
    have h := if_f (fun z => n14 (ew4.trans z)) h
    by_cases n17 : w4 = 3
    · have h := if_t (ew4.symm.trans n17) h
      subst n17
      refine lv_tableIn (off := 124) (tgt := 199) hx hb d_Checks_allows_75 (by decide) (by decide) (by decide) (by decide) ?_
      refine lv_aload_n hx hb d_Checks_allows_199 rfl (lv_at hl 0 rfl) ?_
      refine lv_aload_n hx hb d_Checks_allows_200 rfl (lv_at hl 1 rfl) ?_
      obtain ⟨M18, r19, eM18, h⟩ := b2_ob h
      refine me_theni0 (M1 := M18) (me_runV (C := "FilterGuard$Checks") (As := [.ref (ad 16 j1)]) (rest := []) ⟨hx, hb, hml, hown, hts⟩ (c_Checks_allowsMemory l D ad ca N M M18 r19 j0 j1 eM18 hwf hj0 hj1 _) rfl (by show fg_nm y_Checks_allowsMemory 1; decide +kernel) u_1633 u_1635 u_70 u_191 u_1636 ⟨Nat.le_of_ble_eq_true rfl, Nat.le_of_ble_eq_true rfl⟩ hX hz hK hP hD hwf hS hA hj0 (by decide) rfl rfl rfl hl.1 (Nat.le_of_ble_eq_true rfl) d_Checks_allows_201 ⟨Nat.le_of_ble_eq_true rfl, Nat.le_of_ble_eq_true rfl⟩) hP hD hK hS hA rfl rfl (fun H locs hw hP hD hS => ?_)
      obtain ⟨hwf, hk9, zr19⟩ := hw
      have hkp := hkp.tr hk9
      exact me_retz (me_kp M0) h zr19 hx hb hr hlocks hwf hkp hP hK hD hS d_Checks_allows_204
    have h := if_f (fun z => n17 (ew4.trans z)) h
    by_cases n20 : w4 = 4
    · have h := if_t (ew4.symm.trans n20) h
      subst n20
      refine lv_tableIn (off := 124) (tgt := 199) hx hb d_Checks_allows_75 (by decide) (by decide) (by decide) (by decide) ?_
      refine lv_aload_n hx hb d_Checks_allows_199 rfl (lv_at hl 0 rfl) ?_
      refine lv_aload_n hx hb d_Checks_allows_200 rfl (lv_at hl 1 rfl) ?_
      obtain ⟨M21, r22, eM21, h⟩ := b2_ob h
      refine me_theni0 (M1 := M21) (me_runV (C := "FilterGuard$Checks") (As := [.ref (ad 16 j1)]) (rest := []) ⟨hx, hb, hml, hown, hts⟩ (c_Checks_allowsMemory l D ad ca N M M21 r22 j0 j1 eM21 hwf hj0 hj1 _) rfl (by show fg_nm y_Checks_allowsMemory 1; decide +kernel) u_1633 u_1635 u_70 u_191 u_1636 ⟨Nat.le_of_ble_eq_true rfl, Nat.le_of_ble_eq_true rfl⟩ hX hz hK hP hD hwf hS hA hj0 (by decide) rfl rfl rfl hl.1 (Nat.le_of_ble_eq_true rfl) d_Checks_allows_201 ⟨Nat.le_of_ble_eq_true rfl, Nat.le_of_ble_eq_true rfl⟩) hP hD hK hS hA rfl rfl (fun H locs hw hP hD hS => ?_)
      obtain ⟨hwf, hk9, zr22⟩ := hw
      have hkp := hkp.tr hk9
      exact me_retz (me_kp M0) h zr22 hx hb hr hlocks hwf hkp hP hK hD hS d_Checks_allows_204
    have h := if_f (fun z => n20 (ew4.trans z)) h
    by_cases n23 : w4 = 5
    · have h := if_t (ew4.symm.trans n23) h
      subst n23
      refine lv_tableIn (off := 124) (tgt := 199) hx hb d_Checks_allows_75 (by decide) (by decide) (by decide) (by decide) ?_
      refine lv_aload_n hx hb d_Checks_allows_199 rfl (lv_at hl 0 rfl) ?_
      refine lv_aload_n hx hb d_Checks_allows_200 rfl (lv_at hl 1 rfl) ?_
      obtain ⟨M24, r25, eM24, h⟩ := b2_ob h
      refine me_theni0 (M1 := M24) (me_runV (C := "FilterGuard$Checks") (As := [.ref (ad 16 j1)]) (rest := []) ⟨hx, hb, hml, hown, hts⟩ (c_Checks_allowsMemory l D ad ca N M M24 r25 j0 j1 eM24 hwf hj0 hj1 _) rfl (by show fg_nm y_Checks_allowsMemory 1; decide +kernel) u_1633 u_1635 u_70 u_191 u_1636 ⟨Nat.le_of_ble_eq_true rfl, Nat.le_of_ble_eq_true rfl⟩ hX hz hK hP hD hwf hS hA hj0 (by decide) rfl rfl rfl hl.1 (Nat.le_of_ble_eq_true rfl) d_Checks_allows_201 ⟨Nat.le_of_ble_eq_true rfl, Nat.le_of_ble_eq_true rfl⟩) hP hD hK hS hA rfl rfl (fun H locs hw hP hD hS => ?_)
      obtain ⟨hwf, hk9, zr25⟩ := hw
      have hkp := hkp.tr hk9
      exact me_retz (me_kp M0) h zr25 hx hb hr hlocks hwf hkp hP hK hD hS d_Checks_allows_204
    have h := if_f (fun z => n23 (ew4.trans z)) h
    by_cases n26 : w4 = 6
    · have h := if_t (ew4.symm.trans n26) h
      subst n26
      refine lv_tableIn (off := 86) (tgt := 161) hx hb d_Checks_allows_75 (by decide) (by decide) (by decide) (by decide) ?_
      refine lv_aload_n hx hb d_Checks_allows_161 rfl (lv_at hl 0 rfl) ?_
      obtain ⟨M27, r28, eM27, h⟩ := b2_ob h
      refine me_theni0 (M1 := M27) (me_runV (C := "FilterGuard$Checks") (As := []) (rest := []) ⟨hx, hb, hml, hown, hts⟩ (c_Checks_allowsArithmetic l D ad ca N M M27 r28 j0 eM27 hwf hj0 _) rfl (by show fg_nm y_Checks_allowsArithmetic 0; decide +kernel) u_1601 u_1603 u_64 u_191 u_1604 ⟨Nat.le_of_ble_eq_true rfl, Nat.le_of_ble_eq_true rfl⟩ hX hz hK hP hD hwf hS hA hj0 (by decide) rfl rfl rfl hl.1 (Nat.le_of_ble_eq_true rfl) d_Checks_allows_162 ⟨Nat.le_of_ble_eq_true rfl, Nat.le_of_ble_eq_true rfl⟩) hP hD hK hS hA rfl rfl (fun H locs hw hP hD hS => ?_)
      obtain ⟨hwf, hk9, zr28⟩ := hw
      have hkp := hkp.tr hk9
      exact me_retz (me_kp M0) h zr28 hx hb hr hlocks hwf hkp hP hK hD hS d_Checks_allows_165
    have h := if_f (fun z => n26 (ew4.trans z)) h
    by_cases n29 : w4 = 7
    · have h := if_t (ew4.symm.trans n29) h
      subst n29
      refine lv_tableIn (off := 122) (tgt := 197) hx hb d_Checks_allows_75 (by decide) (by decide) (by decide) (by decide) ?_
      refine lv_iconst (v := 1) hx hb d_Checks_allows_197 (by decide) ?_
      exact me_retz (me_kp M0) h (by decide) hx hb hr hlocks hwf hkp hP hK hD hS d_Checks_allows_198
    have h := if_f (fun z => n29 (ew4.trans z)) h
    by_cases n30 : w4 = 8
    · have h := if_t (ew4.symm.trans n30) h
      subst n30
      refine lv_tableIn (off := 91) (tgt := 166) hx hb d_Checks_allows_75 (by decide) (by decide) (by decide) (by decide) ?_
      refine lv_aload_n hx hb d_Checks_allows_166 rfl (lv_at hl 0 rfl) ?_
      refine lv_aload_n hx hb d_Checks_allows_167 rfl (lv_at hl 1 rfl) ?_
      obtain ⟨M31, r32, eM31, h⟩ := b2_ob h
      refine me_theni0 (M1 := M31) (me_runV (C := "FilterGuard$Checks") (As := [.ref (ad 16 j1)]) (rest := []) ⟨hx, hb, hml, hown, hts⟩ (c_Checks_allowsRelation l D ad ca N M M31 r32 j0 j1 eM31 hwf hj0 hj1 _) rfl (by show fg_nm y_Checks_allowsRelation 1; decide +kernel) u_1611 u_1613 u_66 u_191 u_1614 ⟨Nat.le_of_ble_eq_true rfl, Nat.le_of_ble_eq_true rfl⟩ hX hz hK hP hD hwf hS hA hj0 (by decide) rfl rfl rfl hl.1 (Nat.le_of_ble_eq_true rfl) d_Checks_allows_168 ⟨Nat.le_of_ble_eq_true rfl, Nat.le_of_ble_eq_true rfl⟩) hP hD hK hS hA rfl rfl (fun H locs hw hP hD hS => ?_)
      obtain ⟨hwf, hk9, zr32⟩ := hw
      have hkp := hkp.tr hk9
      exact me_retz (me_kp M0) h zr32 hx hb hr hlocks hwf hkp hP hK hD hS d_Checks_allows_171
    have h := if_f (fun z => n30 (ew4.trans z)) h
    by_cases n33 : w4 = 9
    · have h := if_t (ew4.symm.trans n33) h
      subst n33
      refine lv_tableIn (off := 97) (tgt := 172) hx hb d_Checks_allows_75 (by decide) (by decide) (by decide) (by decide) ?_
      refine lv_aload_n hx hb d_Checks_allows_172 rfl (lv_at hl 0 rfl) ?_
      refine lv_aload_n hx hb d_Checks_allows_173 rfl (lv_at hl 1 rfl) ?_
      obtain ⟨M34, r35, eM34, h⟩ := b2_ob h
      refine me_theni0 (M1 := M34) (me_runV (C := "FilterGuard$Checks") (As := [.ref (ad 16 j1)]) (rest := []) ⟨hx, hb, hml, hown, hts⟩ (c_Checks_allowsCall l D ad ca N M M34 r35 j0 j1 eM34 hwf hj0 hj1 _) rfl (by show fg_nm y_Checks_allowsCall 1; decide +kernel) u_1615 u_1617 u_67 u_191 u_1618 ⟨Nat.le_of_ble_eq_true rfl, Nat.le_of_ble_eq_true rfl⟩ hX hz hK hP hD hwf hS hA hj0 (by decide) rfl rfl rfl hl.1 (Nat.le_of_ble_eq_true rfl) d_Checks_allows_174 ⟨Nat.le_of_ble_eq_true rfl, Nat.le_of_ble_eq_true rfl⟩) hP hD hK hS hA rfl rfl (fun H locs hw hP hD hS => ?_)
      obtain ⟨hwf, hk9, zr35⟩ := hw
      have hkp := hkp.tr hk9
      exact me_retz (me_kp M0) h zr35 hx hb hr hlocks hwf hkp hP hK hD hS d_Checks_allows_177
    have h := if_f (fun z => n33 (ew4.trans z)) h
    by_cases n36 : w4 = 10
    · have h := if_t (ew4.symm.trans n36) h
      subst n36
      refine lv_tableIn (off := 103) (tgt := 178) hx hb d_Checks_allows_75 (by decide) (by decide) (by decide) (by decide) ?_
      refine lv_aload_n hx hb d_Checks_allows_178 rfl (lv_at hl 0 rfl) ?_
      refine g_Checks_3 hx hb hts hown hK hP hwf hj0 (hts _ u_613) d_Checks_allows_179 ?_
      obtain ⟨j37, e38, h⟩ := bd_ob h
      have hj37 : j37 < N 18 := (hwf.2.1 6 j0 3 _ e38 (by decide) hj0)
      refine me_opt (j := j37) e38 ?_
      refine lv_iconst (v := 0) hx hb d_Checks_allows_182 (by decide) ?_
      obtain ⟨g39, h⟩ := gd_ob h
      refine me_aald (k := 18) (t := 10) hx hb hK hP hwf hj37 (by decide) (by decide) rfl (fun _ => rfl) (me_in (i := (0 : Int32)) (k := 0) (by decide) (by decide) g39) d_Checks_allows_183 ?_
      rw [show (0 : Int32).toNatClampNeg = 0 by decide]
      obtain ⟨j40, e41, h⟩ := bd_ob h
      have hj40 : j40 < N 10 := (hwf.2.1 18 j37 0 _ e41 (by decide) hj37)
      refine me_opt (j := j40) e41 ?_
      refine g_Cell_0 hx hb hts hown hK hP hwf hj40 (hts _ u_421) d_Checks_allows_184 ?_
      refine lv_iconst (v := 1) hx hb d_Checks_allows_187 (by decide) ?_
      refine lv_icmp_ne (tgt := 195) hx hb d_Checks_allows_188 (by decide) (fun c42 => ?_) (fun c42 => ?_)
      · have h := if_f c42 h
        refine lv_iconst (v := 0) hx hb d_Checks_allows_195 (by decide) ?_
        exact me_retz (me_kp M0) h (by decide) hx hb hr hlocks hwf hkp hP hK hD hS d_Checks_allows_196
      have h := if_t c42 h
      refine lv_iconst (v := 1) hx hb d_Checks_allows_191 (by decide) ?_
      refine lv_goto (tgt := 196) hx hb d_Checks_allows_192 (by decide) ?_
      exact me_retz (me_kp M0) h (by decide) hx hb hr hlocks hwf hkp hP hK hD hS d_Checks_allows_196
    have h := if_f (fun z => n36 (ew4.trans z)) h
    have in5 := lv_neT n5 (show (1 : Int32).toInt = 1 from rfl)
    have in14 := lv_neT n14 (show (2 : Int32).toInt = 2 from rfl)
    have in17 := lv_neT n17 (show (3 : Int32).toInt = 3 from rfl)
    have in20 := lv_neT n20 (show (4 : Int32).toInt = 4 from rfl)
    have in23 := lv_neT n23 (show (5 : Int32).toInt = 5 from rfl)
    have in26 := lv_neT n26 (show (6 : Int32).toInt = 6 from rfl)
    have in29 := lv_neT n29 (show (7 : Int32).toInt = 7 from rfl)
    have in30 := lv_neT n30 (show (8 : Int32).toInt = 8 from rfl)
    have in33 := lv_neT n33 (show (9 : Int32).toInt = 9 from rfl)
    have in36 := lv_neT n36 (show (10 : Int32).toInt = 10 from rfl)
    refine lv_tableOut (tgt := 199) hx hb d_Checks_allows_75 (by omega) (by decide) ?_
    refine lv_aload_n hx hb d_Checks_allows_199 rfl (lv_at hl 0 rfl) ?_
    refine lv_aload_n hx hb d_Checks_allows_200 rfl (lv_at hl 1 rfl) ?_
    obtain ⟨M43, r44, eM43, h⟩ := b2_ob h
    refine me_theni0 (M1 := M43) (me_runV (C := "FilterGuard$Checks") (As := [.ref (ad 16 j1)]) (rest := []) ⟨hx, hb, hml, hown, hts⟩ (c_Checks_allowsMemory l D ad ca N M M43 r44 j0 j1 eM43 hwf hj0 hj1 _) rfl (by show fg_nm y_Checks_allowsMemory 1; decide +kernel) u_1633 u_1635 u_70 u_191 u_1636 ⟨Nat.le_of_ble_eq_true rfl, Nat.le_of_ble_eq_true rfl⟩ hX hz hK hP hD hwf hS hA hj0 (by decide) rfl rfl rfl hl.1 (Nat.le_of_ble_eq_true rfl) d_Checks_allows_201 ⟨Nat.le_of_ble_eq_true rfl, Nat.le_of_ble_eq_true rfl⟩) hP hD hK hS hA rfl rfl (fun H locs hw hP hD hS => ?_)
    obtain ⟨hwf, hk9, zr44⟩ := hw
    have hkp := hkp.tr hk9
    exact me_retz (me_kp M0) h zr44 hx hb hr hlocks hwf hkp hP hK hD hS d_Checks_allows_204
  have b_33 : ∀ (M : me_M) (s0 : Int32) (H : Heap) (locs : List Loc) (ls : Array Slot), f_Checks_allows_b33 j0 j1 M s0 = (some (MZ, RZ)) → (s0 = 1 ∨ s0 = 0) → me_wf N M → me_kp M0 M → va_P D classes (me_W ad ca M) H → va_D A (me_W ad ca M) → va_S A s.heap H locs → lv_has ls 3 [(0, .ref (ad 6 j0)), (1, .ref (ad 16 j1))] → W p l e rm_Checks_allows s m [.ref (ad 6 j0), .ref (ad 16 j1)].toArray below meth c H locs 0 0 (MQ below (q_Checks_allows D ad ca N M0 MZ RZ A) [.ref (ad 6 j0), .ref (ad 16 j1)].toArray s rm_Checks_allows.cells rm_Checks_allows.slots A) (F0 m 33 ls [.int s0]) := by
    intro M s0 H locs ls h zs0 hwf hkp hP hD hS hl
    unfold f_Checks_allows_b33 at h
    have hkb := hkp
    refine lv_istore_n (lv' := [(2, .int s0), (0, .ref (ad 6 j0)), (1, .ref (ad 16 j1))]) hx hb d_Checks_allows_33 rfl hl (by decide) rfl (fun ls hl => ?_)
    refine lv_iload_n hx hb d_Checks_allows_34 rfl (lv_at hl 0 rfl) ?_
    refine lv_if_ne (tgt := 66) hx hb d_Checks_allows_35 (by decide) (fun c45 => ?_) (fun c45 => ?_)
    · have h := if_f c45 h
      refine lv_iconst (v := 0) hx hb d_Checks_allows_66 (by decide) ?_
      exact me_retz (me_kp M0) h (by decide) hx hb hr hlocks hwf hkp hP hK hD hS d_Checks_allows_67
    have h := if_t c45 h
    refine lv_aload_n hx hb d_Checks_allows_38 rfl (lv_at hl 1 rfl) ?_
    refine g_Checks_0 hx hb hts hown hK hP hwf hj0 (hts _ u_610) d_Checks_allows_39 ?_
    obtain ⟨j46, e47, h⟩ := bd_ob h
    have hj46 : j46 < N 2 := (hwf.2.1 6 j0 0 _ e47 (by decide) hj0)
    refine me_opt (j := j46) e47 ?_
    refine g_Code_15 hx hb hts hown hK hP hwf hj46 (hts _ u_274) d_Checks_allows_42 ?_
    have z48 := (hwf.2.2.2 2 j46 15 rfl)
    refine lv_if_eq (tgt := 68) hx hb d_Checks_allows_45 (by decide) (fun c49 => ?_) (fun c49 => ?_)
    · have h := if_t c49 h
      exact b_68 M _ _ _ h hwf hkp hP hD hS (lv_sub hl [1, 2] rfl)
    have h := if_f c49 h
    refine lv_aload_n hx hb d_Checks_allows_48 rfl (lv_at hl 1 rfl) ?_
    refine g_Checks_3 hx hb hts hown hK hP hwf hj0 (hts _ u_613) d_Checks_allows_49 ?_
    obtain ⟨j50, e51, h⟩ := bd_ob h
    have hj50 : j50 < N 18 := (hwf.2.1 6 j0 3 _ e51 (by decide) hj0)
    refine me_opt (j := j50) e51 ?_
    refine lv_aload_n hx hb d_Checks_allows_52 rfl (lv_at hl 1 rfl) ?_
    refine g_Checks_0 hx hb hts hown hK hP hwf hj0 (hts _ u_610) d_Checks_allows_53 ?_
    refine me_opt (j := j46) e47 ?_
    refine g_Code_7 hx hb hts hown hK hP hwf hj46 (hts _ u_240) d_Checks_allows_56 ?_
    obtain ⟨g52, h⟩ := gd_ob h
    refine me_aald (k := 18) (t := 10) hx hb hK hP hwf hj50 (by decide) (by decide) rfl (fun _ => rfl) g52 d_Checks_allows_59 ?_
    obtain ⟨j53, e54, h⟩ := bd_ob h
    have hj53 : j53 < N 10 := (hwf.2.1 18 j50 ((mI M 2 j46 7).toNatClampNeg) _ e54 (by decide) hj50)
    refine me_opt (j := j53) e54 ?_
    refine g_Cell_0 hx hb hts hown hK hP hwf hj53 (hts _ u_421) d_Checks_allows_60 ?_
    refine lv_if_ne (tgt := 68) hx hb d_Checks_allows_63 (by decide) (fun c55 => ?_) (fun c55 => ?_)
    · have h := if_f c55 h
      exact b_68 M _ _ _ h hwf hkp hP hD hS (lv_sub hl [1, 2] rfl)
    have h := if_t c55 h
    refine lv_iconst (v := 0) hx hb d_Checks_allows_66 (by decide) ?_
    exact me_retz (me_kp M0) h (by decide) hx hb hr hlocks hwf hkp hP hK hD hS d_Checks_allows_67
  have b_32 : ∀ (M : me_M) (H : Heap) (locs : List Loc) (ls : Array Slot), f_Checks_allows_b32 j0 j1 M = (some (MZ, RZ)) → me_wf N M → me_kp M0 M → va_P D classes (me_W ad ca M) H → va_D A (me_W ad ca M) → va_S A s.heap H locs → lv_has ls 3 [(0, .ref (ad 6 j0)), (1, .ref (ad 16 j1))] → W p l e rm_Checks_allows s m [.ref (ad 6 j0), .ref (ad 16 j1)].toArray below meth c H locs 0 0 (MQ below (q_Checks_allows D ad ca N M0 MZ RZ A) [.ref (ad 6 j0), .ref (ad 16 j1)].toArray s rm_Checks_allows.cells rm_Checks_allows.slots A) (F0 m 32 ls []) := by
    intro M H locs ls h hwf hkp hP hD hS hl
    unfold f_Checks_allows_b32 at h
    have hkb := hkp
    refine lv_iconst (v := 0) hx hb d_Checks_allows_32 (by decide) ?_
    exact b_33 M (0 : Int32) _ _ _ h (by decide) hwf hkp hP hD hS (lv_sub hl [0, 1] rfl)
  refine lv_aload_n hx hb d_Checks_allows_0 rfl (lv_at hl 0 rfl) ?_
  refine g_Checks_0 hx hb hts hown hK hP hwf hj0 (hts _ u_610) d_Checks_allows_1 ?_
  obtain ⟨j56, e57, h⟩ := bd_ob h
  have hj56 : j56 < N 2 := (hwf.2.1 6 j0 0 _ e57 (by decide) hj0)
  refine me_opt (j := j56) e57 ?_
  refine g_Code_14 hx hb hts hown hK hP hwf hj56 (hts _ u_271) d_Checks_allows_4 ?_
  have z58 := (hwf.2.2.2 2 j56 14 rfl)
  refine lv_if_eq (tgt := 32) hx hb d_Checks_allows_7 (by decide) (fun c59 => ?_) (fun c59 => ?_)
  · have h := if_t c59 h
    exact b_32 M0 _ _ _ h hwf hkp hP hD hS (lv_sub hl [0, 1] rfl)
  have h := if_f c59 h
  refine lv_aload_n hx hb d_Checks_allows_10 rfl (lv_at hl 0 rfl) ?_
  refine g_Checks_3 hx hb hts hown hK hP hwf hj0 (hts _ u_613) d_Checks_allows_11 ?_
  obtain ⟨j60, e61, h⟩ := bd_ob h
  have hj60 : j60 < N 18 := (hwf.2.1 6 j0 3 _ e61 (by decide) hj0)
  refine me_opt (j := j60) e61 ?_
  refine lv_aload_n hx hb d_Checks_allows_14 rfl (lv_at hl 0 rfl) ?_
  refine g_Checks_0 hx hb hts hown hK hP hwf hj0 (hts _ u_610) d_Checks_allows_15 ?_
  refine me_opt (j := j56) e57 ?_
  refine g_Code_6 hx hb hts hown hK hP hwf hj56 (hts _ u_234) d_Checks_allows_18 ?_
  obtain ⟨g62, h⟩ := gd_ob h
  refine me_aald (k := 18) (t := 10) hx hb hK hP hwf hj60 (by decide) (by decide) rfl (fun _ => rfl) g62 d_Checks_allows_21 ?_
  obtain ⟨j63, e64, h⟩ := bd_ob h
  have hj63 : j63 < N 10 := (hwf.2.1 18 j60 ((mI M0 2 j56 6).toNatClampNeg) _ e64 (by decide) hj60)
  refine me_opt (j := j63) e64 ?_
  refine g_Cell_0 hx hb hts hown hK hP hwf hj63 (hts _ u_421) d_Checks_allows_22 ?_
  refine lv_if_ne (tgt := 32) hx hb d_Checks_allows_25 (by decide) (fun c65 => ?_) (fun c65 => ?_)
  · have h := if_f c65 h
    exact b_32 M0 _ _ _ h hwf hkp hP hD hS (lv_sub hl [0, 1] rfl)
  have h := if_t c65 h
  refine lv_iconst (v := 1) hx hb d_Checks_allows_28 (by decide) ?_
  refine lv_goto (tgt := 33) hx hb d_Checks_allows_29 (by decide) ?_
  exact b_33 M0 (1 : Int32) _ _ _ h (by decide) hwf hkp hP hD hS (lv_sub hl [0, 1] rfl)
