theorem d_M_misses_71 : decode prog_14_method_39_code 71 = .ok (.iload_n 1, 1) := by decide +kernel
theorem d_M_misses_72 : decode prog_14_method_39_code 72 = .ok (.ifCond .eq 32, 3) := by decide +kernel
theorem d_M_misses_104 : decode prog_14_method_39_code 104 = .ok (.iconst 1, 1) := by decide +kernel
theorem d_M_misses_105 : decode prog_14_method_39_code 105 = .ok (.ireturn, 1) := by decide +kernel
theorem d_M_misses_75 : decode prog_14_method_39_code 75 = .ok (.aload_n 0, 1) := by decide +kernel
theorem d_M_misses_76 : decode prog_14_method_39_code 76 = .ok (.getfield 107, 3) := by decide +kernel
theorem d_M_misses_79 : decode prog_14_method_39_code 79 = .ok (.sipush 30076, 3) := by decide +kernel
theorem d_M_misses_82 : decode prog_14_method_39_code 82 = .ok (.aload_n 0, 1) := by decide +kernel
theorem d_M_misses_83 : decode prog_14_method_39_code 83 = .ok (.getfield 107, 3) := by decide +kernel
theorem d_M_misses_86 : decode prog_14_method_39_code 86 = .ok (.sipush 30076, 3) := by decide +kernel
theorem d_M_misses_89 : decode prog_14_method_39_code 89 = .ok (.laload, 1) := by decide +kernel
theorem d_M_misses_90 : decode prog_14_method_39_code 90 = .ok (.aload_n 0, 1) := by decide +kernel
theorem d_M_misses_91 : decode prog_14_method_39_code 91 = .ok (.getfield 104, 3) := by decide +kernel
theorem d_M_misses_94 : decode prog_14_method_39_code 94 = .ok (.sipush 30075, 3) := by decide +kernel
theorem d_M_misses_97 : decode prog_14_method_39_code 97 = .ok (.laload, 1) := by decide +kernel
theorem d_M_misses_98 : decode prog_14_method_39_code 98 = .ok (.ldc2_w 162, 3) := by decide +kernel
theorem d_M_misses_101 : decode prog_14_method_39_code 101 = .ok (.lxor, 1) := by decide +kernel
theorem d_M_misses_102 : decode prog_14_method_39_code 102 = .ok (.land, 1) := by decide +kernel
theorem d_M_misses_103 : decode prog_14_method_39_code 103 = .ok (.lastore, 1) := by decide +kernel
theorem d_M_misses_0 : decode prog_14_method_39_code 0 = .ok (.aload_n 0, 1) := by decide +kernel
theorem d_M_misses_1 : decode prog_14_method_39_code 1 = .ok (.getfield 104, 3) := by decide +kernel
theorem d_M_misses_4 : decode prog_14_method_39_code 4 = .ok (.sipush 30075, 3) := by decide +kernel
theorem d_M_misses_7 : decode prog_14_method_39_code 7 = .ok (.laload, 1) := by decide +kernel
theorem d_M_misses_8 : decode prog_14_method_39_code 8 = .ok (.aload_n 0, 1) := by decide +kernel
theorem d_M_misses_9 : decode prog_14_method_39_code 9 = .ok (.getfield 104, 3) := by decide +kernel
theorem d_M_misses_12 : decode prog_14_method_39_code 12 = .ok (.sipush 30076, 3) := by decide +kernel
theorem d_M_misses_15 : decode prog_14_method_39_code 15 = .ok (.laload, 1) := by decide +kernel
theorem d_M_misses_16 : decode prog_14_method_39_code 16 = .ok (.land, 1) := by decide +kernel
theorem d_M_misses_17 : decode prog_14_method_39_code 17 = .ok (.lconst 0, 1) := by decide +kernel
theorem d_M_misses_18 : decode prog_14_method_39_code 18 = .ok (.lcmp, 1) := by decide +kernel
theorem d_M_misses_19 : decode prog_14_method_39_code 19 = .ok (.ifCond .eq 5, 3) := by decide +kernel
theorem d_M_misses_24 : decode prog_14_method_39_code 24 = .ok (.aload_n 0, 1) := by decide +kernel
theorem d_M_misses_25 : decode prog_14_method_39_code 25 = .ok (.sipush 30075, 3) := by decide +kernel
theorem d_M_misses_28 : decode prog_14_method_39_code 28 = .ok (.invokevirtual 192, 3) := by decide +kernel
theorem d_M_misses_31 : decode prog_14_method_39_code 31 = .ok (.istore_n 1, 1) := by decide +kernel
theorem d_M_misses_32 : decode prog_14_method_39_code 32 = .ok (.aload_n 0, 1) := by decide +kernel
theorem d_M_misses_33 : decode prog_14_method_39_code 33 = .ok (.sipush 30076, 3) := by decide +kernel
theorem d_M_misses_36 : decode prog_14_method_39_code 36 = .ok (.invokevirtual 192, 3) := by decide +kernel
theorem d_M_misses_39 : decode prog_14_method_39_code 39 = .ok (.ifCond .eq 32, 3) := by decide +kernel
theorem d_M_misses_42 : decode prog_14_method_39_code 42 = .ok (.aload_n 0, 1) := by decide +kernel
theorem d_M_misses_43 : decode prog_14_method_39_code 43 = .ok (.getfield 107, 3) := by decide +kernel
theorem d_M_misses_46 : decode prog_14_method_39_code 46 = .ok (.sipush 30075, 3) := by decide +kernel
theorem d_M_misses_49 : decode prog_14_method_39_code 49 = .ok (.aload_n 0, 1) := by decide +kernel
theorem d_M_misses_50 : decode prog_14_method_39_code 50 = .ok (.getfield 107, 3) := by decide +kernel
theorem d_M_misses_53 : decode prog_14_method_39_code 53 = .ok (.sipush 30075, 3) := by decide +kernel
theorem d_M_misses_56 : decode prog_14_method_39_code 56 = .ok (.laload, 1) := by decide +kernel
theorem d_M_misses_57 : decode prog_14_method_39_code 57 = .ok (.aload_n 0, 1) := by decide +kernel
theorem d_M_misses_58 : decode prog_14_method_39_code 58 = .ok (.getfield 104, 3) := by decide +kernel
theorem d_M_misses_61 : decode prog_14_method_39_code 61 = .ok (.sipush 30076, 3) := by decide +kernel
theorem d_M_misses_64 : decode prog_14_method_39_code 64 = .ok (.laload, 1) := by decide +kernel
theorem d_M_misses_65 : decode prog_14_method_39_code 65 = .ok (.ldc2_w 162, 3) := by decide +kernel
theorem d_M_misses_68 : decode prog_14_method_39_code 68 = .ok (.lxor, 1) := by decide +kernel
theorem d_M_misses_69 : decode prog_14_method_39_code 69 = .ok (.land, 1) := by decide +kernel
theorem d_M_misses_70 : decode prog_14_method_39_code 70 = .ok (.lastore, 1) := by decide +kernel
theorem d_M_misses_22 : decode prog_14_method_39_code 22 = .ok (.iconst 0, 1) := by decide +kernel
theorem d_M_misses_23 : decode prog_14_method_39_code 23 = .ok (.ireturn, 1) := by decide +kernel
abbrev y_M_misses : MethodName := ⟨"FilterGuardModel", "misses", "()Z"⟩
def f_M_misses_b71 (j0 : Nat) (M : me_M) (y1 : Int32) : Option (me_M × Int32) := (if y1 = 0 then some (M, (1 : Int32)) else bd (mR M 1 j0 53) (fun (j3 : Nat) => gd (30076 < mZ M 16 j3) (bd (mR M 1 j0 52) (fun (j6 : Nat) => gd (30075 < mZ M 16 j6) (st (wL M 16 j3 30076 ((mL M 16 j3 30076) &&& ((mL M 16 j6 30075) ^^^ (-1)))) (fun (M9 : me_M) => some (M9, (1 : Int32))))))))
def f_M_misses (M0 : me_M) (j0 : Nat) : Option (me_M × Int32) := bd (mR M0 1 j0 52) (fun (j11 : Nat) => gd (30075 < mZ M0 16 j11) (gd (30076 < mZ M0 16 j11) ((if ((mL M0 16 j11 30075) &&& (mL M0 16 j11 30076)) = 0 then b2 (f_M_isExact M0 j0 (30075 : Int32)) (fun (M16 : me_M) (r17 : Int32) => b2 (f_M_isExact M16 j0 (30076 : Int32)) (fun (M18 : me_M) (r19 : Int32) => (if r19 = 0 then f_M_misses_b71 j0 M18 r17 else bd (mR M0 1 j0 53) (fun (j21 : Nat) => gd (30075 < mZ M0 16 j21) (st (wL M18 16 j21 30075 ((mL M18 16 j21 30075) &&& ((mL M18 16 j11 30076) ^^^ (-1)))) (fun (M24 : me_M) => f_M_misses_b71 j0 M24 r17)))))) else some (M0, (0 : Int32))))))
def rm_M_misses : Room := { frames := 2, cells := 0, slots := 0, locals := 41 }
abbrev q_M_misses (D : va_G) (ad : Nat → Nat → Nat) (ca : Nat → ClassId) (N : Nat → Nat) (M0 MZ : me_M) (RZ : Int32) (A : Nat → Prop) : Array Value → Jvm.State → Outcome → Jvm.State → Prop := va_Qi (fun r (_ : Unit) => r = RZ ∧ me_wf N MZ ∧ me_kp M0 MZ ∧ (RZ = 1 ∨ RZ = 0)) (fg_B D A (fun _ => me_W ad ca MZ) (fun _ => [])) A
set_option maxHeartbeats 4000000 in
set_option maxRecDepth 100000 in
theorem c_M_misses (l : Launch) (D : va_G) (ad : Nat → Nat → Nat) (ca : Nat → ClassId) (N : Nat → Nat) (M0 MZ : me_M) (RZ : Int32) (j0 : Nat) (h : f_M_misses M0 j0 = (some (MZ, RZ))) (hwf : me_wf N M0) (hj0 : j0 < N 1) (sz : Nat) : Met l y_M_misses (fg_w y_M_misses prog_14_method_39_code 2 (some .boolean)) rm_M_misses (va_Pc [.ref (ad 1 j0)] (fz_P D (me_T ca) (me_W ad ca M0) sz)) (q_M_misses D ad ca N M0 MZ RZ (va_A (me_W ad ca M0) sz)) rm_M_misses.cells rm_M_misses.slots (va_A (me_W ad ca M0) sz) := by
  refine fz_enter (fun A => q_M_misses D ad ca N M0 MZ RZ A) (by decide +kernel) (Nat.le_of_ble_eq_true rfl) ?_
  intro p e s m below meth c ls A hx hb hml hown hts hr hlocks hin hP hK hD hS hA hX hl hz
  have hl : lv_has ls 2 [(0, .ref (ad 1 j0))] := hl
  unfold f_M_misses at h
  have hkp : me_kp M0 M0 := me_kp.rf
  have hkb := hkp
  have b_71 : ∀ (M : me_M) (y1 : Int32) (H : Heap) (locs : List Loc) (ls : Array Slot), f_M_misses_b71 j0 M y1 = (some (MZ, RZ)) → (y1 = 1 ∨ y1 = 0) → me_wf N M → me_kp M0 M → va_P D classes (me_W ad ca M) H → va_D A (me_W ad ca M) → va_S A s.heap H locs → lv_has ls 2 [(0, .ref (ad 1 j0)), (1, .int y1)] → W p l e rm_M_misses s m [.ref (ad 1 j0)].toArray below meth c H locs 0 0 (MQ below (q_M_misses D ad ca N M0 MZ RZ A) [.ref (ad 1 j0)].toArray s rm_M_misses.cells rm_M_misses.slots A) (F0 m 71 ls []) := by
    intro M y1 H locs ls h zy1 hwf hkp hP hD hS hl
    unfold f_M_misses_b71 at h
    have hkb := hkp
    refine lv_iload_n hx hb d_M_misses_71 rfl (lv_at hl 1 rfl) ?_
    refine lv_if_eq (tgt := 104) hx hb d_M_misses_72 (by decide) (fun c1 => ?_) (fun c1 => ?_)
    · have h := if_t c1 h
      refine lv_iconst (v := 1) hx hb d_M_misses_104 (by decide) ?_
      have z2 : (1 : Int32) = 1 ∨ (1 : Int32) = 0 := (by decide)
      cases h
      exact fg_retz () hx hb hr hlocks (me_nz z2) ⟨rfl, ⟨hwf, hkp, z2⟩⟩ hP (hK.sub (tys' := []) [] rfl) hD hS (Nat.le_of_ble_eq_true rfl) (Nat.le_of_ble_eq_true rfl) d_M_misses_105
    have h := if_f c1 h
    refine lv_aload_n hx hb d_M_misses_75 rfl (lv_at hl 0 rfl) ?_
    refine g_M_53 hx hb hts hown hK hP hwf hj0 (hts _ u_1794) d_M_misses_76 ?_
    obtain ⟨j3, e4, h⟩ := bd_ob h
    have hj3 : j3 < N 16 := (hwf.2.1 1 j0 53 _ e4 (by decide) hj0)
    refine me_opt (j := j3) e4 ?_
    refine lv_sipush (v := 30076) hx hb d_M_misses_79 (by decide) ?_
    refine lv_aload_n hx hb d_M_misses_82 rfl (lv_at hl 0 rfl) ?_
    refine g_M_53 hx hb hts hown hK hP hwf hj0 (hts _ u_1794) d_M_misses_83 ?_
    refine me_opt (j := j3) e4 ?_
    refine lv_sipush (v := 30076) hx hb d_M_misses_86 (by decide) ?_
    obtain ⟨g5, h⟩ := gd_ob h
    refine me_lald hx hb hK hP hwf hj3 (me_in (i := (30076 : Int32)) (k := 30076) (by decide) (by decide) g5) d_M_misses_89 ?_
    refine fg_topl (y := mL M 16 j3 30076) (congrArg _ (by decide)) ?_
    refine lv_aload_n hx hb d_M_misses_90 rfl (lv_at hl 0 rfl) ?_
    refine g_M_52 hx hb hts hown hK hP hwf hj0 (hts _ u_1793) d_M_misses_91 ?_
    obtain ⟨j6, e7, h⟩ := bd_ob h
    have hj6 : j6 < N 16 := (hwf.2.1 1 j0 52 _ e7 (by decide) hj0)
    refine me_opt (j := j6) e7 ?_
    refine lv_sipush (v := 30075) hx hb d_M_misses_94 (by decide) ?_
    obtain ⟨g8, h⟩ := gd_ob h
    refine me_lald hx hb hK hP hwf hj6 (me_in (i := (30075 : Int32)) (k := 30075) (by decide) (by decide) g8) d_M_misses_97 ?_
    refine fg_topl (y := mL M 16 j6 30075) (congrArg _ (by decide)) ?_
    refine lv_ldc2 hx hb hown (hts _ u_2071) d_M_misses_98 ?_
    refine lv_lxor hx hb d_M_misses_101 ?_
    refine lv_land hx hb d_M_misses_102 ?_
    obtain ⟨M9, eM9, h⟩ := st_ob h
    refine me_last (eM9.trans (by rw [show (30076 : Int32).toNatClampNeg = 30076 by decide])) hx hb hK hP hD hwf hS hj3 (me_in (i := (30076 : Int32)) (k := 30076) (by decide) (by decide) g5) d_M_misses_103 (fun H locs hP hD hwf hS => ?_)
    have hkp := kp_L eM9 hkp
    refine lv_iconst (v := 1) hx hb d_M_misses_104 (by decide) ?_
    have z10 : (1 : Int32) = 1 ∨ (1 : Int32) = 0 := (by decide)
    cases h
    exact fg_retz () hx hb hr hlocks (me_nz z10) ⟨rfl, ⟨hwf, hkp, z10⟩⟩ hP (hK.sub (tys' := []) [] rfl) hD hS (Nat.le_of_ble_eq_true rfl) (Nat.le_of_ble_eq_true rfl) d_M_misses_105
  refine lv_aload_n hx hb d_M_misses_0 rfl (lv_at hl 0 rfl) ?_
  refine g_M_52 hx hb hts hown hK hP hwf hj0 (hts _ u_1793) d_M_misses_1 ?_
  obtain ⟨j11, e12, h⟩ := bd_ob h
  have hj11 : j11 < N 16 := (hwf.2.1 1 j0 52 _ e12 (by decide) hj0)
  refine me_opt (j := j11) e12 ?_
  refine lv_sipush (v := 30075) hx hb d_M_misses_4 (by decide) ?_
  obtain ⟨g13, h⟩ := gd_ob h
  refine me_lald hx hb hK hP hwf hj11 (me_in (i := (30075 : Int32)) (k := 30075) (by decide) (by decide) g13) d_M_misses_7 ?_
  refine fg_topl (y := mL M0 16 j11 30075) (congrArg _ (by decide)) ?_
  refine lv_aload_n hx hb d_M_misses_8 rfl (lv_at hl 0 rfl) ?_
  refine g_M_52 hx hb hts hown hK hP hwf hj0 (hts _ u_1793) d_M_misses_9 ?_
  refine me_opt (j := j11) e12 ?_
  refine lv_sipush (v := 30076) hx hb d_M_misses_12 (by decide) ?_
  obtain ⟨g14, h⟩ := gd_ob h
  refine me_lald hx hb hK hP hwf hj11 (me_in (i := (30076 : Int32)) (k := 30076) (by decide) (by decide) g14) d_M_misses_15 ?_
  refine fg_topl (y := mL M0 16 j11 30076) (congrArg _ (by decide)) ?_
  refine lv_land hx hb d_M_misses_16 ?_
  refine lv_lconst (v := 0) hx hb d_M_misses_17 (by decide) ?_
  refine W.lcmp hx hb d_M_misses_18 ?_
  refine lv_if_eq (tgt := 24) hx hb d_M_misses_19 (by decide) (fun c15 => ?_) (fun c15 => ?_)
  · have h := if_t ((lg_cmp_eq _ _).mp c15) h
    refine lv_aload_n hx hb d_M_misses_24 rfl (lv_at hl 0 rfl) ?_
    refine lv_sipush (v := 30075) hx hb d_M_misses_25 (by decide) ?_
    obtain ⟨M16, r17, eM16, h⟩ := b2_ob h
    refine me_theni0 (M1 := M16) (me_runV (C := "FilterGuardModel") (As := [.int 30075]) (rest := []) ⟨hx, hb, hml, hown, hts⟩ (c_M_isExact l D ad ca N M0 M16 r17 j0 (30075 : Int32) eM16 hwf hj0 _) rfl (by show fg_nm y_M_isExact 1; decide +kernel) u_2251 u_2253 u_136 u_192 u_2254 ⟨Nat.le_of_ble_eq_true rfl, Nat.le_of_ble_eq_true rfl⟩ hX hz hK hP hD hwf hS hA hj0 (by decide) rfl rfl rfl hl.1 (Nat.le_of_ble_eq_true rfl) d_M_misses_28 ⟨Nat.le_of_ble_eq_true rfl, Nat.le_of_ble_eq_true rfl⟩) hP hD hK hS hA rfl rfl (fun H locs hw hP hD hS => ?_)
    obtain ⟨hwf, hk9, zr17⟩ := hw
    have hkp := hkp.tr hk9
    refine lv_istore_n (lv' := [(1, .int r17), (0, .ref (ad 1 j0))]) hx hb d_M_misses_31 rfl hl (by decide) rfl (fun ls hl => ?_)
    refine lv_aload_n hx hb d_M_misses_32 rfl (lv_at hl 1 rfl) ?_
    refine lv_sipush (v := 30076) hx hb d_M_misses_33 (by decide) ?_
    obtain ⟨M18, r19, eM18, h⟩ := b2_ob h
    refine me_theni0 (M1 := M18) (me_runV (C := "FilterGuardModel") (As := [.int 30076]) (rest := []) ⟨hx, hb, hml, hown, hts⟩ (c_M_isExact l D ad ca N M16 M18 r19 j0 (30076 : Int32) eM18 hwf hj0 _) rfl (by show fg_nm y_M_isExact 1; decide +kernel) u_2251 u_2253 u_136 u_192 u_2254 ⟨Nat.le_of_ble_eq_true rfl, Nat.le_of_ble_eq_true rfl⟩ hX hz hK hP hD hwf hS hA hj0 (by decide) rfl rfl rfl hl.1 (Nat.le_of_ble_eq_true rfl) d_M_misses_36 ⟨Nat.le_of_ble_eq_true rfl, Nat.le_of_ble_eq_true rfl⟩) hP hD hK hS hA rfl rfl (fun H locs hw hP hD hS => ?_)
    obtain ⟨hwf, hk9, zr19⟩ := hw
    have hkp := hkp.tr hk9
    refine lv_if_eq (tgt := 71) hx hb d_M_misses_39 (by decide) (fun c20 => ?_) (fun c20 => ?_)
    · have h := if_t c20 h
      exact b_71 M18 r17 _ _ _ h zr17 hwf hkp hP hD hS (lv_sub hl [1, 0] rfl)
    have h := if_f c20 h
    refine lv_aload_n hx hb d_M_misses_42 rfl (lv_at hl 1 rfl) ?_
    refine g_M_53 hx hb hts hown hK hP hwf hj0 (hts _ u_1794) d_M_misses_43 ?_
    obtain ⟨j21, e22, h⟩ := bd_ob h
    have hj21 : j21 < N 16 := (hwf.2.1 1 j0 53 _ (kp_r hkb hkp e22) (by decide) hj0)
    refine me_opt (j := j21) (kp_r hkb hkp e22) ?_
    refine lv_sipush (v := 30075) hx hb d_M_misses_46 (by decide) ?_
    refine lv_aload_n hx hb d_M_misses_49 rfl (lv_at hl 1 rfl) ?_
    refine g_M_53 hx hb hts hown hK hP hwf hj0 (hts _ u_1794) d_M_misses_50 ?_
    refine me_opt (j := j21) (kp_r hkb hkp e22) ?_
    refine lv_sipush (v := 30075) hx hb d_M_misses_53 (by decide) ?_
    obtain ⟨g23, h⟩ := gd_ob h
    refine me_lald hx hb hK hP hwf hj21 (me_in (i := (30075 : Int32)) (k := 30075) (by decide) (by decide) (kp_c hkb.z hkp.z g23)) d_M_misses_56 ?_
    refine fg_topl (y := mL M18 16 j21 30075) (congrArg _ (by decide)) ?_
    refine lv_aload_n hx hb d_M_misses_57 rfl (lv_at hl 1 rfl) ?_
    refine g_M_52 hx hb hts hown hK hP hwf hj0 (hts _ u_1793) d_M_misses_58 ?_
    refine me_opt (j := j11) (kp_r hkb hkp e12) ?_
    refine lv_sipush (v := 30076) hx hb d_M_misses_61 (by decide) ?_
    refine me_lald hx hb hK hP hwf hj11 (me_in (i := (30076 : Int32)) (k := 30076) (by decide) (by decide) (kp_c hkb.z hkp.z g14)) d_M_misses_64 ?_
    refine fg_topl (y := mL M18 16 j11 30076) (congrArg _ (by decide)) ?_
    refine lv_ldc2 hx hb hown (hts _ u_2071) d_M_misses_65 ?_
    refine lv_lxor hx hb d_M_misses_68 ?_
    refine lv_land hx hb d_M_misses_69 ?_
    obtain ⟨M24, eM24, h⟩ := st_ob h
    refine me_last (eM24.trans (by rw [show (30075 : Int32).toNatClampNeg = 30075 by decide])) hx hb hK hP hD hwf hS hj21 (me_in (i := (30075 : Int32)) (k := 30075) (by decide) (by decide) (kp_c hkb.z hkp.z g23)) d_M_misses_70 (fun H locs hP hD hwf hS => ?_)
    have hkp := kp_L eM24 hkp
    exact b_71 M24 r17 _ _ _ h zr17 hwf hkp hP hD hS (lv_sub hl [1, 0] rfl)
  have h := if_f (fun z => c15 ((lg_cmp_eq _ _).mpr z)) h
  refine lv_iconst (v := 0) hx hb d_M_misses_22 (by decide) ?_
  have z25 : (0 : Int32) = 1 ∨ (0 : Int32) = 0 := (by decide)
  cases h
  exact fg_retz () hx hb hr hlocks (me_nz z25) ⟨rfl, ⟨hwf, hkp, z25⟩⟩ hP (hK.sub (tys' := []) [] rfl) hD hS (Nat.le_of_ble_eq_true rfl) (Nat.le_of_ble_eq_true rfl) d_M_misses_23
theorem d_M_tells_191 : decode prog_14_method_40_code 191 = .ok (.iload_n 2, 1) := by decide +kernel
theorem d_M_tells_192 : decode prog_14_method_40_code 192 = .ok (.ifCond .eq 27, 3) := by decide +kernel
theorem d_M_tells_219 : decode prog_14_method_40_code 219 = .ok (.iconst 0, 1) := by decide +kernel
theorem d_M_tells_220 : decode prog_14_method_40_code 220 = .ok (.ireturn, 1) := by decide +kernel
theorem d_M_tells_195 : decode prog_14_method_40_code 195 = .ok (.aload_n 0, 1) := by decide +kernel
theorem d_M_tells_196 : decode prog_14_method_40_code 196 = .ok (.sipush 30075, 3) := by decide +kernel
theorem d_M_tells_199 : decode prog_14_method_40_code 199 = .ok (.invokevirtual 264, 3) := by decide +kernel
theorem d_M_tells_202 : decode prog_14_method_40_code 202 = .ok (.ifCond .eq 17, 3) := by decide +kernel
theorem d_M_tells_205 : decode prog_14_method_40_code 205 = .ok (.aload_n 0, 1) := by decide +kernel
theorem d_M_tells_206 : decode prog_14_method_40_code 206 = .ok (.sipush 30076, 3) := by decide +kernel
theorem d_M_tells_209 : decode prog_14_method_40_code 209 = .ok (.invokevirtual 264, 3) := by decide +kernel
theorem d_M_tells_212 : decode prog_14_method_40_code 212 = .ok (.ifCond .eq 7, 3) := by decide +kernel
theorem d_M_tells_215 : decode prog_14_method_40_code 215 = .ok (.iconst 1, 1) := by decide +kernel
theorem d_M_tells_216 : decode prog_14_method_40_code 216 = .ok (.goto 4, 3) := by decide +kernel
theorem d_M_tells_178 : decode prog_14_method_40_code 178 = .ok (.iconst 1, 1) := by decide +kernel
theorem d_M_tells_179 : decode prog_14_method_40_code 179 = .ok (.invokevirtual 278, 3) := by decide +kernel
theorem u_2243 : Cond.methodLink "FilterGuardModel" 278 ⟨"FilterGuardModel", "orders", "(IIZZ)Z"⟩ ∈ fg_g := fg_in (List.mem_of_getElem? (i := 2243) (by decide +kernel)) rfl
theorem u_2246 : Cond.code ⟨"FilterGuardModel", "orders", "(IIZZ)Z"⟩ prog_14_method_33_code 11 (some .boolean) ∈ fg_g := fg_in (List.mem_of_getElem? (i := 2246) (by decide +kernel)) rfl
theorem u_2245 : Cond.instanceMethod ⟨"FilterGuardModel", "orders", "(IIZZ)Z"⟩ ∈ fg_g := fg_in (List.mem_of_getElem? (i := 2245) (by decide +kernel)) rfl
theorem u_134 : Cond.selects "FilterGuardModel" ⟨"FilterGuardModel", "orders", "(IIZZ)Z"⟩ ⟨"FilterGuardModel", "orders", "(IIZZ)Z"⟩ ∈ fg_g := fg_in (List.mem_of_getElem? (i := 134) (by decide +kernel)) rfl
theorem d_M_tells_182 : decode prog_14_method_40_code 182 = .ok (.istore_n 2, 1) := by decide +kernel
theorem d_M_tells_183 : decode prog_14_method_40_code 183 = .ok (.goto 8, 3) := by decide +kernel
theorem d_M_tells_152 : decode prog_14_method_40_code 152 = .ok (.iconst 0, 1) := by decide +kernel
theorem d_M_tells_153 : decode prog_14_method_40_code 153 = .ok (.invokevirtual 278, 3) := by decide +kernel
theorem d_M_tells_156 : decode prog_14_method_40_code 156 = .ok (.istore_n 2, 1) := by decide +kernel
theorem d_M_tells_157 : decode prog_14_method_40_code 157 = .ok (.goto 34, 3) := by decide +kernel
theorem d_M_tells_126 : decode prog_14_method_40_code 126 = .ok (.iconst 1, 1) := by decide +kernel
theorem d_M_tells_127 : decode prog_14_method_40_code 127 = .ok (.invokevirtual 278, 3) := by decide +kernel
theorem d_M_tells_130 : decode prog_14_method_40_code 130 = .ok (.istore_n 2, 1) := by decide +kernel
theorem d_M_tells_131 : decode prog_14_method_40_code 131 = .ok (.goto 60, 3) := by decide +kernel
theorem d_M_tells_85 : decode prog_14_method_40_code 85 = .ok (.iconst 0, 1) := by decide +kernel
theorem d_M_tells_86 : decode prog_14_method_40_code 86 = .ok (.invokevirtual 278, 3) := by decide +kernel
theorem d_M_tells_89 : decode prog_14_method_40_code 89 = .ok (.istore_n 2, 1) := by decide +kernel
theorem d_M_tells_90 : decode prog_14_method_40_code 90 = .ok (.goto 101, 3) := by decide +kernel
theorem d_M_tells_0 : decode prog_14_method_40_code 0 = .ok (.iconst 1, 1) := by decide +kernel
theorem d_M_tells_1 : decode prog_14_method_40_code 1 = .ok (.istore_n 2, 1) := by decide +kernel
theorem d_M_tells_2 : decode prog_14_method_40_code 2 = .ok (.iload_n 1, 1) := by decide +kernel
theorem d_M_tells_3 : decode prog_14_method_40_code 3 = .ok (.tableswitch 183 0 10 #[57, 65, 65, 90, 98, 106, 106, 131, 131, 157, 157], 57) := by decide +kernel
theorem d_M_tells_60 : decode prog_14_method_40_code 60 = .ok (.aload_n 0, 1) := by decide +kernel
theorem d_M_tells_61 : decode prog_14_method_40_code 61 = .ok (.invokevirtual 274, 3) := by decide +kernel
theorem u_2239 : Cond.methodLink "FilterGuardModel" 274 ⟨"FilterGuardModel", "same", "()Z"⟩ ∈ fg_g := fg_in (List.mem_of_getElem? (i := 2239) (by decide +kernel)) rfl
theorem u_2242 : Cond.code ⟨"FilterGuardModel", "same", "()Z"⟩ prog_14_method_34_code 1 (some .boolean) ∈ fg_g := fg_in (List.mem_of_getElem? (i := 2242) (by decide +kernel)) rfl
theorem u_2241 : Cond.instanceMethod ⟨"FilterGuardModel", "same", "()Z"⟩ ∈ fg_g := fg_in (List.mem_of_getElem? (i := 2241) (by decide +kernel)) rfl
theorem u_133 : Cond.selects "FilterGuardModel" ⟨"FilterGuardModel", "same", "()Z"⟩ ⟨"FilterGuardModel", "same", "()Z"⟩ ∈ fg_g := fg_in (List.mem_of_getElem? (i := 133) (by decide +kernel)) rfl
theorem d_M_tells_64 : decode prog_14_method_40_code 64 = .ok (.istore_n 2, 1) := by decide +kernel
theorem d_M_tells_65 : decode prog_14_method_40_code 65 = .ok (.goto 126, 3) := by decide +kernel
theorem d_M_tells_68 : decode prog_14_method_40_code 68 = .ok (.aload_n 0, 1) := by decide +kernel
theorem d_M_tells_69 : decode prog_14_method_40_code 69 = .ok (.sipush 30075, 3) := by decide +kernel
theorem d_M_tells_72 : decode prog_14_method_40_code 72 = .ok (.sipush 30076, 3) := by decide +kernel
theorem d_M_tells_75 : decode prog_14_method_40_code 75 = .ok (.iload_n 1, 1) := by decide +kernel
theorem d_M_tells_76 : decode prog_14_method_40_code 76 = .ok (.iconst 1, 1) := by decide +kernel
theorem d_M_tells_77 : decode prog_14_method_40_code 77 = .ok (.if_icmp .ne 7, 3) := by decide +kernel
theorem d_M_tells_84 : decode prog_14_method_40_code 84 = .ok (.iconst 0, 1) := by decide +kernel
theorem d_M_tells_80 : decode prog_14_method_40_code 80 = .ok (.iconst 1, 1) := by decide +kernel
theorem d_M_tells_81 : decode prog_14_method_40_code 81 = .ok (.goto 4, 3) := by decide +kernel
theorem d_M_tells_93 : decode prog_14_method_40_code 93 = .ok (.aload_n 0, 1) := by decide +kernel
theorem d_M_tells_94 : decode prog_14_method_40_code 94 = .ok (.invokevirtual 282, 3) := by decide +kernel
theorem u_2247 : Cond.methodLink "FilterGuardModel" 282 ⟨"FilterGuardModel", "meets", "()Z"⟩ ∈ fg_g := fg_in (List.mem_of_getElem? (i := 2247) (by decide +kernel)) rfl
theorem u_2250 : Cond.code ⟨"FilterGuardModel", "meets", "()Z"⟩ prog_14_method_38_code 4 (some .boolean) ∈ fg_g := fg_in (List.mem_of_getElem? (i := 2250) (by decide +kernel)) rfl
theorem u_2249 : Cond.instanceMethod ⟨"FilterGuardModel", "meets", "()Z"⟩ ∈ fg_g := fg_in (List.mem_of_getElem? (i := 2249) (by decide +kernel)) rfl
theorem u_135 : Cond.selects "FilterGuardModel" ⟨"FilterGuardModel", "meets", "()Z"⟩ ⟨"FilterGuardModel", "meets", "()Z"⟩ ∈ fg_g := fg_in (List.mem_of_getElem? (i := 135) (by decide +kernel)) rfl
theorem d_M_tells_97 : decode prog_14_method_40_code 97 = .ok (.istore_n 2, 1) := by decide +kernel
theorem d_M_tells_98 : decode prog_14_method_40_code 98 = .ok (.goto 93, 3) := by decide +kernel
theorem d_M_tells_101 : decode prog_14_method_40_code 101 = .ok (.aload_n 0, 1) := by decide +kernel
theorem d_M_tells_102 : decode prog_14_method_40_code 102 = .ok (.invokevirtual 285, 3) := by decide +kernel
theorem u_2258 : Cond.methodLink "FilterGuardModel" 285 ⟨"FilterGuardModel", "notSame", "()Z"⟩ ∈ fg_g := fg_in (List.mem_of_getElem? (i := 2258) (by decide +kernel)) rfl
theorem u_2261 : Cond.code ⟨"FilterGuardModel", "notSame", "()Z"⟩ prog_14_method_36_code 5 (some .boolean) ∈ fg_g := fg_in (List.mem_of_getElem? (i := 2261) (by decide +kernel)) rfl
theorem u_2260 : Cond.instanceMethod ⟨"FilterGuardModel", "notSame", "()Z"⟩ ∈ fg_g := fg_in (List.mem_of_getElem? (i := 2260) (by decide +kernel)) rfl
theorem u_137 : Cond.selects "FilterGuardModel" ⟨"FilterGuardModel", "notSame", "()Z"⟩ ⟨"FilterGuardModel", "notSame", "()Z"⟩ ∈ fg_g := fg_in (List.mem_of_getElem? (i := 137) (by decide +kernel)) rfl
theorem d_M_tells_105 : decode prog_14_method_40_code 105 = .ok (.istore_n 2, 1) := by decide +kernel
theorem d_M_tells_106 : decode prog_14_method_40_code 106 = .ok (.goto 85, 3) := by decide +kernel
theorem d_M_tells_109 : decode prog_14_method_40_code 109 = .ok (.aload_n 0, 1) := by decide +kernel
theorem d_M_tells_110 : decode prog_14_method_40_code 110 = .ok (.sipush 30075, 3) := by decide +kernel
theorem d_M_tells_113 : decode prog_14_method_40_code 113 = .ok (.sipush 30076, 3) := by decide +kernel
theorem d_M_tells_116 : decode prog_14_method_40_code 116 = .ok (.iload_n 1, 1) := by decide +kernel
theorem d_M_tells_117 : decode prog_14_method_40_code 117 = .ok (.iconst 5, 1) := by decide +kernel
theorem d_M_tells_118 : decode prog_14_method_40_code 118 = .ok (.if_icmp .ne 7, 3) := by decide +kernel
theorem d_M_tells_125 : decode prog_14_method_40_code 125 = .ok (.iconst 0, 1) := by decide +kernel
theorem d_M_tells_121 : decode prog_14_method_40_code 121 = .ok (.iconst 1, 1) := by decide +kernel
theorem d_M_tells_122 : decode prog_14_method_40_code 122 = .ok (.goto 4, 3) := by decide +kernel
theorem d_M_tells_134 : decode prog_14_method_40_code 134 = .ok (.aload_n 0, 1) := by decide +kernel
theorem d_M_tells_135 : decode prog_14_method_40_code 135 = .ok (.sipush 30076, 3) := by decide +kernel
theorem d_M_tells_138 : decode prog_14_method_40_code 138 = .ok (.sipush 30075, 3) := by decide +kernel
theorem d_M_tells_141 : decode prog_14_method_40_code 141 = .ok (.iload_n 1, 1) := by decide +kernel
theorem d_M_tells_142 : decode prog_14_method_40_code 142 = .ok (.bipush 7, 2) := by decide +kernel
theorem d_M_tells_144 : decode prog_14_method_40_code 144 = .ok (.if_icmp .ne 7, 3) := by decide +kernel
theorem d_M_tells_151 : decode prog_14_method_40_code 151 = .ok (.iconst 0, 1) := by decide +kernel
theorem d_M_tells_147 : decode prog_14_method_40_code 147 = .ok (.iconst 1, 1) := by decide +kernel
theorem d_M_tells_148 : decode prog_14_method_40_code 148 = .ok (.goto 4, 3) := by decide +kernel
theorem d_M_tells_160 : decode prog_14_method_40_code 160 = .ok (.aload_n 0, 1) := by decide +kernel
theorem d_M_tells_161 : decode prog_14_method_40_code 161 = .ok (.sipush 30076, 3) := by decide +kernel
theorem d_M_tells_164 : decode prog_14_method_40_code 164 = .ok (.sipush 30075, 3) := by decide +kernel
theorem d_M_tells_167 : decode prog_14_method_40_code 167 = .ok (.iload_n 1, 1) := by decide +kernel
theorem d_M_tells_168 : decode prog_14_method_40_code 168 = .ok (.bipush 9, 2) := by decide +kernel
theorem d_M_tells_170 : decode prog_14_method_40_code 170 = .ok (.if_icmp .ne 7, 3) := by decide +kernel
theorem d_M_tells_177 : decode prog_14_method_40_code 177 = .ok (.iconst 0, 1) := by decide +kernel
theorem d_M_tells_173 : decode prog_14_method_40_code 173 = .ok (.iconst 1, 1) := by decide +kernel
theorem d_M_tells_174 : decode prog_14_method_40_code 174 = .ok (.goto 4, 3) := by decide +kernel
theorem d_M_tells_186 : decode prog_14_method_40_code 186 = .ok (.aload_n 0, 1) := by decide +kernel
theorem d_M_tells_187 : decode prog_14_method_40_code 187 = .ok (.invokevirtual 288, 3) := by decide +kernel
theorem u_2266 : Cond.methodLink "FilterGuardModel" 288 ⟨"FilterGuardModel", "misses", "()Z"⟩ ∈ fg_g := fg_in (List.mem_of_getElem? (i := 2266) (by decide +kernel)) rfl
theorem u_2269 : Cond.code ⟨"FilterGuardModel", "misses", "()Z"⟩ prog_14_method_39_code 2 (some .boolean) ∈ fg_g := fg_in (List.mem_of_getElem? (i := 2269) (by decide +kernel)) rfl
theorem u_2268 : Cond.instanceMethod ⟨"FilterGuardModel", "misses", "()Z"⟩ ∈ fg_g := fg_in (List.mem_of_getElem? (i := 2268) (by decide +kernel)) rfl
theorem u_139 : Cond.selects "FilterGuardModel" ⟨"FilterGuardModel", "misses", "()Z"⟩ ⟨"FilterGuardModel", "misses", "()Z"⟩ ∈ fg_g := fg_in (List.mem_of_getElem? (i := 139) (by decide +kernel)) rfl
theorem d_M_tells_190 : decode prog_14_method_40_code 190 = .ok (.istore_n 2, 1) := by decide +kernel
abbrev y_M_tells : MethodName := ⟨"FilterGuardModel", "tells", "(I)Z"⟩
def f_M_tells_b191 (j0 : Nat) (M : me_M) (y2 : Int32) : Option (me_M × Int32) := (if y2 = 0 then some (M, (0 : Int32)) else b2 (f_M_settle M j0 (30075 : Int32)) (fun (M3 : me_M) (r4 : Int32) => (if r4 = 0 then some (M3, (0 : Int32)) else b2 (f_M_settle M3 j0 (30076 : Int32)) (fun (M7 : me_M) (r8 : Int32) => (if r8 = 0 then some (M7, (0 : Int32)) else some (M7, (1 : Int32)))))))
def f_M_tells_b178 (j0 : Nat) (M : me_M) (s0 : Int32) (s1 : Int32) (s2 : Int32) (s3 : Nat) : Option (me_M × Int32) := b2 (f_M_orders M s3 s2 s1 s0 (1 : Int32)) (fun (M12 : me_M) (r13 : Int32) => f_M_tells_b191 j0 M12 r13)
def f_M_tells_b152 (j0 : Nat) (M : me_M) (s0 : Int32) (s1 : Int32) (s2 : Int32) (s3 : Nat) : Option (me_M × Int32) := b2 (f_M_orders M s3 s2 s1 s0 (0 : Int32)) (fun (M14 : me_M) (r15 : Int32) => f_M_tells_b191 j0 M14 r15)
def f_M_tells_b126 (j0 : Nat) (M : me_M) (s0 : Int32) (s1 : Int32) (s2 : Int32) (s3 : Nat) : Option (me_M × Int32) := b2 (f_M_orders M s3 s2 s1 s0 (1 : Int32)) (fun (M16 : me_M) (r17 : Int32) => f_M_tells_b191 j0 M16 r17)
def f_M_tells_b85 (j0 : Nat) (M : me_M) (s0 : Int32) (s1 : Int32) (s2 : Int32) (s3 : Nat) : Option (me_M × Int32) := b2 (f_M_orders M s3 s2 s1 s0 (0 : Int32)) (fun (M18 : me_M) (r19 : Int32) => f_M_tells_b191 j0 M18 r19)
def f_M_tells (M0 : me_M) (j0 : Nat) (x1 : Int32) : Option (me_M × Int32) := (if x1 = 0 then b2 (f_M_same M0 j0) (fun (M22 : me_M) (r23 : Int32) => f_M_tells_b191 j0 M22 r23) else (if x1 = 1 then (if x1 = 1 then f_M_tells_b85 j0 M0 (1 : Int32) (30076 : Int32) (30075 : Int32) j0 else f_M_tells_b85 j0 M0 (0 : Int32) (30076 : Int32) (30075 : Int32) j0) else (if x1 = 2 then (if x1 = 1 then f_M_tells_b85 j0 M0 (1 : Int32) (30076 : Int32) (30075 : Int32) j0 else f_M_tells_b85 j0 M0 (0 : Int32) (30076 : Int32) (30075 : Int32) j0) else (if x1 = 3 then b2 (f_M_meets M0 j0) (fun (M29 : me_M) (r30 : Int32) => f_M_tells_b191 j0 M29 r30) else (if x1 = 4 then b2 (f_M_notSame M0 j0) (fun (M32 : me_M) (r33 : Int32) => f_M_tells_b191 j0 M32 r33) else (if x1 = 5 then (if x1 = 5 then f_M_tells_b126 j0 M0 (1 : Int32) (30076 : Int32) (30075 : Int32) j0 else f_M_tells_b126 j0 M0 (0 : Int32) (30076 : Int32) (30075 : Int32) j0) else (if x1 = 6 then (if x1 = 5 then f_M_tells_b126 j0 M0 (1 : Int32) (30076 : Int32) (30075 : Int32) j0 else f_M_tells_b126 j0 M0 (0 : Int32) (30076 : Int32) (30075 : Int32) j0) else (if x1 = 7 then (if x1 = 7 then f_M_tells_b152 j0 M0 (1 : Int32) (30075 : Int32) (30076 : Int32) j0 else f_M_tells_b152 j0 M0 (0 : Int32) (30075 : Int32) (30076 : Int32) j0) else (if x1 = 8 then (if x1 = 7 then f_M_tells_b152 j0 M0 (1 : Int32) (30075 : Int32) (30076 : Int32) j0 else f_M_tells_b152 j0 M0 (0 : Int32) (30075 : Int32) (30076 : Int32) j0) else (if x1 = 9 then (if x1 = 9 then f_M_tells_b178 j0 M0 (1 : Int32) (30075 : Int32) (30076 : Int32) j0 else f_M_tells_b178 j0 M0 (0 : Int32) (30075 : Int32) (30076 : Int32) j0) else (if x1 = 10 then (if x1 = 9 then f_M_tells_b178 j0 M0 (1 : Int32) (30075 : Int32) (30076 : Int32) j0 else f_M_tells_b178 j0 M0 (0 : Int32) (30075 : Int32) (30076 : Int32) j0) else b2 (f_M_misses M0 j0) (fun (M46 : me_M) (r47 : Int32) => f_M_tells_b191 j0 M46 r47))))))))))))
def rm_M_tells : Room := { frames := 5, cells := 0, slots := 0, locals := 110 }
abbrev q_M_tells (D : va_G) (ad : Nat → Nat → Nat) (ca : Nat → ClassId) (N : Nat → Nat) (M0 MZ : me_M) (RZ : Int32) (A : Nat → Prop) : Array Value → Jvm.State → Outcome → Jvm.State → Prop := va_Qi (fun r (_ : Unit) => r = RZ ∧ me_wf N MZ ∧ me_kp M0 MZ ∧ (RZ = 1 ∨ RZ = 0)) (fg_B D A (fun _ => me_W ad ca MZ) (fun _ => [])) A
set_option maxHeartbeats 4000000 in
set_option maxRecDepth 100000 in
theorem c_M_tells (l : Launch) (D : va_G) (ad : Nat → Nat → Nat) (ca : Nat → ClassId) (N : Nat → Nat) (M0 MZ : me_M) (RZ : Int32) (j0 : Nat) (x1 : Int32) (h : f_M_tells M0 j0 x1 = (some (MZ, RZ))) (hwf : me_wf N M0) (hj0 : j0 < N 1) (sz : Nat) : Met l y_M_tells (fg_w y_M_tells prog_14_method_40_code 3 (some .boolean)) rm_M_tells (va_Pc [.ref (ad 1 j0), .int x1] (fz_P D (me_T ca) (me_W ad ca M0) sz)) (q_M_tells D ad ca N M0 MZ RZ (va_A (me_W ad ca M0) sz)) rm_M_tells.cells rm_M_tells.slots (va_A (me_W ad ca M0) sz) := by
  refine fz_enter (fun A => q_M_tells D ad ca N M0 MZ RZ A) (by decide +kernel) (Nat.le_of_ble_eq_true rfl) ?_
  intro p e s m below meth c ls A hx hb hml hown hts hr hlocks hin hP hK hD hS hA hX hl hz
  have hl : lv_has ls 3 [(0, .ref (ad 1 j0)), (1, .int x1)] := hl
  unfold f_M_tells at h
  have hkp : me_kp M0 M0 := me_kp.rf
  have hkb := hkp
  have b_191 : ∀ (M : me_M) (y2 : Int32) (H : Heap) (locs : List Loc) (ls : Array Slot), f_M_tells_b191 j0 M y2 = (some (MZ, RZ)) → (y2 = 1 ∨ y2 = 0) → me_wf N M → me_kp M0 M → va_P D classes (me_W ad ca M) H → va_D A (me_W ad ca M) → va_S A s.heap H locs → lv_has ls 3 [(0, .ref (ad 1 j0)), (2, .int y2)] → W p l e rm_M_tells s m [.ref (ad 1 j0), .int x1].toArray below meth c H locs 0 0 (MQ below (q_M_tells D ad ca N M0 MZ RZ A) [.ref (ad 1 j0), .int x1].toArray s rm_M_tells.cells rm_M_tells.slots A) (F0 m 191 ls []) := by
    intro M y2 H locs ls h zy2 hwf hkp hP hD hS hl
    unfold f_M_tells_b191 at h
    have hkb := hkp
    refine lv_iload_n hx hb d_M_tells_191 rfl (lv_at hl 1 rfl) ?_
    refine lv_if_eq (tgt := 219) hx hb d_M_tells_192 (by decide) (fun c1 => ?_) (fun c1 => ?_)
    · have h := if_t c1 h
      refine lv_iconst (v := 0) hx hb d_M_tells_219 (by decide) ?_
      have z2 : (0 : Int32) = 1 ∨ (0 : Int32) = 0 := (by decide)
      cases h
      exact fg_retz () hx hb hr hlocks (me_nz z2) ⟨rfl, ⟨hwf, hkp, z2⟩⟩ hP (hK.sub (tys' := []) [] rfl) hD hS (Nat.le_of_ble_eq_true rfl) (Nat.le_of_ble_eq_true rfl) d_M_tells_220
    have h := if_f c1 h
    refine lv_aload_n hx hb d_M_tells_195 rfl (lv_at hl 0 rfl) ?_
    refine lv_sipush (v := 30075) hx hb d_M_tells_196 (by decide) ?_
    obtain ⟨M3, r4, eM3, h⟩ := b2_ob h
    refine me_theni0 (M1 := M3) (me_runV (C := "FilterGuardModel") (As := [.int 30075]) (rest := []) ⟨hx, hb, hml, hown, hts⟩ (c_M_settle l D ad ca N M M3 r4 j0 (30075 : Int32) eM3 hwf hj0 _) rfl (by show fg_nm y_M_settle 1; decide +kernel) u_2143 u_2145 u_113 u_192 u_2146 ⟨Nat.le_of_ble_eq_true rfl, Nat.le_of_ble_eq_true rfl⟩ hX hz hK hP hD hwf hS hA hj0 (by decide) rfl rfl rfl hl.1 (Nat.le_of_ble_eq_true rfl) d_M_tells_199 ⟨Nat.le_of_ble_eq_true rfl, Nat.le_of_ble_eq_true rfl⟩) hP hD hK hS hA rfl rfl (fun H locs hw hP hD hS => ?_)
    obtain ⟨hwf, hk9, zr4⟩ := hw
    have hkp := hkp.tr hk9
    refine lv_if_eq (tgt := 219) hx hb d_M_tells_202 (by decide) (fun c5 => ?_) (fun c5 => ?_)
    · have h := if_t c5 h
      refine lv_iconst (v := 0) hx hb d_M_tells_219 (by decide) ?_
      have z6 : (0 : Int32) = 1 ∨ (0 : Int32) = 0 := (by decide)
      cases h
      exact fg_retz () hx hb hr hlocks (me_nz z6) ⟨rfl, ⟨hwf, hkp, z6⟩⟩ hP (hK.sub (tys' := []) [] rfl) hD hS (Nat.le_of_ble_eq_true rfl) (Nat.le_of_ble_eq_true rfl) d_M_tells_220
    have h := if_f c5 h
    refine lv_aload_n hx hb d_M_tells_205 rfl (lv_at hl 0 rfl) ?_
    refine lv_sipush (v := 30076) hx hb d_M_tells_206 (by decide) ?_
    obtain ⟨M7, r8, eM7, h⟩ := b2_ob h
    refine me_theni0 (M1 := M7) (me_runV (C := "FilterGuardModel") (As := [.int 30076]) (rest := []) ⟨hx, hb, hml, hown, hts⟩ (c_M_settle l D ad ca N M3 M7 r8 j0 (30076 : Int32) eM7 hwf hj0 _) rfl (by show fg_nm y_M_settle 1; decide +kernel) u_2143 u_2145 u_113 u_192 u_2146 ⟨Nat.le_of_ble_eq_true rfl, Nat.le_of_ble_eq_true rfl⟩ hX hz hK hP hD hwf hS hA hj0 (by decide) rfl rfl rfl hl.1 (Nat.le_of_ble_eq_true rfl) d_M_tells_209 ⟨Nat.le_of_ble_eq_true rfl, Nat.le_of_ble_eq_true rfl⟩) hP hD hK hS hA rfl rfl (fun H locs hw hP hD hS => ?_)
    obtain ⟨hwf, hk9, zr8⟩ := hw
    have hkp := hkp.tr hk9
    refine lv_if_eq (tgt := 219) hx hb d_M_tells_212 (by decide) (fun c9 => ?_) (fun c9 => ?_)
    · have h := if_t c9 h
      refine lv_iconst (v := 0) hx hb d_M_tells_219 (by decide) ?_
      have z10 : (0 : Int32) = 1 ∨ (0 : Int32) = 0 := (by decide)
      cases h
      exact fg_retz () hx hb hr hlocks (me_nz z10) ⟨rfl, ⟨hwf, hkp, z10⟩⟩ hP (hK.sub (tys' := []) [] rfl) hD hS (Nat.le_of_ble_eq_true rfl) (Nat.le_of_ble_eq_true rfl) d_M_tells_220
    have h := if_f c9 h
    refine lv_iconst (v := 1) hx hb d_M_tells_215 (by decide) ?_
    refine lv_goto (tgt := 220) hx hb d_M_tells_216 (by decide) ?_
    have z11 : (1 : Int32) = 1 ∨ (1 : Int32) = 0 := (by decide)
    cases h
    exact fg_retz () hx hb hr hlocks (me_nz z11) ⟨rfl, ⟨hwf, hkp, z11⟩⟩ hP (hK.sub (tys' := []) [] rfl) hD hS (Nat.le_of_ble_eq_true rfl) (Nat.le_of_ble_eq_true rfl) d_M_tells_220
  have b_178 : ∀ (M : me_M) (s0 : Int32) (s1 : Int32) (s2 : Int32) (s3 : Nat) (H : Heap) (locs : List Loc) (ls : Array Slot), f_M_tells_b178 j0 M s0 s1 s2 s3 = (some (MZ, RZ)) → (s0 = 1 ∨ s0 = 0) → (s3 < N 1) → me_wf N M → me_kp M0 M → va_P D classes (me_W ad ca M) H → va_D A (me_W ad ca M) → va_S A s.heap H locs → lv_has ls 3 [(0, .ref (ad 1 j0))] → W p l e rm_M_tells s m [.ref (ad 1 j0), .int x1].toArray below meth c H locs 0 0 (MQ below (q_M_tells D ad ca N M0 MZ RZ A) [.ref (ad 1 j0), .int x1].toArray s rm_M_tells.cells rm_M_tells.slots A) (F0 m 178 ls [.int s0, .int s1, .int s2, .ref (ad 1 s3)]) := by
    intro M s0 s1 s2 s3 H locs ls h zs0 hs3 hwf hkp hP hD hS hl
    unfold f_M_tells_b178 at h
    have hkb := hkp
    refine lv_iconst (v := 1) hx hb d_M_tells_178 (by decide) ?_
    obtain ⟨M12, r13, eM12, h⟩ := b2_ob h
    refine me_theni0 (M1 := M12) (me_runV (C := "FilterGuardModel") (As := [.int s2, .int s1, .int s0, .int 1]) (rest := []) ⟨hx, hb, hml, hown, hts⟩ (c_M_orders l D ad ca N M M12 r13 s3 s2 s1 s0 (1 : Int32) eM12 hwf hs3 zs0 (by decide) _) rfl (by show fg_nm y_M_orders 4; decide +kernel) u_2243 u_2245 u_134 u_192 u_2246 ⟨Nat.le_of_ble_eq_true rfl, Nat.le_of_ble_eq_true rfl⟩ hX hz hK hP hD hwf hS hA hs3 (by decide) rfl rfl rfl hl.1 (Nat.le_of_ble_eq_true rfl) d_M_tells_179 ⟨Nat.le_of_ble_eq_true rfl, Nat.le_of_ble_eq_true rfl⟩) hP hD hK hS hA rfl rfl (fun H locs hw hP hD hS => ?_)
    obtain ⟨hwf, hk9, zr13⟩ := hw
    have hkp := hkp.tr hk9
    refine lv_istore_n (lv' := [(2, .int r13), (0, .ref (ad 1 j0))]) hx hb d_M_tells_182 rfl hl (by decide) rfl (fun ls hl => ?_)
    refine lv_goto (tgt := 191) hx hb d_M_tells_183 (by decide) ?_
    exact b_191 M12 r13 _ _ _ h zr13 hwf hkp hP hD hS (lv_sub hl [1, 0] rfl)
  have b_152 : ∀ (M : me_M) (s0 : Int32) (s1 : Int32) (s2 : Int32) (s3 : Nat) (H : Heap) (locs : List Loc) (ls : Array Slot), f_M_tells_b152 j0 M s0 s1 s2 s3 = (some (MZ, RZ)) → (s0 = 1 ∨ s0 = 0) → (s3 < N 1) → me_wf N M → me_kp M0 M → va_P D classes (me_W ad ca M) H → va_D A (me_W ad ca M) → va_S A s.heap H locs → lv_has ls 3 [(0, .ref (ad 1 j0))] → W p l e rm_M_tells s m [.ref (ad 1 j0), .int x1].toArray below meth c H locs 0 0 (MQ below (q_M_tells D ad ca N M0 MZ RZ A) [.ref (ad 1 j0), .int x1].toArray s rm_M_tells.cells rm_M_tells.slots A) (F0 m 152 ls [.int s0, .int s1, .int s2, .ref (ad 1 s3)]) := by
    intro M s0 s1 s2 s3 H locs ls h zs0 hs3 hwf hkp hP hD hS hl
    unfold f_M_tells_b152 at h
    have hkb := hkp
    refine lv_iconst (v := 0) hx hb d_M_tells_152 (by decide) ?_
    obtain ⟨M14, r15, eM14, h⟩ := b2_ob h
    refine me_theni0 (M1 := M14) (me_runV (C := "FilterGuardModel") (As := [.int s2, .int s1, .int s0, .int 0]) (rest := []) ⟨hx, hb, hml, hown, hts⟩ (c_M_orders l D ad ca N M M14 r15 s3 s2 s1 s0 (0 : Int32) eM14 hwf hs3 zs0 (by decide) _) rfl (by show fg_nm y_M_orders 4; decide +kernel) u_2243 u_2245 u_134 u_192 u_2246 ⟨Nat.le_of_ble_eq_true rfl, Nat.le_of_ble_eq_true rfl⟩ hX hz hK hP hD hwf hS hA hs3 (by decide) rfl rfl rfl hl.1 (Nat.le_of_ble_eq_true rfl) d_M_tells_153 ⟨Nat.le_of_ble_eq_true rfl, Nat.le_of_ble_eq_true rfl⟩) hP hD hK hS hA rfl rfl (fun H locs hw hP hD hS => ?_)
    obtain ⟨hwf, hk9, zr15⟩ := hw
    have hkp := hkp.tr hk9
    refine lv_istore_n (lv' := [(2, .int r15), (0, .ref (ad 1 j0))]) hx hb d_M_tells_156 rfl hl (by decide) rfl (fun ls hl => ?_)
    refine lv_goto (tgt := 191) hx hb d_M_tells_157 (by decide) ?_
    exact b_191 M14 r15 _ _ _ h zr15 hwf hkp hP hD hS (lv_sub hl [1, 0] rfl)
  have b_126 : ∀ (M : me_M) (s0 : Int32) (s1 : Int32) (s2 : Int32) (s3 : Nat) (H : Heap) (locs : List Loc) (ls : Array Slot), f_M_tells_b126 j0 M s0 s1 s2 s3 = (some (MZ, RZ)) → (s0 = 1 ∨ s0 = 0) → (s3 < N 1) → me_wf N M → me_kp M0 M → va_P D classes (me_W ad ca M) H → va_D A (me_W ad ca M) → va_S A s.heap H locs → lv_has ls 3 [(0, .ref (ad 1 j0))] → W p l e rm_M_tells s m [.ref (ad 1 j0), .int x1].toArray below meth c H locs 0 0 (MQ below (q_M_tells D ad ca N M0 MZ RZ A) [.ref (ad 1 j0), .int x1].toArray s rm_M_tells.cells rm_M_tells.slots A) (F0 m 126 ls [.int s0, .int s1, .int s2, .ref (ad 1 s3)]) := by
    intro M s0 s1 s2 s3 H locs ls h zs0 hs3 hwf hkp hP hD hS hl
    unfold f_M_tells_b126 at h
    have hkb := hkp
    refine lv_iconst (v := 1) hx hb d_M_tells_126 (by decide) ?_
    obtain ⟨M16, r17, eM16, h⟩ := b2_ob h
    refine me_theni0 (M1 := M16) (me_runV (C := "FilterGuardModel") (As := [.int s2, .int s1, .int s0, .int 1]) (rest := []) ⟨hx, hb, hml, hown, hts⟩ (c_M_orders l D ad ca N M M16 r17 s3 s2 s1 s0 (1 : Int32) eM16 hwf hs3 zs0 (by decide) _) rfl (by show fg_nm y_M_orders 4; decide +kernel) u_2243 u_2245 u_134 u_192 u_2246 ⟨Nat.le_of_ble_eq_true rfl, Nat.le_of_ble_eq_true rfl⟩ hX hz hK hP hD hwf hS hA hs3 (by decide) rfl rfl rfl hl.1 (Nat.le_of_ble_eq_true rfl) d_M_tells_127 ⟨Nat.le_of_ble_eq_true rfl, Nat.le_of_ble_eq_true rfl⟩) hP hD hK hS hA rfl rfl (fun H locs hw hP hD hS => ?_)
    obtain ⟨hwf, hk9, zr17⟩ := hw
    have hkp := hkp.tr hk9
    refine lv_istore_n (lv' := [(2, .int r17), (0, .ref (ad 1 j0))]) hx hb d_M_tells_130 rfl hl (by decide) rfl (fun ls hl => ?_)
    refine lv_goto (tgt := 191) hx hb d_M_tells_131 (by decide) ?_
    exact b_191 M16 r17 _ _ _ h zr17 hwf hkp hP hD hS (lv_sub hl [1, 0] rfl)
  have b_85 : ∀ (M : me_M) (s0 : Int32) (s1 : Int32) (s2 : Int32) (s3 : Nat) (H : Heap) (locs : List Loc) (ls : Array Slot), f_M_tells_b85 j0 M s0 s1 s2 s3 = (some (MZ, RZ)) → (s0 = 1 ∨ s0 = 0) → (s3 < N 1) → me_wf N M → me_kp M0 M → va_P D classes (me_W ad ca M) H → va_D A (me_W ad ca M) → va_S A s.heap H locs → lv_has ls 3 [(0, .ref (ad 1 j0))] → W p l e rm_M_tells s m [.ref (ad 1 j0), .int x1].toArray below meth c H locs 0 0 (MQ below (q_M_tells D ad ca N M0 MZ RZ A) [.ref (ad 1 j0), .int x1].toArray s rm_M_tells.cells rm_M_tells.slots A) (F0 m 85 ls [.int s0, .int s1, .int s2, .ref (ad 1 s3)]) := by
    intro M s0 s1 s2 s3 H locs ls h zs0 hs3 hwf hkp hP hD hS hl
    unfold f_M_tells_b85 at h
    have hkb := hkp
    refine lv_iconst (v := 0) hx hb d_M_tells_85 (by decide) ?_
    obtain ⟨M18, r19, eM18, h⟩ := b2_ob h
    refine me_theni0 (M1 := M18) (me_runV (C := "FilterGuardModel") (As := [.int s2, .int s1, .int s0, .int 0]) (rest := []) ⟨hx, hb, hml, hown, hts⟩ (c_M_orders l D ad ca N M M18 r19 s3 s2 s1 s0 (0 : Int32) eM18 hwf hs3 zs0 (by decide) _) rfl (by show fg_nm y_M_orders 4; decide +kernel) u_2243 u_2245 u_134 u_192 u_2246 ⟨Nat.le_of_ble_eq_true rfl, Nat.le_of_ble_eq_true rfl⟩ hX hz hK hP hD hwf hS hA hs3 (by decide) rfl rfl rfl hl.1 (Nat.le_of_ble_eq_true rfl) d_M_tells_86 ⟨Nat.le_of_ble_eq_true rfl, Nat.le_of_ble_eq_true rfl⟩) hP hD hK hS hA rfl rfl (fun H locs hw hP hD hS => ?_)
    obtain ⟨hwf, hk9, zr19⟩ := hw
    have hkp := hkp.tr hk9
    refine lv_istore_n (lv' := [(2, .int r19), (0, .ref (ad 1 j0))]) hx hb d_M_tells_89 rfl hl (by decide) rfl (fun ls hl => ?_)
    refine lv_goto (tgt := 191) hx hb d_M_tells_90 (by decide) ?_
    exact b_191 M18 r19 _ _ _ h zr19 hwf hkp hP hD hS (lv_sub hl [1, 0] rfl)
  refine lv_iconst (v := 1) hx hb d_M_tells_0 (by decide) ?_
  refine lv_istore_n (lv' := [(2, .int 1), (0, .ref (ad 1 j0)), (1, .int x1)]) hx hb d_M_tells_1 rfl hl (by decide) rfl (fun ls hl => ?_)
  refine lv_iload_n hx hb d_M_tells_2 rfl (lv_at hl 2 rfl) ?_
  refine lv_topi (fun w20 ew20 => ?_)
  by_cases n21 : w20 = 0
  · have h := if_t (ew20.symm.trans n21) h
    subst n21
    refine lv_tableIn (off := 57) (tgt := 60) hx hb d_M_tells_3 (by decide) (by decide) (by decide) (by decide) ?_
    refine lv_aload_n hx hb d_M_tells_60 rfl (lv_at hl 1 rfl) ?_
    obtain ⟨M22, r23, eM22, h⟩ := b2_ob h
    refine me_theni0 (M1 := M22) (me_runV (C := "FilterGuardModel") (As := []) (rest := []) ⟨hx, hb, hml, hown, hts⟩ (c_M_same l D ad ca N M0 M22 r23 j0 eM22 hwf hj0 _) rfl (by show fg_nm y_M_same 0; decide +kernel) u_2239 u_2241 u_133 u_192 u_2242 ⟨Nat.le_of_ble_eq_true rfl, Nat.le_of_ble_eq_true rfl⟩ hX hz hK hP hD hwf hS hA hj0 (by decide) rfl rfl rfl hl.1 (Nat.le_of_ble_eq_true rfl) d_M_tells_61 ⟨Nat.le_of_ble_eq_true rfl, Nat.le_of_ble_eq_true rfl⟩) hP hD hK hS hA rfl rfl (fun H locs hw hP hD hS => ?_)
    obtain ⟨hwf, hk9, zr23⟩ := hw
    have hkp := hkp.tr hk9
    refine lv_istore_n (lv' := [(2, .int r23), (0, .ref (ad 1 j0)), (1, .int x1)]) hx hb d_M_tells_64 rfl hl (by decide) rfl (fun ls hl => ?_)
    refine lv_goto (tgt := 191) hx hb d_M_tells_65 (by decide) ?_
    exact b_191 M22 r23 _ _ _ h zr23 hwf hkp hP hD hS (lv_sub hl [1, 0] rfl)
  have h := if_f (fun z => n21 (ew20.trans z)) h
  by_cases n24 : w20 = 1
  · have h := if_t (ew20.symm.trans n24) h
    subst n24
    refine lv_tableIn (off := 65) (tgt := 68) hx hb d_M_tells_3 (by decide) (by decide) (by decide) (by decide) ?_
    refine lv_aload_n hx hb d_M_tells_68 rfl (lv_at hl 1 rfl) ?_
    refine lv_sipush (v := 30075) hx hb d_M_tells_69 (by decide) ?_
    refine lv_sipush (v := 30076) hx hb d_M_tells_72 (by decide) ?_
    refine lv_iload_n hx hb d_M_tells_75 rfl (lv_at hl 2 rfl) ?_
    refine lv_iconst (v := 1) hx hb d_M_tells_76 (by decide) ?_
    refine lv_icmp_ne (tgt := 84) hx hb d_M_tells_77 (by decide) (fun c25 => ?_) (fun c25 => ?_)
    · have h := if_f c25 h
      refine lv_iconst (v := 0) hx hb d_M_tells_84 (by decide) ?_
      exact b_85 M0 (0 : Int32) (30076 : Int32) (30075 : Int32) j0 _ _ _ h (by decide) hj0 hwf hkp hP hD hS (lv_sub hl [1] rfl)
    have h := if_t c25 h
    refine lv_iconst (v := 1) hx hb d_M_tells_80 (by decide) ?_
    refine lv_goto (tgt := 85) hx hb d_M_tells_81 (by decide) ?_
    exact b_85 M0 (1 : Int32) (30076 : Int32) (30075 : Int32) j0 _ _ _ h (by decide) hj0 hwf hkp hP hD hS (lv_sub hl [1] rfl)
  have h := if_f (fun z => n24 (ew20.trans z)) h
  by_cases n26 : w20 = 2
  · have h := if_t (ew20.symm.trans n26) h
    subst n26
    refine lv_tableIn (off := 65) (tgt := 68) hx hb d_M_tells_3 (by decide) (by decide) (by decide) (by decide) ?_
    refine lv_aload_n hx hb d_M_tells_68 rfl (lv_at hl 1 rfl) ?_
    refine lv_sipush (v := 30075) hx hb d_M_tells_69 (by decide) ?_
    refine lv_sipush (v := 30076) hx hb d_M_tells_72 (by decide) ?_
    refine lv_iload_n hx hb d_M_tells_75 rfl (lv_at hl 2 rfl) ?_
    refine lv_iconst (v := 1) hx hb d_M_tells_76 (by decide) ?_
    refine lv_icmp_ne (tgt := 84) hx hb d_M_tells_77 (by decide) (fun c27 => ?_) (fun c27 => ?_)
    · have h := if_f c27 h
      refine lv_iconst (v := 0) hx hb d_M_tells_84 (by decide) ?_
      exact b_85 M0 (0 : Int32) (30076 : Int32) (30075 : Int32) j0 _ _ _ h (by decide) hj0 hwf hkp hP hD hS (lv_sub hl [1] rfl)
    have h := if_t c27 h
    refine lv_iconst (v := 1) hx hb d_M_tells_80 (by decide) ?_
    refine lv_goto (tgt := 85) hx hb d_M_tells_81 (by decide) ?_
    exact b_85 M0 (1 : Int32) (30076 : Int32) (30075 : Int32) j0 _ _ _ h (by decide) hj0 hwf hkp hP hD hS (lv_sub hl [1] rfl)
  have h := if_f (fun z => n26 (ew20.trans z)) h
  by_cases n28 : w20 = 3
  · have h := if_t (ew20.symm.trans n28) h
    subst n28
    refine lv_tableIn (off := 90) (tgt := 93) hx hb d_M_tells_3 (by decide) (by decide) (by decide) (by decide) ?_
    refine lv_aload_n hx hb d_M_tells_93 rfl (lv_at hl 1 rfl) ?_
    obtain ⟨M29, r30, eM29, h⟩ := b2_ob h
    refine me_theni0 (M1 := M29) (me_runV (C := "FilterGuardModel") (As := []) (rest := []) ⟨hx, hb, hml, hown, hts⟩ (c_M_meets l D ad ca N M0 M29 r30 j0 eM29 hwf hj0 _) rfl (by show fg_nm y_M_meets 0; decide +kernel) u_2247 u_2249 u_135 u_192 u_2250 ⟨Nat.le_of_ble_eq_true rfl, Nat.le_of_ble_eq_true rfl⟩ hX hz hK hP hD hwf hS hA hj0 (by decide) rfl rfl rfl hl.1 (Nat.le_of_ble_eq_true rfl) d_M_tells_94 ⟨Nat.le_of_ble_eq_true rfl, Nat.le_of_ble_eq_true rfl⟩) hP hD hK hS hA rfl rfl (fun H locs hw hP hD hS => ?_)
    obtain ⟨hwf, hk9, zr30⟩ := hw
    have hkp := hkp.tr hk9
    refine lv_istore_n (lv' := [(2, .int r30), (0, .ref (ad 1 j0)), (1, .int x1)]) hx hb d_M_tells_97 rfl hl (by decide) rfl (fun ls hl => ?_)
    refine lv_goto (tgt := 191) hx hb d_M_tells_98 (by decide) ?_
    exact b_191 M29 r30 _ _ _ h zr30 hwf hkp hP hD hS (lv_sub hl [1, 0] rfl)
  have h := if_f (fun z => n28 (ew20.trans z)) h
  by_cases n31 : w20 = 4
  · have h := if_t (ew20.symm.trans n31) h
    subst n31
    refine lv_tableIn (off := 98) (tgt := 101) hx hb d_M_tells_3 (by decide) (by decide) (by decide) (by decide) ?_
    refine lv_aload_n hx hb d_M_tells_101 rfl (lv_at hl 1 rfl) ?_
    obtain ⟨M32, r33, eM32, h⟩ := b2_ob h
    refine me_theni0 (M1 := M32) (me_runV (C := "FilterGuardModel") (As := []) (rest := []) ⟨hx, hb, hml, hown, hts⟩ (c_M_notSame l D ad ca N M0 M32 r33 j0 eM32 hwf hj0 _) rfl (by show fg_nm y_M_notSame 0; decide +kernel) u_2258 u_2260 u_137 u_192 u_2261 ⟨Nat.le_of_ble_eq_true rfl, Nat.le_of_ble_eq_true rfl⟩ hX hz hK hP hD hwf hS hA hj0 (by decide) rfl rfl rfl hl.1 (Nat.le_of_ble_eq_true rfl) d_M_tells_102 ⟨Nat.le_of_ble_eq_true rfl, Nat.le_of_ble_eq_true rfl⟩) hP hD hK hS hA rfl rfl (fun H locs hw hP hD hS => ?_)
    obtain ⟨hwf, hk9, zr33⟩ := hw
    have hkp := hkp.tr hk9
    refine lv_istore_n (lv' := [(2, .int r33), (0, .ref (ad 1 j0)), (1, .int x1)]) hx hb d_M_tells_105 rfl hl (by decide) rfl (fun ls hl => ?_)
    refine lv_goto (tgt := 191) hx hb d_M_tells_106 (by decide) ?_
    exact b_191 M32 r33 _ _ _ h zr33 hwf hkp hP hD hS (lv_sub hl [1, 0] rfl)
  have h := if_f (fun z => n31 (ew20.trans z)) h
  by_cases n34 : w20 = 5
  · have h := if_t (ew20.symm.trans n34) h
    subst n34
    refine lv_tableIn (off := 106) (tgt := 109) hx hb d_M_tells_3 (by decide) (by decide) (by decide) (by decide) ?_
    refine lv_aload_n hx hb d_M_tells_109 rfl (lv_at hl 1 rfl) ?_
    refine lv_sipush (v := 30075) hx hb d_M_tells_110 (by decide) ?_
    refine lv_sipush (v := 30076) hx hb d_M_tells_113 (by decide) ?_
    refine lv_iload_n hx hb d_M_tells_116 rfl (lv_at hl 2 rfl) ?_
    refine lv_iconst (v := 5) hx hb d_M_tells_117 (by decide) ?_
    refine lv_icmp_ne (tgt := 125) hx hb d_M_tells_118 (by decide) (fun c35 => ?_) (fun c35 => ?_)
    · have h := if_f c35 h
      refine lv_iconst (v := 0) hx hb d_M_tells_125 (by decide) ?_
      exact b_126 M0 (0 : Int32) (30076 : Int32) (30075 : Int32) j0 _ _ _ h (by decide) hj0 hwf hkp hP hD hS (lv_sub hl [1] rfl)
    have h := if_t c35 h
    refine lv_iconst (v := 1) hx hb d_M_tells_121 (by decide) ?_
    refine lv_goto (tgt := 126) hx hb d_M_tells_122 (by decide) ?_
    exact b_126 M0 (1 : Int32) (30076 : Int32) (30075 : Int32) j0 _ _ _ h (by decide) hj0 hwf hkp hP hD hS (lv_sub hl [1] rfl)
  have h := if_f (fun z => n34 (ew20.trans z)) h
  by_cases n36 : w20 = 6
  · have h := if_t (ew20.symm.trans n36) h
    subst n36
    refine lv_tableIn (off := 106) (tgt := 109) hx hb d_M_tells_3 (by decide) (by decide) (by decide) (by decide) ?_
    refine lv_aload_n hx hb d_M_tells_109 rfl (lv_at hl 1 rfl) ?_
    refine lv_sipush (v := 30075) hx hb d_M_tells_110 (by decide) ?_
    refine lv_sipush (v := 30076) hx hb d_M_tells_113 (by decide) ?_
    refine lv_iload_n hx hb d_M_tells_116 rfl (lv_at hl 2 rfl) ?_
    refine lv_iconst (v := 5) hx hb d_M_tells_117 (by decide) ?_
    refine lv_icmp_ne (tgt := 125) hx hb d_M_tells_118 (by decide) (fun c37 => ?_) (fun c37 => ?_)
    · have h := if_f c37 h
      refine lv_iconst (v := 0) hx hb d_M_tells_125 (by decide) ?_
      exact b_126 M0 (0 : Int32) (30076 : Int32) (30075 : Int32) j0 _ _ _ h (by decide) hj0 hwf hkp hP hD hS (lv_sub hl [1] rfl)
    have h := if_t c37 h
    refine lv_iconst (v := 1) hx hb d_M_tells_121 (by decide) ?_
    refine lv_goto (tgt := 126) hx hb d_M_tells_122 (by decide) ?_
    exact b_126 M0 (1 : Int32) (30076 : Int32) (30075 : Int32) j0 _ _ _ h (by decide) hj0 hwf hkp hP hD hS (lv_sub hl [1] rfl)
  have h := if_f (fun z => n36 (ew20.trans z)) h
  by_cases n38 : w20 = 7
  · have h := if_t (ew20.symm.trans n38) h
    subst n38
    refine lv_tableIn (off := 131) (tgt := 134) hx hb d_M_tells_3 (by decide) (by decide) (by decide) (by decide) ?_
    refine lv_aload_n hx hb d_M_tells_134 rfl (lv_at hl 1 rfl) ?_
    refine lv_sipush (v := 30076) hx hb d_M_tells_135 (by decide) ?_
    refine lv_sipush (v := 30075) hx hb d_M_tells_138 (by decide) ?_
    refine lv_iload_n hx hb d_M_tells_141 rfl (lv_at hl 2 rfl) ?_
    refine lv_bipush (v := 7) hx hb d_M_tells_142 (by decide) ?_
    refine lv_icmp_ne (tgt := 151) hx hb d_M_tells_144 (by decide) (fun c39 => ?_) (fun c39 => ?_)
    · have h := if_f c39 h
      refine lv_iconst (v := 0) hx hb d_M_tells_151 (by decide) ?_
      exact b_152 M0 (0 : Int32) (30075 : Int32) (30076 : Int32) j0 _ _ _ h (by decide) hj0 hwf hkp hP hD hS (lv_sub hl [1] rfl)
    have h := if_t c39 h
    refine lv_iconst (v := 1) hx hb d_M_tells_147 (by decide) ?_
    refine lv_goto (tgt := 152) hx hb d_M_tells_148 (by decide) ?_
    exact b_152 M0 (1 : Int32) (30075 : Int32) (30076 : Int32) j0 _ _ _ h (by decide) hj0 hwf hkp hP hD hS (lv_sub hl [1] rfl)
  have h := if_f (fun z => n38 (ew20.trans z)) h
  by_cases n40 : w20 = 8
  · have h := if_t (ew20.symm.trans n40) h
    subst n40
    refine lv_tableIn (off := 131) (tgt := 134) hx hb d_M_tells_3 (by decide) (by decide) (by decide) (by decide) ?_
    refine lv_aload_n hx hb d_M_tells_134 rfl (lv_at hl 1 rfl) ?_
    refine lv_sipush (v := 30076) hx hb d_M_tells_135 (by decide) ?_
    refine lv_sipush (v := 30075) hx hb d_M_tells_138 (by decide) ?_
    refine lv_iload_n hx hb d_M_tells_141 rfl (lv_at hl 2 rfl) ?_
    refine lv_bipush (v := 7) hx hb d_M_tells_142 (by decide) ?_
    refine lv_icmp_ne (tgt := 151) hx hb d_M_tells_144 (by decide) (fun c41 => ?_) (fun c41 => ?_)
    · have h := if_f c41 h
      refine lv_iconst (v := 0) hx hb d_M_tells_151 (by decide) ?_
      exact b_152 M0 (0 : Int32) (30075 : Int32) (30076 : Int32) j0 _ _ _ h (by decide) hj0 hwf hkp hP hD hS (lv_sub hl [1] rfl)
    have h := if_t c41 h
    refine lv_iconst (v := 1) hx hb d_M_tells_147 (by decide) ?_
    refine lv_goto (tgt := 152) hx hb d_M_tells_148 (by decide) ?_
    exact b_152 M0 (1 : Int32) (30075 : Int32) (30076 : Int32) j0 _ _ _ h (by decide) hj0 hwf hkp hP hD hS (lv_sub hl [1] rfl)
  have h := if_f (fun z => n40 (ew20.trans z)) h
  by_cases n42 : w20 = 9
  · have h := if_t (ew20.symm.trans n42) h
    subst n42
    refine lv_tableIn (off := 157) (tgt := 160) hx hb d_M_tells_3 (by decide) (by decide) (by decide) (by decide) ?_
    refine lv_aload_n hx hb d_M_tells_160 rfl (lv_at hl 1 rfl) ?_
    refine lv_sipush (v := 30076) hx hb d_M_tells_161 (by decide) ?_
    refine lv_sipush (v := 30075) hx hb d_M_tells_164 (by decide) ?_
    refine lv_iload_n hx hb d_M_tells_167 rfl (lv_at hl 2 rfl) ?_
    refine lv_bipush (v := 9) hx hb d_M_tells_168 (by decide) ?_
    refine lv_icmp_ne (tgt := 177) hx hb d_M_tells_170 (by decide) (fun c43 => ?_) (fun c43 => ?_)
    · have h := if_f c43 h
      refine lv_iconst (v := 0) hx hb d_M_tells_177 (by decide) ?_
      exact b_178 M0 (0 : Int32) (30075 : Int32) (30076 : Int32) j0 _ _ _ h (by decide) hj0 hwf hkp hP hD hS (lv_sub hl [1] rfl)
    have h := if_t c43 h
    refine lv_iconst (v := 1) hx hb d_M_tells_173 (by decide) ?_
    refine lv_goto (tgt := 178) hx hb d_M_tells_174 (by decide) ?_
    exact b_178 M0 (1 : Int32) (30075 : Int32) (30076 : Int32) j0 _ _ _ h (by decide) hj0 hwf hkp hP hD hS (lv_sub hl [1] rfl)
  have h := if_f (fun z => n42 (ew20.trans z)) h
  by_cases n44 : w20 = 10
  · have h := if_t (ew20.symm.trans n44) h
    subst n44
    refine lv_tableIn (off := 157) (tgt := 160) hx hb d_M_tells_3 (by decide) (by decide) (by decide) (by decide) ?_
    refine lv_aload_n hx hb d_M_tells_160 rfl (lv_at hl 1 rfl) ?_
    refine lv_sipush (v := 30076) hx hb d_M_tells_161 (by decide) ?_
    refine lv_sipush (v := 30075) hx hb d_M_tells_164 (by decide) ?_
    refine lv_iload_n hx hb d_M_tells_167 rfl (lv_at hl 2 rfl) ?_
    refine lv_bipush (v := 9) hx hb d_M_tells_168 (by decide) ?_
    refine lv_icmp_ne (tgt := 177) hx hb d_M_tells_170 (by decide) (fun c45 => ?_) (fun c45 => ?_)
    · have h := if_f c45 h
      refine lv_iconst (v := 0) hx hb d_M_tells_177 (by decide) ?_
      exact b_178 M0 (0 : Int32) (30075 : Int32) (30076 : Int32) j0 _ _ _ h (by decide) hj0 hwf hkp hP hD hS (lv_sub hl [1] rfl)
    have h := if_t c45 h
    refine lv_iconst (v := 1) hx hb d_M_tells_173 (by decide) ?_
    refine lv_goto (tgt := 178) hx hb d_M_tells_174 (by decide) ?_
    exact b_178 M0 (1 : Int32) (30075 : Int32) (30076 : Int32) j0 _ _ _ h (by decide) hj0 hwf hkp hP hD hS (lv_sub hl [1] rfl)
  have h := if_f (fun z => n44 (ew20.trans z)) h
  have in21 := lv_neT n21 (show (0 : Int32).toInt = 0 from rfl)
  have in24 := lv_neT n24 (show (1 : Int32).toInt = 1 from rfl)
  have in26 := lv_neT n26 (show (2 : Int32).toInt = 2 from rfl)
  have in28 := lv_neT n28 (show (3 : Int32).toInt = 3 from rfl)
  have in31 := lv_neT n31 (show (4 : Int32).toInt = 4 from rfl)
  have in34 := lv_neT n34 (show (5 : Int32).toInt = 5 from rfl)
  have in36 := lv_neT n36 (show (6 : Int32).toInt = 6 from rfl)
  have in38 := lv_neT n38 (show (7 : Int32).toInt = 7 from rfl)
  have in40 := lv_neT n40 (show (8 : Int32).toInt = 8 from rfl)
  have in42 := lv_neT n42 (show (9 : Int32).toInt = 9 from rfl)
  have in44 := lv_neT n44 (show (10 : Int32).toInt = 10 from rfl)
  refine lv_tableOut (tgt := 186) hx hb d_M_tells_3 (by omega) (by decide) ?_
  refine lv_aload_n hx hb d_M_tells_186 rfl (lv_at hl 1 rfl) ?_
  obtain ⟨M46, r47, eM46, h⟩ := b2_ob h
  refine me_theni0 (M1 := M46) (me_runV (C := "FilterGuardModel") (As := []) (rest := []) ⟨hx, hb, hml, hown, hts⟩ (c_M_misses l D ad ca N M0 M46 r47 j0 eM46 hwf hj0 _) rfl (by show fg_nm y_M_misses 0; decide +kernel) u_2266 u_2268 u_139 u_192 u_2269 ⟨Nat.le_of_ble_eq_true rfl, Nat.le_of_ble_eq_true rfl⟩ hX hz hK hP hD hwf hS hA hj0 (by decide) rfl rfl rfl hl.1 (Nat.le_of_ble_eq_true rfl) d_M_tells_187 ⟨Nat.le_of_ble_eq_true rfl, Nat.le_of_ble_eq_true rfl⟩) hP hD hK hS hA rfl rfl (fun H locs hw hP hD hS => ?_)
  obtain ⟨hwf, hk9, zr47⟩ := hw
  have hkp := hkp.tr hk9
  refine lv_istore_n (lv' := [(2, .int r47), (0, .ref (ad 1 j0)), (1, .int x1)]) hx hb d_M_tells_190 rfl hl (by decide) rfl (fun ls hl => ?_)
  exact b_191 M46 r47 _ _ _ h zr47 hwf hkp hP hD hS (lv_sub hl [1, 0] rfl)
theorem d_M_operate_36 : decode prog_14_method_41_code 36 = .ok (.aload_n 0, 1) := by decide +kernel
theorem d_M_operate_37 : decode prog_14_method_41_code 37 = .ok (.iload_n 2, 1) := by decide +kernel
theorem d_M_operate_38 : decode prog_14_method_41_code 38 = .ok (.iload 5, 2) := by decide +kernel
theorem d_M_operate_40 : decode prog_14_method_41_code 40 = .ok (.invokevirtual 294, 3) := by decide +kernel
theorem u_2324 : Cond.methodLink "FilterGuardModel" 294 ⟨"FilterGuardModel", "does", "(IZ)V"⟩ ∈ fg_g := fg_in (List.mem_of_getElem? (i := 2324) (by decide +kernel)) rfl
theorem u_2327 : Cond.code ⟨"FilterGuardModel", "does", "(IZ)V"⟩ prog_14_method_31_code 3 none ∈ fg_g := fg_in (List.mem_of_getElem? (i := 2327) (by decide +kernel)) rfl
theorem u_2326 : Cond.instanceMethod ⟨"FilterGuardModel", "does", "(IZ)V"⟩ ∈ fg_g := fg_in (List.mem_of_getElem? (i := 2326) (by decide +kernel)) rfl
theorem u_152 : Cond.selects "FilterGuardModel" ⟨"FilterGuardModel", "does", "(IZ)V"⟩ ⟨"FilterGuardModel", "does", "(IZ)V"⟩ ∈ fg_g := fg_in (List.mem_of_getElem? (i := 152) (by decide +kernel)) rfl
theorem d_M_operate_43 : decode prog_14_method_41_code 43 = .ok (.iload 5, 2) := by decide +kernel
theorem d_M_operate_45 : decode prog_14_method_41_code 45 = .ok (.ifCond .eq 10, 3) := by decide +kernel
theorem d_M_operate_55 : decode prog_14_method_41_code 55 = .ok (.aload_n 0, 1) := by decide +kernel
theorem d_M_operate_56 : decode prog_14_method_41_code 56 = .ok (.sipush 30077, 3) := by decide +kernel
theorem d_M_operate_59 : decode prog_14_method_41_code 59 = .ok (.iload_n 1, 1) := by decide +kernel
theorem d_M_operate_60 : decode prog_14_method_41_code 60 = .ok (.invokevirtual 208, 3) := by decide +kernel
theorem d_M_operate_63 : decode prog_14_method_41_code 63 = .ok (.return_, 1) := by decide +kernel
theorem d_M_operate_48 : decode prog_14_method_41_code 48 = .ok (.aload_n 0, 1) := by decide +kernel
theorem d_M_operate_49 : decode prog_14_method_41_code 49 = .ok (.sipush 30077, 3) := by decide +kernel
theorem d_M_operate_52 : decode prog_14_method_41_code 52 = .ok (.invokevirtual 291, 3) := by decide +kernel
theorem u_2231 : Cond.methodLink "FilterGuardModel" 291 ⟨"FilterGuardModel", "narrow", "(I)V"⟩ ∈ fg_g := fg_in (List.mem_of_getElem? (i := 2231) (by decide +kernel)) rfl
theorem u_2234 : Cond.code ⟨"FilterGuardModel", "narrow", "(I)V"⟩ prog_14_method_32_code 12 none ∈ fg_g := fg_in (List.mem_of_getElem? (i := 2234) (by decide +kernel)) rfl
theorem u_2233 : Cond.instanceMethod ⟨"FilterGuardModel", "narrow", "(I)V"⟩ ∈ fg_g := fg_in (List.mem_of_getElem? (i := 2233) (by decide +kernel)) rfl
theorem u_131 : Cond.selects "FilterGuardModel" ⟨"FilterGuardModel", "narrow", "(I)V"⟩ ⟨"FilterGuardModel", "narrow", "(I)V"⟩ ∈ fg_g := fg_in (List.mem_of_getElem? (i := 131) (by decide +kernel)) rfl
theorem d_M_operate_0 : decode prog_14_method_41_code 0 = .ok (.aload_n 0, 1) := by decide +kernel
theorem d_M_operate_1 : decode prog_14_method_41_code 1 = .ok (.iload_n 3, 1) := by decide +kernel
theorem d_M_operate_2 : decode prog_14_method_41_code 2 = .ok (.sipush 30075, 3) := by decide +kernel
theorem d_M_operate_5 : decode prog_14_method_41_code 5 = .ok (.invokevirtual 208, 3) := by decide +kernel
theorem d_M_operate_8 : decode prog_14_method_41_code 8 = .ok (.aload_n 0, 1) := by decide +kernel
theorem d_M_operate_9 : decode prog_14_method_41_code 9 = .ok (.iload 4, 2) := by decide +kernel
theorem d_M_operate_11 : decode prog_14_method_41_code 11 = .ok (.sipush 30076, 3) := by decide +kernel
theorem d_M_operate_14 : decode prog_14_method_41_code 14 = .ok (.invokevirtual 208, 3) := by decide +kernel
theorem d_M_operate_17 : decode prog_14_method_41_code 17 = .ok (.iload 5, 2) := by decide +kernel
theorem d_M_operate_19 : decode prog_14_method_41_code 19 = .ok (.ifCond .eq 17, 3) := by decide +kernel
theorem d_M_operate_22 : decode prog_14_method_41_code 22 = .ok (.aload_n 0, 1) := by decide +kernel
theorem d_M_operate_23 : decode prog_14_method_41_code 23 = .ok (.sipush 30075, 3) := by decide +kernel
theorem d_M_operate_26 : decode prog_14_method_41_code 26 = .ok (.invokevirtual 291, 3) := by decide +kernel
theorem d_M_operate_29 : decode prog_14_method_41_code 29 = .ok (.aload_n 0, 1) := by decide +kernel
theorem d_M_operate_30 : decode prog_14_method_41_code 30 = .ok (.sipush 30076, 3) := by decide +kernel
theorem d_M_operate_33 : decode prog_14_method_41_code 33 = .ok (.invokevirtual 291, 3) := by decide +kernel
abbrev y_M_operate : MethodName := ⟨"FilterGuardModel", "operate", "(IIIIZ)V"⟩
def f_M_operate_b36 (j0 : Nat) (x1 : Int32) (x2 : Int32) (x5 : Int32) (M : me_M) : Option me_M := bd (f_M_does1 M j0 x2 x5) (fun (M1 : me_M) => (if x5 = 0 then bd (f_M_copyNumber M1 j0 (30077 : Int32) x1) (fun (M3 : me_M) => some M3) else bd (f_M_narrow M1 j0 (30077 : Int32)) (fun (M4 : me_M) => bd (f_M_copyNumber M4 j0 (30077 : Int32) x1) (fun (M5 : me_M) => some M5))))
def f_M_operate (M0 : me_M) (j0 : Nat) (x1 : Int32) (x2 : Int32) (x3 : Int32) (x4 : Int32) (x5 : Int32) : Option me_M := bd (f_M_copyNumber M0 j0 x3 (30075 : Int32)) (fun (M6 : me_M) => bd (f_M_copyNumber M6 j0 x4 (30076 : Int32)) (fun (M7 : me_M) => (if x5 = 0 then f_M_operate_b36 j0 x1 x2 x5 M7 else bd (f_M_narrow M7 j0 (30075 : Int32)) (fun (M9 : me_M) => bd (f_M_narrow M9 j0 (30076 : Int32)) (fun (M10 : me_M) => f_M_operate_b36 j0 x1 x2 x5 M10)))))
def rm_M_operate : Room := { frames := 6, cells := 0, slots := 0, locals := 141 }
abbrev q_M_operate (D : va_G) (ad : Nat → Nat → Nat) (ca : Nat → ClassId) (N : Nat → Nat) (M0 MZ : me_M) (A : Nat → Prop) : Array Value → Jvm.State → Outcome → Jvm.State → Prop := va_Qv (fun (_ : Unit) => me_wf N MZ ∧ me_kp M0 MZ) (fg_B D A (fun _ => me_W ad ca MZ) (fun _ => [])) A
set_option maxHeartbeats 4000000 in
set_option maxRecDepth 100000 in
theorem c_M_operate (l : Launch) (D : va_G) (ad : Nat → Nat → Nat) (ca : Nat → ClassId) (N : Nat → Nat) (M0 MZ : me_M) (j0 : Nat) (x1 : Int32) (x2 : Int32) (x3 : Int32) (x4 : Int32) (x5 : Int32) (h : f_M_operate M0 j0 x1 x2 x3 x4 x5 = (some MZ)) (hwf : me_wf N M0) (hj0 : j0 < N 1) (zx5 : x5 = 1 ∨ x5 = 0) (sz : Nat) : Met l y_M_operate (fg_w y_M_operate prog_14_method_41_code 6 none) rm_M_operate (va_Pc [.ref (ad 1 j0), .int x1, .int x2, .int x3, .int x4, .int x5] (fz_P D (me_T ca) (me_W ad ca M0) sz)) (q_M_operate D ad ca N M0 MZ (va_A (me_W ad ca M0) sz)) rm_M_operate.cells rm_M_operate.slots (va_A (me_W ad ca M0) sz) := by
  refine fz_enter (fun A => q_M_operate D ad ca N M0 MZ A) (by decide +kernel) (Nat.le_of_ble_eq_true rfl) ?_
  intro p e s m below meth c ls A hx hb hml hown hts hr hlocks hin hP hK hD hS hA hX hl hz
  have hl : lv_has ls 6 [(0, .ref (ad 1 j0)), (1, .int x1), (2, .int x2), (3, .int x3), (4, .int x4), (5, .int x5)] := hl
  unfold f_M_operate at h
  have hkp : me_kp M0 M0 := me_kp.rf
  have hkb := hkp
  have b_36 : ∀ (M : me_M) (H : Heap) (locs : List Loc) (ls : Array Slot), f_M_operate_b36 j0 x1 x2 x5 M = (some MZ) → me_wf N M → me_kp M0 M → va_P D classes (me_W ad ca M) H → va_D A (me_W ad ca M) → va_S A s.heap H locs → lv_has ls 6 [(0, .ref (ad 1 j0)), (1, .int x1), (2, .int x2), (5, .int x5)] → W p l e rm_M_operate s m [.ref (ad 1 j0), .int x1, .int x2, .int x3, .int x4, .int x5].toArray below meth c H locs 0 0 (MQ below (q_M_operate D ad ca N M0 MZ A) [.ref (ad 1 j0), .int x1, .int x2, .int x3, .int x4, .int x5].toArray s rm_M_operate.cells rm_M_operate.slots A) (F0 m 36 ls []) := by
    intro M H locs ls h hwf hkp hP hD hS hl
    unfold f_M_operate_b36 at h
    have hkb := hkp
    refine lv_aload_n hx hb d_M_operate_36 rfl (lv_at hl 0 rfl) ?_
    refine lv_iload_n hx hb d_M_operate_37 rfl (lv_at hl 2 rfl) ?_
    refine lv_iload hx hb d_M_operate_38 (lv_at hl 3 rfl) ?_
    obtain ⟨M1, eM1, h⟩ := bd_ob h
    refine me_thenv0 (M1 := M1) (me_runV (C := "FilterGuardModel") (As := [.int x2, .int x5]) (rest := []) ⟨hx, hb, hml, hown, hts⟩ (c_M_does1 l D ad ca N M M1 j0 x2 x5 eM1 hwf hj0 zx5 _) rfl (by show fg_nm y_M_does1 2; decide +kernel) u_2324 u_2326 u_152 u_192 u_2327 ⟨Nat.le_of_ble_eq_true rfl, Nat.le_of_ble_eq_true rfl⟩ hX hz hK hP hD hwf hS hA hj0 (by decide) rfl rfl rfl hl.1 (Nat.le_of_ble_eq_true rfl) d_M_operate_40 ⟨Nat.le_of_ble_eq_true rfl, Nat.le_of_ble_eq_true rfl⟩) hP hD hK hS hA rfl rfl (fun H locs hw hP hD hS => ?_)
    obtain ⟨hwf, hk9⟩ := hw
    have hkp := hkp.tr hk9
    refine lv_iload hx hb d_M_operate_43 (lv_at hl 3 rfl) ?_
    refine lv_if_eq (tgt := 55) hx hb d_M_operate_45 (by decide) (fun c2 => ?_) (fun c2 => ?_)
    · have h := if_t c2 h
      refine lv_aload_n hx hb d_M_operate_55 rfl (lv_at hl 0 rfl) ?_
      refine lv_sipush (v := 30077) hx hb d_M_operate_56 (by decide) ?_
      refine lv_iload_n hx hb d_M_operate_59 rfl (lv_at hl 1 rfl) ?_
      obtain ⟨M3, eM3, h⟩ := bd_ob h
      refine me_thenv0 (M1 := M3) (me_runV (C := "FilterGuardModel") (As := [.int 30077, .int x1]) (rest := []) ⟨hx, hb, hml, hown, hts⟩ (c_M_copyNumber l D ad ca N M1 M3 j0 (30077 : Int32) x1 eM3 hwf hj0 _) rfl (by show fg_nm y_M_copyNumber 2; decide +kernel) u_2096 u_2098 u_103 u_192 u_2099 ⟨Nat.le_of_ble_eq_true rfl, Nat.le_of_ble_eq_true rfl⟩ hX hz hK hP hD hwf hS hA hj0 (by decide) rfl rfl rfl hl.1 (Nat.le_of_ble_eq_true rfl) d_M_operate_60 ⟨Nat.le_of_ble_eq_true rfl, Nat.le_of_ble_eq_true rfl⟩) hP hD hK hS hA rfl rfl (fun H locs hw hP hD hS => ?_)
      obtain ⟨hwf, hk9⟩ := hw
      have hkp := hkp.tr hk9
      cases h
      exact fg_retv () hx hb hr hlocks ⟨hwf, hkp⟩ hP (hK.sub (tys' := []) [] rfl) hD hS (Nat.le_of_ble_eq_true rfl) (Nat.le_of_ble_eq_true rfl) d_M_operate_63
    have h := if_f c2 h
    refine lv_aload_n hx hb d_M_operate_48 rfl (lv_at hl 0 rfl) ?_
    refine lv_sipush (v := 30077) hx hb d_M_operate_49 (by decide) ?_
    obtain ⟨M4, eM4, h⟩ := bd_ob h
    refine me_thenv0 (M1 := M4) (me_runV (C := "FilterGuardModel") (As := [.int 30077]) (rest := []) ⟨hx, hb, hml, hown, hts⟩ (c_M_narrow l D ad ca N M1 M4 j0 (30077 : Int32) eM4 hwf hj0 _) rfl (by show fg_nm y_M_narrow 1; decide +kernel) u_2231 u_2233 u_131 u_192 u_2234 ⟨Nat.le_of_ble_eq_true rfl, Nat.le_of_ble_eq_true rfl⟩ hX hz hK hP hD hwf hS hA hj0 (by decide) rfl rfl rfl hl.1 (Nat.le_of_ble_eq_true rfl) d_M_operate_52 ⟨Nat.le_of_ble_eq_true rfl, Nat.le_of_ble_eq_true rfl⟩) hP hD hK hS hA rfl rfl (fun H locs hw hP hD hS => ?_)
    obtain ⟨hwf, hk9⟩ := hw
    have hkp := hkp.tr hk9
    refine lv_aload_n hx hb d_M_operate_55 rfl (lv_at hl 0 rfl) ?_
    refine lv_sipush (v := 30077) hx hb d_M_operate_56 (by decide) ?_
    refine lv_iload_n hx hb d_M_operate_59 rfl (lv_at hl 1 rfl) ?_
    obtain ⟨M5, eM5, h⟩ := bd_ob h
    refine me_thenv0 (M1 := M5) (me_runV (C := "FilterGuardModel") (As := [.int 30077, .int x1]) (rest := []) ⟨hx, hb, hml, hown, hts⟩ (c_M_copyNumber l D ad ca N M4 M5 j0 (30077 : Int32) x1 eM5 hwf hj0 _) rfl (by show fg_nm y_M_copyNumber 2; decide +kernel) u_2096 u_2098 u_103 u_192 u_2099 ⟨Nat.le_of_ble_eq_true rfl, Nat.le_of_ble_eq_true rfl⟩ hX hz hK hP hD hwf hS hA hj0 (by decide) rfl rfl rfl hl.1 (Nat.le_of_ble_eq_true rfl) d_M_operate_60 ⟨Nat.le_of_ble_eq_true rfl, Nat.le_of_ble_eq_true rfl⟩) hP hD hK hS hA rfl rfl (fun H locs hw hP hD hS => ?_)
    obtain ⟨hwf, hk9⟩ := hw
    have hkp := hkp.tr hk9
    cases h
    exact fg_retv () hx hb hr hlocks ⟨hwf, hkp⟩ hP (hK.sub (tys' := []) [] rfl) hD hS (Nat.le_of_ble_eq_true rfl) (Nat.le_of_ble_eq_true rfl) d_M_operate_63
  refine lv_aload_n hx hb d_M_operate_0 rfl (lv_at hl 0 rfl) ?_
  refine lv_iload_n hx hb d_M_operate_1 rfl (lv_at hl 3 rfl) ?_
  refine lv_sipush (v := 30075) hx hb d_M_operate_2 (by decide) ?_
  obtain ⟨M6, eM6, h⟩ := bd_ob h
  refine me_thenv0 (M1 := M6) (me_runV (C := "FilterGuardModel") (As := [.int x3, .int 30075]) (rest := []) ⟨hx, hb, hml, hown, hts⟩ (c_M_copyNumber l D ad ca N M0 M6 j0 x3 (30075 : Int32) eM6 hwf hj0 _) rfl (by show fg_nm y_M_copyNumber 2; decide +kernel) u_2096 u_2098 u_103 u_192 u_2099 ⟨Nat.le_of_ble_eq_true rfl, Nat.le_of_ble_eq_true rfl⟩ hX hz hK hP hD hwf hS hA hj0 (by decide) rfl rfl rfl hl.1 (Nat.le_of_ble_eq_true rfl) d_M_operate_5 ⟨Nat.le_of_ble_eq_true rfl, Nat.le_of_ble_eq_true rfl⟩) hP hD hK hS hA rfl rfl (fun H locs hw hP hD hS => ?_)
  obtain ⟨hwf, hk9⟩ := hw
  have hkp := hkp.tr hk9
  refine lv_aload_n hx hb d_M_operate_8 rfl (lv_at hl 0 rfl) ?_
  refine lv_iload hx hb d_M_operate_9 (lv_at hl 4 rfl) ?_
  refine lv_sipush (v := 30076) hx hb d_M_operate_11 (by decide) ?_
  obtain ⟨M7, eM7, h⟩ := bd_ob h
  refine me_thenv0 (M1 := M7) (me_runV (C := "FilterGuardModel") (As := [.int x4, .int 30076]) (rest := []) ⟨hx, hb, hml, hown, hts⟩ (c_M_copyNumber l D ad ca N M6 M7 j0 x4 (30076 : Int32) eM7 hwf hj0 _) rfl (by show fg_nm y_M_copyNumber 2; decide +kernel) u_2096 u_2098 u_103 u_192 u_2099 ⟨Nat.le_of_ble_eq_true rfl, Nat.le_of_ble_eq_true rfl⟩ hX hz hK hP hD hwf hS hA hj0 (by decide) rfl rfl rfl hl.1 (Nat.le_of_ble_eq_true rfl) d_M_operate_14 ⟨Nat.le_of_ble_eq_true rfl, Nat.le_of_ble_eq_true rfl⟩) hP hD hK hS hA rfl rfl (fun H locs hw hP hD hS => ?_)
  obtain ⟨hwf, hk9⟩ := hw
  have hkp := hkp.tr hk9
  refine lv_iload hx hb d_M_operate_17 (lv_at hl 5 rfl) ?_
  refine lv_if_eq (tgt := 36) hx hb d_M_operate_19 (by decide) (fun c8 => ?_) (fun c8 => ?_)
  · have h := if_t c8 h
    exact b_36 M7 _ _ _ h hwf hkp hP hD hS (lv_sub hl [0, 1, 2, 5] rfl)
  have h := if_f c8 h
  refine lv_aload_n hx hb d_M_operate_22 rfl (lv_at hl 0 rfl) ?_
  refine lv_sipush (v := 30075) hx hb d_M_operate_23 (by decide) ?_
  obtain ⟨M9, eM9, h⟩ := bd_ob h
  refine me_thenv0 (M1 := M9) (me_runV (C := "FilterGuardModel") (As := [.int 30075]) (rest := []) ⟨hx, hb, hml, hown, hts⟩ (c_M_narrow l D ad ca N M7 M9 j0 (30075 : Int32) eM9 hwf hj0 _) rfl (by show fg_nm y_M_narrow 1; decide +kernel) u_2231 u_2233 u_131 u_192 u_2234 ⟨Nat.le_of_ble_eq_true rfl, Nat.le_of_ble_eq_true rfl⟩ hX hz hK hP hD hwf hS hA hj0 (by decide) rfl rfl rfl hl.1 (Nat.le_of_ble_eq_true rfl) d_M_operate_26 ⟨Nat.le_of_ble_eq_true rfl, Nat.le_of_ble_eq_true rfl⟩) hP hD hK hS hA rfl rfl (fun H locs hw hP hD hS => ?_)
  obtain ⟨hwf, hk9⟩ := hw
  have hkp := hkp.tr hk9
  refine lv_aload_n hx hb d_M_operate_29 rfl (lv_at hl 0 rfl) ?_
  refine lv_sipush (v := 30076) hx hb d_M_operate_30 (by decide) ?_
  obtain ⟨M10, eM10, h⟩ := bd_ob h
  refine me_thenv0 (M1 := M10) (me_runV (C := "FilterGuardModel") (As := [.int 30076]) (rest := []) ⟨hx, hb, hml, hown, hts⟩ (c_M_narrow l D ad ca N M9 M10 j0 (30076 : Int32) eM10 hwf hj0 _) rfl (by show fg_nm y_M_narrow 1; decide +kernel) u_2231 u_2233 u_131 u_192 u_2234 ⟨Nat.le_of_ble_eq_true rfl, Nat.le_of_ble_eq_true rfl⟩ hX hz hK hP hD hwf hS hA hj0 (by decide) rfl rfl rfl hl.1 (Nat.le_of_ble_eq_true rfl) d_M_operate_33 ⟨Nat.le_of_ble_eq_true rfl, Nat.le_of_ble_eq_true rfl⟩) hP hD hK hS hA rfl rfl (fun H locs hw hP hD hS => ?_)
  obtain ⟨hwf, hk9⟩ := hw
  have hkp := hkp.tr hk9
  exact b_36 M10 _ _ _ h hwf hkp hP hD hS (lv_sub hl [0, 1, 2, 5] rfl)
