theorem d_M_toUnsigned_77 : decode prog_14_method_15_code 77 = .ok (.aload_n 0, 1) := by decide +kernel
theorem d_M_toUnsigned_78 : decode prog_14_method_15_code 78 = .ok (.iload_n 1, 1) := by decide +kernel
theorem d_M_toUnsigned_79 : decode prog_14_method_15_code 79 = .ok (.invokevirtual 173, 3) := by decide +kernel
theorem d_M_toUnsigned_82 : decode prog_14_method_15_code 82 = .ok (.ifCond .ne 7, 3) := by decide +kernel
theorem d_M_toUnsigned_89 : decode prog_14_method_15_code 89 = .ok (.iconst 0, 1) := by decide +kernel
theorem d_M_toUnsigned_90 : decode prog_14_method_15_code 90 = .ok (.ireturn, 1) := by decide +kernel
theorem d_M_toUnsigned_85 : decode prog_14_method_15_code 85 = .ok (.iconst 1, 1) := by decide +kernel
theorem d_M_toUnsigned_86 : decode prog_14_method_15_code 86 = .ok (.goto 4, 3) := by decide +kernel
theorem d_M_toUnsigned_32 : decode prog_14_method_15_code 32 = .ok (.if_icmp .ne 45, 3) := by decide +kernel
theorem d_M_toUnsigned_35 : decode prog_14_method_15_code 35 = .ok (.aload_n 0, 1) := by decide +kernel
theorem d_M_toUnsigned_36 : decode prog_14_method_15_code 36 = .ok (.getfield 110, 3) := by decide +kernel
theorem d_M_toUnsigned_39 : decode prog_14_method_15_code 39 = .ok (.iload_n 1, 1) := by decide +kernel
theorem d_M_toUnsigned_40 : decode prog_14_method_15_code 40 = .ok (.aload_n 0, 1) := by decide +kernel
theorem d_M_toUnsigned_41 : decode prog_14_method_15_code 41 = .ok (.getfield 110, 3) := by decide +kernel
theorem d_M_toUnsigned_44 : decode prog_14_method_15_code 44 = .ok (.iload_n 1, 1) := by decide +kernel
theorem d_M_toUnsigned_45 : decode prog_14_method_15_code 45 = .ok (.laload, 1) := by decide +kernel
theorem d_M_toUnsigned_46 : decode prog_14_method_15_code 46 = .ok (.aload_n 0, 1) := by decide +kernel
theorem d_M_toUnsigned_47 : decode prog_14_method_15_code 47 = .ok (.getfield 116, 3) := by decide +kernel
theorem d_M_toUnsigned_50 : decode prog_14_method_15_code 50 = .ok (.iload_n 1, 1) := by decide +kernel
theorem d_M_toUnsigned_51 : decode prog_14_method_15_code 51 = .ok (.laload, 1) := by decide +kernel
theorem d_M_toUnsigned_52 : decode prog_14_method_15_code 52 = .ok (.invokestatic 166, 3) := by decide +kernel
theorem d_M_toUnsigned_55 : decode prog_14_method_15_code 55 = .ok (.lastore, 1) := by decide +kernel
theorem d_M_toUnsigned_56 : decode prog_14_method_15_code 56 = .ok (.aload_n 0, 1) := by decide +kernel
theorem d_M_toUnsigned_57 : decode prog_14_method_15_code 57 = .ok (.getfield 113, 3) := by decide +kernel
theorem d_M_toUnsigned_60 : decode prog_14_method_15_code 60 = .ok (.iload_n 1, 1) := by decide +kernel
theorem d_M_toUnsigned_61 : decode prog_14_method_15_code 61 = .ok (.aload_n 0, 1) := by decide +kernel
theorem d_M_toUnsigned_62 : decode prog_14_method_15_code 62 = .ok (.getfield 113, 3) := by decide +kernel
theorem d_M_toUnsigned_65 : decode prog_14_method_15_code 65 = .ok (.iload_n 1, 1) := by decide +kernel
theorem d_M_toUnsigned_66 : decode prog_14_method_15_code 66 = .ok (.laload, 1) := by decide +kernel
theorem d_M_toUnsigned_67 : decode prog_14_method_15_code 67 = .ok (.aload_n 0, 1) := by decide +kernel
theorem d_M_toUnsigned_68 : decode prog_14_method_15_code 68 = .ok (.getfield 119, 3) := by decide +kernel
theorem d_M_toUnsigned_71 : decode prog_14_method_15_code 71 = .ok (.iload_n 1, 1) := by decide +kernel
theorem d_M_toUnsigned_72 : decode prog_14_method_15_code 72 = .ok (.laload, 1) := by decide +kernel
theorem d_M_toUnsigned_73 : decode prog_14_method_15_code 73 = .ok (.invokestatic 170, 3) := by decide +kernel
theorem d_M_toUnsigned_76 : decode prog_14_method_15_code 76 = .ok (.lastore, 1) := by decide +kernel
theorem d_M_toUnsigned_16 : decode prog_14_method_15_code 16 = .ok (.aload_n 0, 1) := by decide +kernel
theorem d_M_toUnsigned_17 : decode prog_14_method_15_code 17 = .ok (.getfield 119, 3) := by decide +kernel
theorem d_M_toUnsigned_20 : decode prog_14_method_15_code 20 = .ok (.iload_n 1, 1) := by decide +kernel
theorem d_M_toUnsigned_21 : decode prog_14_method_15_code 21 = .ok (.laload, 1) := by decide +kernel
theorem d_M_toUnsigned_22 : decode prog_14_method_15_code 22 = .ok (.lconst 0, 1) := by decide +kernel
theorem d_M_toUnsigned_23 : decode prog_14_method_15_code 23 = .ok (.lcmp, 1) := by decide +kernel
theorem d_M_toUnsigned_24 : decode prog_14_method_15_code 24 = .ok (.ifCond .ge 7, 3) := by decide +kernel
theorem d_M_toUnsigned_31 : decode prog_14_method_15_code 31 = .ok (.iconst 0, 1) := by decide +kernel
theorem d_M_toUnsigned_27 : decode prog_14_method_15_code 27 = .ok (.iconst 1, 1) := by decide +kernel
theorem d_M_toUnsigned_28 : decode prog_14_method_15_code 28 = .ok (.goto 4, 3) := by decide +kernel
theorem d_M_toUnsigned_0 : decode prog_14_method_15_code 0 = .ok (.aload_n 0, 1) := by decide +kernel
theorem d_M_toUnsigned_1 : decode prog_14_method_15_code 1 = .ok (.getfield 116, 3) := by decide +kernel
theorem d_M_toUnsigned_4 : decode prog_14_method_15_code 4 = .ok (.iload_n 1, 1) := by decide +kernel
theorem d_M_toUnsigned_5 : decode prog_14_method_15_code 5 = .ok (.laload, 1) := by decide +kernel
theorem d_M_toUnsigned_6 : decode prog_14_method_15_code 6 = .ok (.lconst 0, 1) := by decide +kernel
theorem d_M_toUnsigned_7 : decode prog_14_method_15_code 7 = .ok (.lcmp, 1) := by decide +kernel
theorem d_M_toUnsigned_8 : decode prog_14_method_15_code 8 = .ok (.ifCond .ge 7, 3) := by decide +kernel
theorem d_M_toUnsigned_15 : decode prog_14_method_15_code 15 = .ok (.iconst 0, 1) := by decide +kernel
theorem d_M_toUnsigned_11 : decode prog_14_method_15_code 11 = .ok (.iconst 1, 1) := by decide +kernel
theorem d_M_toUnsigned_12 : decode prog_14_method_15_code 12 = .ok (.goto 4, 3) := by decide +kernel
abbrev y_M_toUnsigned : MethodName := ⟨"FilterGuardModel", "toUnsigned", "(I)Z"⟩
def f_M_toUnsigned_b77 (j0 : Nat) (x1 : Int32) (M : me_M) : Option (me_M × Int32) := b2 (f_M_isEmpty M j0 x1) (fun (M1 : me_M) (r2 : Int32) => (if r2 = 0 then some (M1, (1 : Int32)) else some (M1, (0 : Int32))))
def f_M_toUnsigned_b32 (j0 : Nat) (x1 : Int32) (M : me_M) (s0 : Int32) (s1 : Int32) : Option (me_M × Int32) := (if s1 = s0 then bd (mR M 1 j0 54) (fun (j7 : Nat) => bd (mR M 1 j0 54) (fun (j9 : Nat) => gd (¬ (x1 < 0 ∨ mZ M 16 j9 ≤ x1.toNatClampNeg)) (bd (mR M 1 j0 56) (fun (j12 : Nat) => gd (¬ (x1 < 0 ∨ mZ M 16 j12 ≤ x1.toNatClampNeg)) (bd (f_M_greater (mL M 16 j9 x1.toNatClampNeg) (mL M 16 j12 x1.toNatClampNeg)) (fun (r15 : Int64) => gd (¬ (x1 < 0 ∨ mZ M 16 j7 ≤ x1.toNatClampNeg)) (st (wL M 16 j7 x1.toNatClampNeg r15) (fun (M17 : me_M) => bd (mR M17 1 j0 55) (fun (j18 : Nat) => bd (mR M17 1 j0 55) (fun (j20 : Nat) => gd (¬ (x1 < 0 ∨ mZ M17 16 j20 ≤ x1.toNatClampNeg)) (bd (mR M17 1 j0 57) (fun (j23 : Nat) => gd (¬ (x1 < 0 ∨ mZ M17 16 j23 ≤ x1.toNatClampNeg)) (bd (f_M_lesser (mL M17 16 j20 x1.toNatClampNeg) (mL M17 16 j23 x1.toNatClampNeg)) (fun (r26 : Int64) => gd (¬ (x1 < 0 ∨ mZ M17 16 j18 ≤ x1.toNatClampNeg)) (st (wL M17 16 j18 x1.toNatClampNeg r26) (fun (M28 : me_M) => f_M_toUnsigned_b77 j0 x1 M28)))))))))))))))) else f_M_toUnsigned_b77 j0 x1 M)
def f_M_toUnsigned_b16 (j0 : Nat) (x1 : Int32) (M : me_M) (s0 : Int32) : Option (me_M × Int32) := bd (mR M 1 j0 57) (fun (j29 : Nat) => gd (¬ (x1 < 0 ∨ mZ M 16 j29 ≤ x1.toNatClampNeg)) ((if (mL M 16 j29 x1.toNatClampNeg) < 0 then f_M_toUnsigned_b32 j0 x1 M (1 : Int32) s0 else f_M_toUnsigned_b32 j0 x1 M (0 : Int32) s0)))
def f_M_toUnsigned (M : me_M) (j0 : Nat) (x1 : Int32) : Option (me_M × Int32) := bd (mR M 1 j0 56) (fun (j33 : Nat) => gd (¬ (x1 < 0 ∨ mZ M 16 j33 ≤ x1.toNatClampNeg)) ((if (mL M 16 j33 x1.toNatClampNeg) < 0 then f_M_toUnsigned_b16 j0 x1 M (1 : Int32) else f_M_toUnsigned_b16 j0 x1 M (0 : Int32))))
def rm_M_toUnsigned : Room := { frames := 3, cells := 0, slots := 0, locals := 66 }
abbrev q_M_toUnsigned (D : va_G) (ad : Nat → Nat → Nat) (ca : Nat → ClassId) (N : Nat → Nat) (M9 : me_M) (r9 : Int32) (A : Nat → Prop) : Array Value → Jvm.State → Outcome → Jvm.State → Prop := va_Qi (fun r (_ : Unit) => r = r9 ∧ me_wf N M9 ∧ (r9 = 1 ∨ r9 = 0)) (fg_B D A (fun _ => me_W ad ca M9) (fun _ => [])) A
set_option maxHeartbeats 4000000 in
set_option maxRecDepth 100000 in
theorem c_M_toUnsigned (l : Launch) (D : va_G) (ad : Nat → Nat → Nat) (ca : Nat → ClassId) (N : Nat → Nat) (M M9 : me_M) (r9 : Int32) (j0 : Nat) (x1 : Int32) (h : f_M_toUnsigned M j0 x1 = (some (M9, r9))) (hwf : me_wf N M) (hj0 : j0 < N 1) (sz : Nat) : Met l y_M_toUnsigned (fg_w y_M_toUnsigned prog_14_method_15_code 2 (some .boolean)) rm_M_toUnsigned (va_Pc [.ref (ad 1 j0), .int x1] (fz_P D (me_T ca) (me_W ad ca M) sz)) (q_M_toUnsigned D ad ca N M9 r9 (va_A (me_W ad ca M) sz)) rm_M_toUnsigned.cells rm_M_toUnsigned.slots (va_A (me_W ad ca M) sz) := by
  refine fz_enter (fun A => q_M_toUnsigned D ad ca N M9 r9 A) (by decide +kernel) (Nat.le_of_ble_eq_true rfl) ?_
  intro p e s m below meth c ls A hx hb hml hown hts hr hlocks hin hP hK hD hS hA hX hl hz
  have hl : lv_has ls 2 [(0, .ref (ad 1 j0)), (1, .int x1)] := hl
  unfold f_M_toUnsigned at h
  have b_77 : ∀ (M : me_M) (H : Heap) (locs : List Loc) (ls : Array Slot), f_M_toUnsigned_b77 j0 x1 M = (some (M9, r9)) → me_wf N M → va_P D classes (me_W ad ca M) H → va_D A (me_W ad ca M) → va_S A s.heap H locs → lv_has ls 2 [(0, .ref (ad 1 j0)), (1, .int x1)] → W p l e rm_M_toUnsigned s m [.ref (ad 1 j0), .int x1].toArray below meth c H locs 0 0 (MQ below (q_M_toUnsigned D ad ca N M9 r9 A) [.ref (ad 1 j0), .int x1].toArray s rm_M_toUnsigned.cells rm_M_toUnsigned.slots A) (F0 m 77 ls []) := by
    intro M H locs ls h hwf hP hD hS hl
    unfold f_M_toUnsigned_b77 at h
    refine lv_aload_n hx hb d_M_toUnsigned_77 rfl (lv_at hl 0 rfl) ?_
    refine lv_iload_n hx hb d_M_toUnsigned_78 rfl (lv_at hl 1 rfl) ?_
    obtain ⟨M1, r2, eM1, h⟩ := b2_ob h
    refine me_theni0 (M1 := M1) (me_runV (C := "FilterGuardModel") (As := [.int x1]) (rest := []) ⟨hx, hb, hml, hown, hts⟩ (c_M_isEmpty l D ad ca N M M1 r2 j0 x1 eM1 hwf hj0 _) rfl (by show fg_nm y_M_isEmpty 1; decide +kernel) u_2157 u_2159 u_115 u_192 u_2160 ⟨Nat.le_of_ble_eq_true rfl, Nat.le_of_ble_eq_true rfl⟩ hX hz hK hP hD hwf hS hA hj0 (by decide) rfl rfl rfl hl.1 (Nat.le_of_ble_eq_true rfl) d_M_toUnsigned_79 ⟨Nat.le_of_ble_eq_true rfl, Nat.le_of_ble_eq_true rfl⟩) hP hD hK hS hA rfl rfl (fun H locs hw hP hD hS => ?_)
    obtain ⟨hwf, zr2⟩ := hw
    refine lv_if_ne (tgt := 89) hx hb d_M_toUnsigned_82 (by decide) (fun c3 => ?_) (fun c3 => ?_)
    · have h := if_f c3 h
      refine lv_iconst (v := 0) hx hb d_M_toUnsigned_89 (by decide) ?_
      have z4 : (0 : Int32) = 1 ∨ (0 : Int32) = 0 := (by decide)
      cases h
      exact fg_retz () hx hb hr hlocks (me_nz z4) ⟨rfl, ⟨hwf, z4⟩⟩ hP (hK.sub (tys' := []) [] rfl) hD hS (Nat.le_of_ble_eq_true rfl) (Nat.le_of_ble_eq_true rfl) d_M_toUnsigned_90
    have h := if_t c3 h
    refine lv_iconst (v := 1) hx hb d_M_toUnsigned_85 (by decide) ?_
    refine lv_goto (tgt := 90) hx hb d_M_toUnsigned_86 (by decide) ?_
    have z5 : (1 : Int32) = 1 ∨ (1 : Int32) = 0 := (by decide)
    cases h
    exact fg_retz () hx hb hr hlocks (me_nz z5) ⟨rfl, ⟨hwf, z5⟩⟩ hP (hK.sub (tys' := []) [] rfl) hD hS (Nat.le_of_ble_eq_true rfl) (Nat.le_of_ble_eq_true rfl) d_M_toUnsigned_90
  have b_32 : ∀ (M : me_M) (s0 : Int32) (s1 : Int32) (H : Heap) (locs : List Loc) (ls : Array Slot), f_M_toUnsigned_b32 j0 x1 M s0 s1 = (some (M9, r9)) → (s0 = 1 ∨ s0 = 0) → (s1 = 1 ∨ s1 = 0) → me_wf N M → va_P D classes (me_W ad ca M) H → va_D A (me_W ad ca M) → va_S A s.heap H locs → lv_has ls 2 [(0, .ref (ad 1 j0)), (1, .int x1)] → W p l e rm_M_toUnsigned s m [.ref (ad 1 j0), .int x1].toArray below meth c H locs 0 0 (MQ below (q_M_toUnsigned D ad ca N M9 r9 A) [.ref (ad 1 j0), .int x1].toArray s rm_M_toUnsigned.cells rm_M_toUnsigned.slots A) (F0 m 32 ls [.int s0, .int s1]) := by
    intro M s0 s1 H locs ls h zs0 zs1 hwf hP hD hS hl
    unfold f_M_toUnsigned_b32 at h
    refine lv_icmp_ne (tgt := 77) hx hb d_M_toUnsigned_32 (by decide) (fun c6 => ?_) (fun c6 => ?_)
    · have h := if_f c6 h
      exact b_77 M _ _ _ h hwf hP hD hS (lv_sub hl [0, 1] rfl)
    have h := if_t c6 h
    refine lv_aload_n hx hb d_M_toUnsigned_35 rfl (lv_at hl 0 rfl) ?_
    refine g_M_54 hx hb hts hown hK hP hwf hj0 (hts _ u_1795) d_M_toUnsigned_36 ?_
    obtain ⟨j7, e8, h⟩ := bd_ob h
    have hj7 : j7 < N 16 := (hwf.2.1 1 j0 54 _ e8 (by decide) hj0)
    refine me_opt (j := j7) e8 ?_
    refine lv_iload_n hx hb d_M_toUnsigned_39 rfl (lv_at hl 1 rfl) ?_
    refine lv_aload_n hx hb d_M_toUnsigned_40 rfl (lv_at hl 0 rfl) ?_
    refine g_M_54 hx hb hts hown hK hP hwf hj0 (hts _ u_1795) d_M_toUnsigned_41 ?_
    obtain ⟨j9, e10, h⟩ := bd_ob h
    have hj9 : j9 < N 16 := (hwf.2.1 1 j0 54 _ e10 (by decide) hj0)
    refine me_opt (j := j9) e10 ?_
    refine lv_iload_n hx hb d_M_toUnsigned_44 rfl (lv_at hl 1 rfl) ?_
    obtain ⟨g11, h⟩ := gd_ob h
    refine me_lald hx hb hK hP hwf hj9 g11 d_M_toUnsigned_45 ?_
    refine lv_aload_n hx hb d_M_toUnsigned_46 rfl (lv_at hl 0 rfl) ?_
    refine g_M_56 hx hb hts hown hK hP hwf hj0 (hts _ u_1797) d_M_toUnsigned_47 ?_
    obtain ⟨j12, e13, h⟩ := bd_ob h
    have hj12 : j12 < N 16 := (hwf.2.1 1 j0 56 _ e13 (by decide) hj0)
    refine me_opt (j := j12) e13 ?_
    refine lv_iload_n hx hb d_M_toUnsigned_50 rfl (lv_at hl 1 rfl) ?_
    obtain ⟨g14, h⟩ := gd_ob h
    refine me_lald hx hb hK hP hwf hj12 g14 d_M_toUnsigned_51 ?_
    obtain ⟨r15, er15, h⟩ := bd_ob h
    refine me_panl' (r0 := r15) (fg_runS (wc := []) (tc := []) (A2 := A) (As := [.long (mL M 16 j9 x1.toNatClampNeg), .long (mL M 16 j12 x1.toNatClampNeg)]) (rest := [.int x1, .ref (ad 16 j7)]) ⟨hx, hb, hml, hown, hts⟩ (c_M_greater l D r15 (mL M 16 j9 x1.toNatClampNeg) (mL M 16 j12 x1.toNatClampNeg) er15 _) (by show fg_nm y_M_greater 2; decide +kernel) u_2151 u_2152 u_192 u_2153 ⟨Nat.le_of_ble_eq_true rfl, Nat.le_of_ble_eq_true rfl⟩ hX me_P0 (hK.sub (tys' := []) [] rfl) me_D0 rfl hl.1 (Nat.le_of_ble_eq_true rfl) d_M_toUnsigned_52 ⟨Nat.le_of_ble_eq_true rfl, Nat.le_of_ble_eq_true rfl⟩) hP hD hK hS hA rfl rfl (fun H locs hw hP hD hS => ?_)
    obtain ⟨g16, h⟩ := gd_ob h
    obtain ⟨M17, eM17, h⟩ := st_ob h
    refine me_last eM17 hx hb hK hP hD hwf hS hj7 g16 d_M_toUnsigned_55 (fun H locs hP hD hwf hS => ?_)
    refine lv_aload_n hx hb d_M_toUnsigned_56 rfl (lv_at hl 0 rfl) ?_
    refine g_M_55 hx hb hts hown hK hP hwf hj0 (hts _ u_1796) d_M_toUnsigned_57 ?_
    obtain ⟨j18, e19, h⟩ := bd_ob h
    have hj18 : j18 < N 16 := (hwf.2.1 1 j0 55 _ e19 (by decide) hj0)
    refine me_opt (j := j18) e19 ?_
    refine lv_iload_n hx hb d_M_toUnsigned_60 rfl (lv_at hl 1 rfl) ?_
    refine lv_aload_n hx hb d_M_toUnsigned_61 rfl (lv_at hl 0 rfl) ?_
    refine g_M_55 hx hb hts hown hK hP hwf hj0 (hts _ u_1796) d_M_toUnsigned_62 ?_
    obtain ⟨j20, e21, h⟩ := bd_ob h
    have hj20 : j20 < N 16 := (hwf.2.1 1 j0 55 _ e21 (by decide) hj0)
    refine me_opt (j := j20) e21 ?_
    refine lv_iload_n hx hb d_M_toUnsigned_65 rfl (lv_at hl 1 rfl) ?_
    obtain ⟨g22, h⟩ := gd_ob h
    refine me_lald hx hb hK hP hwf hj20 g22 d_M_toUnsigned_66 ?_
    refine lv_aload_n hx hb d_M_toUnsigned_67 rfl (lv_at hl 0 rfl) ?_
    refine g_M_57 hx hb hts hown hK hP hwf hj0 (hts _ u_1798) d_M_toUnsigned_68 ?_
    obtain ⟨j23, e24, h⟩ := bd_ob h
    have hj23 : j23 < N 16 := (hwf.2.1 1 j0 57 _ e24 (by decide) hj0)
    refine me_opt (j := j23) e24 ?_
    refine lv_iload_n hx hb d_M_toUnsigned_71 rfl (lv_at hl 1 rfl) ?_
    obtain ⟨g25, h⟩ := gd_ob h
    refine me_lald hx hb hK hP hwf hj23 g25 d_M_toUnsigned_72 ?_
    obtain ⟨r26, er26, h⟩ := bd_ob h
    refine me_panl' (r0 := r26) (fg_runS (wc := []) (tc := []) (A2 := A) (As := [.long (mL M17 16 j20 x1.toNatClampNeg), .long (mL M17 16 j23 x1.toNatClampNeg)]) (rest := [.int x1, .ref (ad 16 j18)]) ⟨hx, hb, hml, hown, hts⟩ (c_M_lesser l D r26 (mL M17 16 j20 x1.toNatClampNeg) (mL M17 16 j23 x1.toNatClampNeg) er26 _) (by show fg_nm y_M_lesser 2; decide +kernel) u_2154 u_2155 u_192 u_2156 ⟨Nat.le_of_ble_eq_true rfl, Nat.le_of_ble_eq_true rfl⟩ hX me_P0 (hK.sub (tys' := []) [] rfl) me_D0 rfl hl.1 (Nat.le_of_ble_eq_true rfl) d_M_toUnsigned_73 ⟨Nat.le_of_ble_eq_true rfl, Nat.le_of_ble_eq_true rfl⟩) hP hD hK hS hA rfl rfl (fun H locs hw hP hD hS => ?_)
    obtain ⟨g27, h⟩ := gd_ob h
    obtain ⟨M28, eM28, h⟩ := st_ob h
    refine me_last eM28 hx hb hK hP hD hwf hS hj18 g27 d_M_toUnsigned_76 (fun H locs hP hD hwf hS => ?_)
    exact b_77 M28 _ _ _ h hwf hP hD hS (lv_sub hl [0, 1] rfl)
  have b_16 : ∀ (M : me_M) (s0 : Int32) (H : Heap) (locs : List Loc) (ls : Array Slot), f_M_toUnsigned_b16 j0 x1 M s0 = (some (M9, r9)) → (s0 = 1 ∨ s0 = 0) → me_wf N M → va_P D classes (me_W ad ca M) H → va_D A (me_W ad ca M) → va_S A s.heap H locs → lv_has ls 2 [(0, .ref (ad 1 j0)), (1, .int x1)] → W p l e rm_M_toUnsigned s m [.ref (ad 1 j0), .int x1].toArray below meth c H locs 0 0 (MQ below (q_M_toUnsigned D ad ca N M9 r9 A) [.ref (ad 1 j0), .int x1].toArray s rm_M_toUnsigned.cells rm_M_toUnsigned.slots A) (F0 m 16 ls [.int s0]) := by
    intro M s0 H locs ls h zs0 hwf hP hD hS hl
    unfold f_M_toUnsigned_b16 at h
    refine lv_aload_n hx hb d_M_toUnsigned_16 rfl (lv_at hl 0 rfl) ?_
    refine g_M_57 hx hb hts hown hK hP hwf hj0 (hts _ u_1798) d_M_toUnsigned_17 ?_
    obtain ⟨j29, e30, h⟩ := bd_ob h
    have hj29 : j29 < N 16 := (hwf.2.1 1 j0 57 _ e30 (by decide) hj0)
    refine me_opt (j := j29) e30 ?_
    refine lv_iload_n hx hb d_M_toUnsigned_20 rfl (lv_at hl 1 rfl) ?_
    obtain ⟨g31, h⟩ := gd_ob h
    refine me_lald hx hb hK hP hwf hj29 g31 d_M_toUnsigned_21 ?_
    refine lv_lconst (v := 0) hx hb d_M_toUnsigned_22 (by decide) ?_
    refine W.lcmp hx hb d_M_toUnsigned_23 ?_
    refine lv_if_ge (tgt := 31) hx hb d_M_toUnsigned_24 (by decide) (fun c32 => ?_) (fun c32 => ?_)
    · have h := if_f (Int64.not_lt.mpr ((lg_cmp_ge _ _).mp c32)) h
      refine lv_iconst (v := 0) hx hb d_M_toUnsigned_31 (by decide) ?_
      exact b_32 M (0 : Int32) s0 _ _ _ h (by decide) zs0 hwf hP hD hS (lv_sub hl [0, 1] rfl)
    have h := if_t (Int64.not_le.mp (fun z => c32 ((lg_cmp_ge _ _).mpr z))) h
    refine lv_iconst (v := 1) hx hb d_M_toUnsigned_27 (by decide) ?_
    refine lv_goto (tgt := 32) hx hb d_M_toUnsigned_28 (by decide) ?_
    exact b_32 M (1 : Int32) s0 _ _ _ h (by decide) zs0 hwf hP hD hS (lv_sub hl [0, 1] rfl)
  refine lv_aload_n hx hb d_M_toUnsigned_0 rfl (lv_at hl 0 rfl) ?_
  refine g_M_56 hx hb hts hown hK hP hwf hj0 (hts _ u_1797) d_M_toUnsigned_1 ?_
  obtain ⟨j33, e34, h⟩ := bd_ob h
  have hj33 : j33 < N 16 := (hwf.2.1 1 j0 56 _ e34 (by decide) hj0)
  refine me_opt (j := j33) e34 ?_
  refine lv_iload_n hx hb d_M_toUnsigned_4 rfl (lv_at hl 1 rfl) ?_
  obtain ⟨g35, h⟩ := gd_ob h
  refine me_lald hx hb hK hP hwf hj33 g35 d_M_toUnsigned_5 ?_
  refine lv_lconst (v := 0) hx hb d_M_toUnsigned_6 (by decide) ?_
  refine W.lcmp hx hb d_M_toUnsigned_7 ?_
  refine lv_if_ge (tgt := 15) hx hb d_M_toUnsigned_8 (by decide) (fun c36 => ?_) (fun c36 => ?_)
  · have h := if_f (Int64.not_lt.mpr ((lg_cmp_ge _ _).mp c36)) h
    refine lv_iconst (v := 0) hx hb d_M_toUnsigned_15 (by decide) ?_
    exact b_16 M (0 : Int32) _ _ _ h (by decide) hwf hP hD hS (lv_sub hl [0, 1] rfl)
  have h := if_t (Int64.not_le.mp (fun z => c36 ((lg_cmp_ge _ _).mpr z))) h
  refine lv_iconst (v := 1) hx hb d_M_toUnsigned_11 (by decide) ?_
  refine lv_goto (tgt := 16) hx hb d_M_toUnsigned_12 (by decide) ?_
  exact b_16 M (1 : Int32) _ _ _ h (by decide) hwf hP hD hS (lv_sub hl [0, 1] rfl)
theorem d_M_places_48 : decode prog_14_method_12_code 48 = .ok (.lstore 6, 2) := by decide +kernel
theorem d_M_places_50 : decode prog_14_method_12_code 50 = .ok (.iinc 8 (-1), 3) := by decide +kernel
theorem d_M_places_53 : decode prog_14_method_12_code 53 = .ok (.goto (-41), 3) := by decide +kernel
theorem d_M_places_36 : decode prog_14_method_12_code 36 = .ok (.lload 6, 2) := by decide +kernel
theorem d_M_places_38 : decode prog_14_method_12_code 38 = .ok (.lconst 1, 1) := by decide +kernel
theorem d_M_places_39 : decode prog_14_method_12_code 39 = .ok (.iload 8, 2) := by decide +kernel
theorem d_M_places_41 : decode prog_14_method_12_code 41 = .ok (.lshl, 1) := by decide +kernel
theorem d_M_places_42 : decode prog_14_method_12_code 42 = .ok (.lor, 1) := by decide +kernel
theorem d_M_places_43 : decode prog_14_method_12_code 43 = .ok (.goto 5, 3) := by decide +kernel
theorem d_M_places_12 : decode prog_14_method_12_code 12 = .ok (.iload 8, 2) := by decide +kernel
theorem d_M_places_14 : decode prog_14_method_12_code 14 = .ok (.ifCond .lt 42, 3) := by decide +kernel
theorem d_M_places_56 : decode prog_14_method_12_code 56 = .ok (.lload 6, 2) := by decide +kernel
theorem d_M_places_58 : decode prog_14_method_12_code 58 = .ok (.lreturn, 1) := by decide +kernel
theorem d_M_places_17 : decode prog_14_method_12_code 17 = .ok (.lload 6, 2) := by decide +kernel
theorem d_M_places_19 : decode prog_14_method_12_code 19 = .ok (.lconst 0, 1) := by decide +kernel
theorem d_M_places_20 : decode prog_14_method_12_code 20 = .ok (.lcmp, 1) := by decide +kernel
theorem d_M_places_21 : decode prog_14_method_12_code 21 = .ok (.ifCond .ne 15, 3) := by decide +kernel
theorem d_M_places_24 : decode prog_14_method_12_code 24 = .ok (.lload 4, 2) := by decide +kernel
theorem d_M_places_26 : decode prog_14_method_12_code 26 = .ok (.iload 8, 2) := by decide +kernel
theorem d_M_places_28 : decode prog_14_method_12_code 28 = .ok (.lshr, 1) := by decide +kernel
theorem d_M_places_29 : decode prog_14_method_12_code 29 = .ok (.lconst 1, 1) := by decide +kernel
theorem d_M_places_30 : decode prog_14_method_12_code 30 = .ok (.land, 1) := by decide +kernel
theorem d_M_places_31 : decode prog_14_method_12_code 31 = .ok (.lconst 1, 1) := by decide +kernel
theorem d_M_places_32 : decode prog_14_method_12_code 32 = .ok (.lcmp, 1) := by decide +kernel
theorem d_M_places_33 : decode prog_14_method_12_code 33 = .ok (.ifCond .ne 13, 3) := by decide +kernel
theorem d_M_places_46 : decode prog_14_method_12_code 46 = .ok (.lload 6, 2) := by decide +kernel
theorem d_M_places_0 : decode prog_14_method_12_code 0 = .ok (.lload_n 0, 1) := by decide +kernel
theorem d_M_places_1 : decode prog_14_method_12_code 1 = .ok (.lload_n 2, 1) := by decide +kernel
theorem d_M_places_2 : decode prog_14_method_12_code 2 = .ok (.lxor, 1) := by decide +kernel
theorem d_M_places_3 : decode prog_14_method_12_code 3 = .ok (.lstore 4, 2) := by decide +kernel
theorem d_M_places_5 : decode prog_14_method_12_code 5 = .ok (.lconst 0, 1) := by decide +kernel
theorem d_M_places_6 : decode prog_14_method_12_code 6 = .ok (.lstore 6, 2) := by decide +kernel
theorem d_M_places_8 : decode prog_14_method_12_code 8 = .ok (.bipush 63, 2) := by decide +kernel
theorem d_M_places_10 : decode prog_14_method_12_code 10 = .ok (.istore 8, 2) := by decide +kernel
abbrev y_M_places : MethodName := ⟨"FilterGuardModel", "places", "(JJ)J"⟩
def f_M_places_b48 (k12 : Int64 → Int64 → Int32 → Option Int64) (y4 : Int64) (y8 : Int32) (s0 : Int64) : Option Int64 := k12 y4 s0 (y8 + (-1))
def f_M_places_b36 (k12 : Int64 → Int64 → Int32 → Option Int64) (y4 : Int64) (y6 : Int64) (y8 : Int32) : Option Int64 := f_M_places_b48 k12 y4 y8 (y6 ||| (jlshl (1 : Int64) y8))
def f_M_places_l12 : Nat → Int64 → Int64 → Int32 → Option Int64
  | 0, _, _, _ => none
  | fu + 1, y4, y6, y8 => (if y8 < 0 then some y6 else (if y6 = 0 then (if ((jlshr y4 y8) &&& 1) = 1 then f_M_places_b36 (f_M_places_l12 fu) y4 y6 y8 else f_M_places_b48 (f_M_places_l12 fu) y4 y8 y6) else f_M_places_b36 (f_M_places_l12 fu) y4 y6 y8))
def f_M_places (x0 : Int64) (x2 : Int64) : Option Int64 := st (x0 ^^^ x2) (fun (v4 : Int64) => f_M_places_l12 fuel v4 (0 : Int64) (63 : Int32))
def rm_M_places : Room := { frames := 1, cells := 0, slots := 0, locals := 20 }
abbrev q_M_places (D : va_G) (r9 : Int64) (A : Nat → Prop) : Array Value → Jvm.State → Outcome → Jvm.State → Prop := va_Ql (fun r (_ : Unit) => r = r9 ∧ True) (fg_B D A (fun _ => []) (fun _ => [])) A
set_option maxHeartbeats 4000000 in
set_option maxRecDepth 100000 in
theorem c_M_places (l : Launch) (D : va_G) (r9 : Int64) (x0 : Int64) (x2 : Int64) (h : f_M_places x0 x2 = (some r9)) (sz : Nat) : Met l y_M_places (fg_w y_M_places prog_14_method_12_code 9 (some .long)) rm_M_places (va_Pc [.long x0, .long x2] (fg_P D [] [] sz)) (q_M_places D r9 (va_A [] sz)) rm_M_places.cells rm_M_places.slots (va_A [] sz) := by
  refine fg_enter (fun A => q_M_places D r9 A) (by decide +kernel) (Nat.le_of_ble_eq_true rfl) ?_
  intro p e s m below meth c ls A hx hb hml hown hts hr hlocks hin hP hK hD hS hA hX hl
  have hl : lv_has ls 9 [(0, .long x0), (2, .long x2)] := hl
  unfold f_M_places at h
  have b_48 : ∀ (k12 : Int64 → Int64 → Int32 → Option Int64) (hk12 : ∀ (y4 : Int64) (y6 : Int64) (y8 : Int32) (H : Heap) (locs : List Loc) (ls : Array Slot), k12 y4 y6 y8 = (some r9) → va_S A s.heap H locs → lv_has ls 9 [(4, .long y4), (6, .long y6), (8, .int y8)] → W p l e rm_M_places s m [.long x0, .long x2].toArray below meth c H locs 0 0 (MQ below (q_M_places D r9 A) [.long x0, .long x2].toArray s rm_M_places.cells rm_M_places.slots A) (F0 m 12 ls [])), ∀ (y4 : Int64) (y8 : Int32) (s0 : Int64) (H : Heap) (locs : List Loc) (ls : Array Slot), f_M_places_b48 k12 y4 y8 s0 = (some r9) → va_S A s.heap H locs → lv_has ls 9 [(4, .long y4), (8, .int y8)] → W p l e rm_M_places s m [.long x0, .long x2].toArray below meth c H locs 0 0 (MQ below (q_M_places D r9 A) [.long x0, .long x2].toArray s rm_M_places.cells rm_M_places.slots A) (F0 m 48 ls [.long s0]) := by
    intro k12 hk12 y4 y8 s0 H locs ls h hS hl
    unfold f_M_places_b48 at h
    refine lv_lstore (lv' := [(6, .long s0), (4, .long y4), (8, .int y8)]) hx hb d_M_places_48 hl (by decide) rfl (fun ls hl => ?_)
    refine lv_iinc (v := y8 + (-1)) (lv' := [(8, .int (y8 + (-1))), (6, .long s0), (4, .long y4)]) hx hb d_M_places_50 hl (k := 2) rfl (by rfl) (by decide) rfl (fun ls hl => ?_)
    refine lv_goto (tgt := 12) hx hb d_M_places_53 (by decide) ?_
    exact hk12 y4 s0 (y8 + (-1)) _ _ _ h hS (lv_sub hl [2, 1, 0] rfl)
  have b_36 : ∀ (k12 : Int64 → Int64 → Int32 → Option Int64) (hk12 : ∀ (y4 : Int64) (y6 : Int64) (y8 : Int32) (H : Heap) (locs : List Loc) (ls : Array Slot), k12 y4 y6 y8 = (some r9) → va_S A s.heap H locs → lv_has ls 9 [(4, .long y4), (6, .long y6), (8, .int y8)] → W p l e rm_M_places s m [.long x0, .long x2].toArray below meth c H locs 0 0 (MQ below (q_M_places D r9 A) [.long x0, .long x2].toArray s rm_M_places.cells rm_M_places.slots A) (F0 m 12 ls [])), ∀ (y4 : Int64) (y6 : Int64) (y8 : Int32) (H : Heap) (locs : List Loc) (ls : Array Slot), f_M_places_b36 k12 y4 y6 y8 = (some r9) → va_S A s.heap H locs → lv_has ls 9 [(4, .long y4), (6, .long y6), (8, .int y8)] → W p l e rm_M_places s m [.long x0, .long x2].toArray below meth c H locs 0 0 (MQ below (q_M_places D r9 A) [.long x0, .long x2].toArray s rm_M_places.cells rm_M_places.slots A) (F0 m 36 ls []) := by
    intro k12 hk12 y4 y6 y8 H locs ls h hS hl
    unfold f_M_places_b36 at h
    refine lv_lload hx hb d_M_places_36 (lv_at hl 1 rfl) ?_
    refine lv_lconst (v := 1) hx hb d_M_places_38 (by decide) ?_
    refine lv_iload hx hb d_M_places_39 (lv_at hl 2 rfl) ?_
    refine lv_lshl (v := jlshl (1 : Int64) y8) hx hb d_M_places_41 rfl ?_
    refine lv_lor hx hb d_M_places_42 ?_
    refine lv_goto (tgt := 48) hx hb d_M_places_43 (by decide) ?_
    exact b_48 _ hk12 y4 y8 (y6 ||| (jlshl (1 : Int64) y8)) _ _ _ h hS (lv_sub hl [0, 2] rfl)
  have b_12 : ∀ (fu : Nat), ∀ (y4 : Int64) (y6 : Int64) (y8 : Int32) (H : Heap) (locs : List Loc) (ls : Array Slot), f_M_places_l12 fu y4 y6 y8 = (some r9) → va_S A s.heap H locs → lv_has ls 9 [(4, .long y4), (6, .long y6), (8, .int y8)] → W p l e rm_M_places s m [.long x0, .long x2].toArray below meth c H locs 0 0 (MQ below (q_M_places D r9 A) [.long x0, .long x2].toArray s rm_M_places.cells rm_M_places.slots A) (F0 m 12 ls []) := by
    intro fu
    induction fu with
    | zero =>
      intro y4 y6 y8 H locs ls h hS hl
      cases h
    | succ fu ih =>
      intro y4 y6 y8 H locs ls h hS hl
      unfold f_M_places_l12 at h
      refine lv_iload hx hb d_M_places_12 (lv_at hl 2 rfl) ?_
      refine lv_if_lt (tgt := 56) hx hb d_M_places_14 (by decide) (fun c1 => ?_) (fun c1 => ?_)
      · have h := if_t c1 h
        refine lv_lload hx hb d_M_places_56 (lv_at hl 1 rfl) ?_
        cases h
        exact fg_retl () hx hb hr hlocks ⟨rfl, trivial⟩ me_P0 (hK.sub (tys' := []) [] rfl) me_D0 hS (Nat.le_of_ble_eq_true rfl) (Nat.le_of_ble_eq_true rfl) d_M_places_58
      have h := if_f c1 h
      refine lv_lload hx hb d_M_places_17 (lv_at hl 1 rfl) ?_
      refine lv_lconst (v := 0) hx hb d_M_places_19 (by decide) ?_
      refine W.lcmp hx hb d_M_places_20 ?_
      refine lv_if_ne (tgt := 36) hx hb d_M_places_21 (by decide) (fun c2 => ?_) (fun c2 => ?_)
      · have h := if_f (fun z => c2 ((lg_cmp_eq _ _).mpr z)) h
        exact b_36 _ ih y4 y6 y8 _ _ _ h hS (lv_sub hl [0, 1, 2] rfl)
      have h := if_t ((lg_cmp_eq _ _).mp c2) h
      refine lv_lload hx hb d_M_places_24 (lv_at hl 0 rfl) ?_
      refine lv_iload hx hb d_M_places_26 (lv_at hl 2 rfl) ?_
      refine lv_lshr (v := jlshr y4 y8) hx hb d_M_places_28 rfl ?_
      refine lv_lconst (v := 1) hx hb d_M_places_29 (by decide) ?_
      refine lv_land hx hb d_M_places_30 ?_
      refine lv_lconst (v := 1) hx hb d_M_places_31 (by decide) ?_
      refine W.lcmp hx hb d_M_places_32 ?_
      refine lv_if_ne (tgt := 46) hx hb d_M_places_33 (by decide) (fun c3 => ?_) (fun c3 => ?_)
      · have h := if_f (fun z => c3 ((lg_cmp_eq _ _).mpr z)) h
        refine lv_lload hx hb d_M_places_46 (lv_at hl 1 rfl) ?_
        exact b_48 _ ih y4 y8 y6 _ _ _ h hS (lv_sub hl [0, 2] rfl)
      have h := if_t ((lg_cmp_eq _ _).mp c3) h
      exact b_36 _ ih y4 y6 y8 _ _ _ h hS (lv_sub hl [0, 1, 2] rfl)
  refine lv_lload_n hx hb d_M_places_0 rfl (lv_at hl 0 rfl) ?_
  refine lv_lload_n hx hb d_M_places_1 rfl (lv_at hl 1 rfl) ?_
  refine lv_lxor hx hb d_M_places_2 ?_
  obtain ⟨v4, ev4, h⟩ := st_ob h
  refine fg_topl (y := v4) ev4.symm ?_
  refine lv_lstore (lv' := [(4, .long v4), (0, .long x0), (2, .long x2)]) hx hb d_M_places_3 hl (by decide) rfl (fun ls hl => ?_)
  refine lv_lconst (v := 0) hx hb d_M_places_5 (by decide) ?_
  refine lv_lstore (lv' := [(6, .long 0), (4, .long v4), (0, .long x0), (2, .long x2)]) hx hb d_M_places_6 hl (by decide) rfl (fun ls hl => ?_)
  refine lv_bipush (v := 63) hx hb d_M_places_8 (by decide) ?_
  refine lv_istore (lv' := [(8, .int 63), (6, .long 0), (4, .long v4), (0, .long x0), (2, .long x2)]) hx hb d_M_places_10 hl (by decide) rfl (fun ls hl => ?_)
  exact b_12 _ v4 (0 : Int64) (63 : Int32) _ _ _ h hS (lv_sub hl [2, 1, 0] rfl)
theorem d_M_toBits_0 : decode prog_14_method_16_code 0 = .ok (.aload_n 0, 1) := by decide +kernel
theorem d_M_toBits_1 : decode prog_14_method_16_code 1 = .ok (.getfield 110, 3) := by decide +kernel
theorem d_M_toBits_4 : decode prog_14_method_16_code 4 = .ok (.iload_n 1, 1) := by decide +kernel
theorem d_M_toBits_5 : decode prog_14_method_16_code 5 = .ok (.laload, 1) := by decide +kernel
theorem d_M_toBits_6 : decode prog_14_method_16_code 6 = .ok (.aload_n 0, 1) := by decide +kernel
theorem d_M_toBits_7 : decode prog_14_method_16_code 7 = .ok (.getfield 113, 3) := by decide +kernel
theorem d_M_toBits_10 : decode prog_14_method_16_code 10 = .ok (.iload_n 1, 1) := by decide +kernel
theorem d_M_toBits_11 : decode prog_14_method_16_code 11 = .ok (.laload, 1) := by decide +kernel
theorem d_M_toBits_12 : decode prog_14_method_16_code 12 = .ok (.invokestatic 177, 3) := by decide +kernel
theorem u_2173 : Cond.methodLink "FilterGuardModel" 177 ⟨"FilterGuardModel", "places", "(JJ)J"⟩ ∈ fg_g := fg_in (List.mem_of_getElem? (i := 2173) (by decide +kernel)) rfl
theorem u_2175 : Cond.code ⟨"FilterGuardModel", "places", "(JJ)J"⟩ prog_14_method_12_code 9 (some .long) ∈ fg_g := fg_in (List.mem_of_getElem? (i := 2175) (by decide +kernel)) rfl
theorem u_2174 : Cond.static ⟨"FilterGuardModel", "places", "(JJ)J"⟩ ∈ fg_g := fg_in (List.mem_of_getElem? (i := 2174) (by decide +kernel)) rfl
theorem d_M_toBits_15 : decode prog_14_method_16_code 15 = .ok (.lstore_n 2, 1) := by decide +kernel
theorem d_M_toBits_16 : decode prog_14_method_16_code 16 = .ok (.aload_n 0, 1) := by decide +kernel
theorem d_M_toBits_17 : decode prog_14_method_16_code 17 = .ok (.getfield 104, 3) := by decide +kernel
theorem d_M_toBits_20 : decode prog_14_method_16_code 20 = .ok (.iload_n 1, 1) := by decide +kernel
theorem d_M_toBits_21 : decode prog_14_method_16_code 21 = .ok (.laload, 1) := by decide +kernel
theorem d_M_toBits_22 : decode prog_14_method_16_code 22 = .ok (.aload_n 0, 1) := by decide +kernel
theorem d_M_toBits_23 : decode prog_14_method_16_code 23 = .ok (.getfield 110, 3) := by decide +kernel
theorem d_M_toBits_26 : decode prog_14_method_16_code 26 = .ok (.iload_n 1, 1) := by decide +kernel
theorem d_M_toBits_27 : decode prog_14_method_16_code 27 = .ok (.laload, 1) := by decide +kernel
theorem d_M_toBits_28 : decode prog_14_method_16_code 28 = .ok (.lxor, 1) := by decide +kernel
theorem d_M_toBits_29 : decode prog_14_method_16_code 29 = .ok (.aload_n 0, 1) := by decide +kernel
theorem d_M_toBits_30 : decode prog_14_method_16_code 30 = .ok (.getfield 107, 3) := by decide +kernel
theorem d_M_toBits_33 : decode prog_14_method_16_code 33 = .ok (.iload_n 1, 1) := by decide +kernel
theorem d_M_toBits_34 : decode prog_14_method_16_code 34 = .ok (.laload, 1) := by decide +kernel
theorem d_M_toBits_35 : decode prog_14_method_16_code 35 = .ok (.ldc2_w 162, 3) := by decide +kernel
theorem u_2071 : Cond.constantLong "FilterGuardModel" 162 (-1) ∈ fg_g := fg_in (List.mem_of_getElem? (i := 2071) (by decide +kernel)) rfl
theorem d_M_toBits_38 : decode prog_14_method_16_code 38 = .ok (.lxor, 1) := by decide +kernel
theorem d_M_toBits_39 : decode prog_14_method_16_code 39 = .ok (.land, 1) := by decide +kernel
theorem d_M_toBits_40 : decode prog_14_method_16_code 40 = .ok (.lload_n 2, 1) := by decide +kernel
theorem d_M_toBits_41 : decode prog_14_method_16_code 41 = .ok (.ldc2_w 162, 3) := by decide +kernel
theorem d_M_toBits_44 : decode prog_14_method_16_code 44 = .ok (.lxor, 1) := by decide +kernel
theorem d_M_toBits_45 : decode prog_14_method_16_code 45 = .ok (.land, 1) := by decide +kernel
theorem d_M_toBits_46 : decode prog_14_method_16_code 46 = .ok (.lconst 0, 1) := by decide +kernel
theorem d_M_toBits_47 : decode prog_14_method_16_code 47 = .ok (.lcmp, 1) := by decide +kernel
theorem d_M_toBits_48 : decode prog_14_method_16_code 48 = .ok (.ifCond .eq 5, 3) := by decide +kernel
theorem d_M_toBits_53 : decode prog_14_method_16_code 53 = .ok (.aload_n 0, 1) := by decide +kernel
theorem d_M_toBits_54 : decode prog_14_method_16_code 54 = .ok (.getfield 104, 3) := by decide +kernel
theorem d_M_toBits_57 : decode prog_14_method_16_code 57 = .ok (.iload_n 1, 1) := by decide +kernel
theorem d_M_toBits_58 : decode prog_14_method_16_code 58 = .ok (.aload_n 0, 1) := by decide +kernel
theorem d_M_toBits_59 : decode prog_14_method_16_code 59 = .ok (.getfield 104, 3) := by decide +kernel
theorem d_M_toBits_62 : decode prog_14_method_16_code 62 = .ok (.iload_n 1, 1) := by decide +kernel
theorem d_M_toBits_63 : decode prog_14_method_16_code 63 = .ok (.laload, 1) := by decide +kernel
theorem d_M_toBits_64 : decode prog_14_method_16_code 64 = .ok (.lload_n 2, 1) := by decide +kernel
theorem d_M_toBits_65 : decode prog_14_method_16_code 65 = .ok (.land, 1) := by decide +kernel
theorem d_M_toBits_66 : decode prog_14_method_16_code 66 = .ok (.aload_n 0, 1) := by decide +kernel
theorem d_M_toBits_67 : decode prog_14_method_16_code 67 = .ok (.getfield 110, 3) := by decide +kernel
theorem d_M_toBits_70 : decode prog_14_method_16_code 70 = .ok (.iload_n 1, 1) := by decide +kernel
theorem d_M_toBits_71 : decode prog_14_method_16_code 71 = .ok (.laload, 1) := by decide +kernel
theorem d_M_toBits_72 : decode prog_14_method_16_code 72 = .ok (.lload_n 2, 1) := by decide +kernel
theorem d_M_toBits_73 : decode prog_14_method_16_code 73 = .ok (.ldc2_w 162, 3) := by decide +kernel
theorem d_M_toBits_76 : decode prog_14_method_16_code 76 = .ok (.lxor, 1) := by decide +kernel
theorem d_M_toBits_77 : decode prog_14_method_16_code 77 = .ok (.land, 1) := by decide +kernel
theorem d_M_toBits_78 : decode prog_14_method_16_code 78 = .ok (.lor, 1) := by decide +kernel
theorem d_M_toBits_79 : decode prog_14_method_16_code 79 = .ok (.lastore, 1) := by decide +kernel
theorem d_M_toBits_80 : decode prog_14_method_16_code 80 = .ok (.aload_n 0, 1) := by decide +kernel
theorem d_M_toBits_81 : decode prog_14_method_16_code 81 = .ok (.getfield 107, 3) := by decide +kernel
theorem d_M_toBits_84 : decode prog_14_method_16_code 84 = .ok (.iload_n 1, 1) := by decide +kernel
theorem d_M_toBits_85 : decode prog_14_method_16_code 85 = .ok (.aload_n 0, 1) := by decide +kernel
theorem d_M_toBits_86 : decode prog_14_method_16_code 86 = .ok (.getfield 107, 3) := by decide +kernel
theorem d_M_toBits_89 : decode prog_14_method_16_code 89 = .ok (.iload_n 1, 1) := by decide +kernel
theorem d_M_toBits_90 : decode prog_14_method_16_code 90 = .ok (.laload, 1) := by decide +kernel
theorem d_M_toBits_91 : decode prog_14_method_16_code 91 = .ok (.lload_n 2, 1) := by decide +kernel
theorem d_M_toBits_92 : decode prog_14_method_16_code 92 = .ok (.land, 1) := by decide +kernel
theorem d_M_toBits_93 : decode prog_14_method_16_code 93 = .ok (.lastore, 1) := by decide +kernel
theorem d_M_toBits_94 : decode prog_14_method_16_code 94 = .ok (.aload_n 0, 1) := by decide +kernel
theorem d_M_toBits_95 : decode prog_14_method_16_code 95 = .ok (.iload_n 1, 1) := by decide +kernel
theorem d_M_toBits_96 : decode prog_14_method_16_code 96 = .ok (.invokevirtual 173, 3) := by decide +kernel
theorem d_M_toBits_99 : decode prog_14_method_16_code 99 = .ok (.ifCond .ne 7, 3) := by decide +kernel
theorem d_M_toBits_106 : decode prog_14_method_16_code 106 = .ok (.iconst 0, 1) := by decide +kernel
theorem d_M_toBits_107 : decode prog_14_method_16_code 107 = .ok (.ireturn, 1) := by decide +kernel
theorem d_M_toBits_102 : decode prog_14_method_16_code 102 = .ok (.iconst 1, 1) := by decide +kernel
theorem d_M_toBits_103 : decode prog_14_method_16_code 103 = .ok (.goto 4, 3) := by decide +kernel
theorem d_M_toBits_51 : decode prog_14_method_16_code 51 = .ok (.iconst 0, 1) := by decide +kernel
theorem d_M_toBits_52 : decode prog_14_method_16_code 52 = .ok (.ireturn, 1) := by decide +kernel
abbrev y_M_toBits : MethodName := ⟨"FilterGuardModel", "toBits", "(I)Z"⟩
def f_M_toBits (M : me_M) (j0 : Nat) (x1 : Int32) : Option (me_M × Int32) := bd (mR M 1 j0 54) (fun (j1 : Nat) => gd (¬ (x1 < 0 ∨ mZ M 16 j1 ≤ x1.toNatClampNeg)) (bd (mR M 1 j0 55) (fun (j4 : Nat) => gd (¬ (x1 < 0 ∨ mZ M 16 j4 ≤ x1.toNatClampNeg)) (bd (f_M_places (mL M 16 j1 x1.toNatClampNeg) (mL M 16 j4 x1.toNatClampNeg)) (fun (r7 : Int64) => bd (mR M 1 j0 52) (fun (j8 : Nat) => gd (¬ (x1 < 0 ∨ mZ M 16 j8 ≤ x1.toNatClampNeg)) (bd (mR M 1 j0 54) (fun (j11 : Nat) => gd (¬ (x1 < 0 ∨ mZ M 16 j11 ≤ x1.toNatClampNeg)) (bd (mR M 1 j0 53) (fun (j14 : Nat) => gd (¬ (x1 < 0 ∨ mZ M 16 j14 ≤ x1.toNatClampNeg)) (st (((mL M 16 j8 x1.toNatClampNeg) ^^^ (mL M 16 j11 x1.toNatClampNeg)) &&& ((mL M 16 j14 x1.toNatClampNeg) ^^^ (-1))) (fun (v17 : Int64) => (if (v17 &&& (r7 ^^^ (-1))) = 0 then bd (mR M 1 j0 52) (fun (j19 : Nat) => bd (mR M 1 j0 52) (fun (j21 : Nat) => gd (¬ (x1 < 0 ∨ mZ M 16 j21 ≤ x1.toNatClampNeg)) (bd (mR M 1 j0 54) (fun (j24 : Nat) => gd (¬ (x1 < 0 ∨ mZ M 16 j24 ≤ x1.toNatClampNeg)) (st (((mL M 16 j21 x1.toNatClampNeg) &&& r7) ||| ((mL M 16 j24 x1.toNatClampNeg) &&& (r7 ^^^ (-1)))) (fun (v27 : Int64) => gd (¬ (x1 < 0 ∨ mZ M 16 j19 ≤ x1.toNatClampNeg)) (st (wL M 16 j19 x1.toNatClampNeg v27) (fun (M29 : me_M) => bd (mR M29 1 j0 53) (fun (j30 : Nat) => bd (mR M29 1 j0 53) (fun (j32 : Nat) => gd (¬ (x1 < 0 ∨ mZ M29 16 j32 ≤ x1.toNatClampNeg)) (gd (¬ (x1 < 0 ∨ mZ M29 16 j30 ≤ x1.toNatClampNeg)) (st (wL M29 16 j30 x1.toNatClampNeg ((mL M29 16 j32 x1.toNatClampNeg) &&& r7)) (fun (M36 : me_M) => b2 (f_M_isEmpty M36 j0 x1) (fun (M37 : me_M) (r38 : Int32) => (if r38 = 0 then some (M37, (1 : Int32)) else some (M37, (0 : Int32))))))))))))))))) else some (M, (0 : Int32)))))))))))))))
def rm_M_toBits : Room := { frames := 3, cells := 0, slots := 0, locals := 64 }
abbrev q_M_toBits (D : va_G) (ad : Nat → Nat → Nat) (ca : Nat → ClassId) (N : Nat → Nat) (M9 : me_M) (r9 : Int32) (A : Nat → Prop) : Array Value → Jvm.State → Outcome → Jvm.State → Prop := va_Qi (fun r (_ : Unit) => r = r9 ∧ me_wf N M9 ∧ (r9 = 1 ∨ r9 = 0)) (fg_B D A (fun _ => me_W ad ca M9) (fun _ => [])) A
set_option maxHeartbeats 4000000 in
set_option maxRecDepth 100000 in
theorem c_M_toBits (l : Launch) (D : va_G) (ad : Nat → Nat → Nat) (ca : Nat → ClassId) (N : Nat → Nat) (M M9 : me_M) (r9 : Int32) (j0 : Nat) (x1 : Int32) (h : f_M_toBits M j0 x1 = (some (M9, r9))) (hwf : me_wf N M) (hj0 : j0 < N 1) (sz : Nat) : Met l y_M_toBits (fg_w y_M_toBits prog_14_method_16_code 4 (some .boolean)) rm_M_toBits (va_Pc [.ref (ad 1 j0), .int x1] (fz_P D (me_T ca) (me_W ad ca M) sz)) (q_M_toBits D ad ca N M9 r9 (va_A (me_W ad ca M) sz)) rm_M_toBits.cells rm_M_toBits.slots (va_A (me_W ad ca M) sz) := by
  refine fz_enter (fun A => q_M_toBits D ad ca N M9 r9 A) (by decide +kernel) (Nat.le_of_ble_eq_true rfl) ?_
  intro p e s m below meth c ls A hx hb hml hown hts hr hlocks hin hP hK hD hS hA hX hl hz
  have hl : lv_has ls 4 [(0, .ref (ad 1 j0)), (1, .int x1)] := hl
  unfold f_M_toBits at h
  refine lv_aload_n hx hb d_M_toBits_0 rfl (lv_at hl 0 rfl) ?_
  refine g_M_54 hx hb hts hown hK hP hwf hj0 (hts _ u_1795) d_M_toBits_1 ?_
  obtain ⟨j1, e2, h⟩ := bd_ob h
  have hj1 : j1 < N 16 := (hwf.2.1 1 j0 54 _ e2 (by decide) hj0)
  refine me_opt (j := j1) e2 ?_
  refine lv_iload_n hx hb d_M_toBits_4 rfl (lv_at hl 1 rfl) ?_
  obtain ⟨g3, h⟩ := gd_ob h
  refine me_lald hx hb hK hP hwf hj1 g3 d_M_toBits_5 ?_
  refine lv_aload_n hx hb d_M_toBits_6 rfl (lv_at hl 0 rfl) ?_
  refine g_M_55 hx hb hts hown hK hP hwf hj0 (hts _ u_1796) d_M_toBits_7 ?_
  obtain ⟨j4, e5, h⟩ := bd_ob h
  have hj4 : j4 < N 16 := (hwf.2.1 1 j0 55 _ e5 (by decide) hj0)
  refine me_opt (j := j4) e5 ?_
  refine lv_iload_n hx hb d_M_toBits_10 rfl (lv_at hl 1 rfl) ?_
  obtain ⟨g6, h⟩ := gd_ob h
  refine me_lald hx hb hK hP hwf hj4 g6 d_M_toBits_11 ?_
  obtain ⟨r7, er7, h⟩ := bd_ob h
  refine me_panl' (r0 := r7) (fg_runS (wc := []) (tc := []) (A2 := A) (As := [.long (mL M 16 j1 x1.toNatClampNeg), .long (mL M 16 j4 x1.toNatClampNeg)]) (rest := []) ⟨hx, hb, hml, hown, hts⟩ (c_M_places l D r7 (mL M 16 j1 x1.toNatClampNeg) (mL M 16 j4 x1.toNatClampNeg) er7 _) (by show fg_nm y_M_places 2; decide +kernel) u_2173 u_2174 u_192 u_2175 ⟨Nat.le_of_ble_eq_true rfl, Nat.le_of_ble_eq_true rfl⟩ hX me_P0 (hK.sub (tys' := []) [] rfl) me_D0 rfl hl.1 (Nat.le_of_ble_eq_true rfl) d_M_toBits_12 ⟨Nat.le_of_ble_eq_true rfl, Nat.le_of_ble_eq_true rfl⟩) hP hD hK hS hA rfl rfl (fun H locs hw hP hD hS => ?_)
  refine lv_lstore_n (lv' := [(2, .long r7), (0, .ref (ad 1 j0)), (1, .int x1)]) hx hb d_M_toBits_15 rfl hl (by decide) rfl (fun ls hl => ?_)
  refine lv_aload_n hx hb d_M_toBits_16 rfl (lv_at hl 1 rfl) ?_
  refine g_M_52 hx hb hts hown hK hP hwf hj0 (hts _ u_1793) d_M_toBits_17 ?_
  obtain ⟨j8, e9, h⟩ := bd_ob h
  have hj8 : j8 < N 16 := (hwf.2.1 1 j0 52 _ e9 (by decide) hj0)
  refine me_opt (j := j8) e9 ?_
  refine lv_iload_n hx hb d_M_toBits_20 rfl (lv_at hl 2 rfl) ?_
  obtain ⟨g10, h⟩ := gd_ob h
  refine me_lald hx hb hK hP hwf hj8 g10 d_M_toBits_21 ?_
  refine lv_aload_n hx hb d_M_toBits_22 rfl (lv_at hl 1 rfl) ?_
  refine g_M_54 hx hb hts hown hK hP hwf hj0 (hts _ u_1795) d_M_toBits_23 ?_
  obtain ⟨j11, e12, h⟩ := bd_ob h
  have hj11 : j11 < N 16 := (hwf.2.1 1 j0 54 _ e12 (by decide) hj0)
  refine me_opt (j := j11) e12 ?_
  refine lv_iload_n hx hb d_M_toBits_26 rfl (lv_at hl 2 rfl) ?_
  obtain ⟨g13, h⟩ := gd_ob h
  refine me_lald hx hb hK hP hwf hj11 g13 d_M_toBits_27 ?_
  refine lv_lxor hx hb d_M_toBits_28 ?_
  refine lv_aload_n hx hb d_M_toBits_29 rfl (lv_at hl 1 rfl) ?_
  refine g_M_53 hx hb hts hown hK hP hwf hj0 (hts _ u_1794) d_M_toBits_30 ?_
  obtain ⟨j14, e15, h⟩ := bd_ob h
  have hj14 : j14 < N 16 := (hwf.2.1 1 j0 53 _ e15 (by decide) hj0)
  refine me_opt (j := j14) e15 ?_
  refine lv_iload_n hx hb d_M_toBits_33 rfl (lv_at hl 2 rfl) ?_
  obtain ⟨g16, h⟩ := gd_ob h
  refine me_lald hx hb hK hP hwf hj14 g16 d_M_toBits_34 ?_
  refine lv_ldc2 hx hb hown (hts _ u_2071) d_M_toBits_35 ?_
  refine lv_lxor hx hb d_M_toBits_38 ?_
  refine lv_land hx hb d_M_toBits_39 ?_
  obtain ⟨v17, ev17, h⟩ := st_ob h
  refine fg_topl (y := v17) ev17.symm ?_
  refine lv_lload_n hx hb d_M_toBits_40 rfl (lv_at hl 0 rfl) ?_
  refine lv_ldc2 hx hb hown (hts _ u_2071) d_M_toBits_41 ?_
  refine lv_lxor hx hb d_M_toBits_44 ?_
  refine lv_land hx hb d_M_toBits_45 ?_
  refine lv_lconst (v := 0) hx hb d_M_toBits_46 (by decide) ?_
  refine W.lcmp hx hb d_M_toBits_47 ?_
  refine lv_if_eq (tgt := 53) hx hb d_M_toBits_48 (by decide) (fun c18 => ?_) (fun c18 => ?_)
  · have h := if_t ((lg_cmp_eq _ _).mp c18) h
    refine lv_aload_n hx hb d_M_toBits_53 rfl (lv_at hl 1 rfl) ?_
    refine g_M_52 hx hb hts hown hK hP hwf hj0 (hts _ u_1793) d_M_toBits_54 ?_
    obtain ⟨j19, e20, h⟩ := bd_ob h
    have hj19 : j19 < N 16 := (hwf.2.1 1 j0 52 _ e20 (by decide) hj0)
    refine me_opt (j := j19) e20 ?_
    refine lv_iload_n hx hb d_M_toBits_57 rfl (lv_at hl 2 rfl) ?_
    refine lv_aload_n hx hb d_M_toBits_58 rfl (lv_at hl 1 rfl) ?_
    refine g_M_52 hx hb hts hown hK hP hwf hj0 (hts _ u_1793) d_M_toBits_59 ?_
    obtain ⟨j21, e22, h⟩ := bd_ob h
    have hj21 : j21 < N 16 := (hwf.2.1 1 j0 52 _ e22 (by decide) hj0)
    refine me_opt (j := j21) e22 ?_
    refine lv_iload_n hx hb d_M_toBits_62 rfl (lv_at hl 2 rfl) ?_
    obtain ⟨g23, h⟩ := gd_ob h
    refine me_lald hx hb hK hP hwf hj21 g23 d_M_toBits_63 ?_
    refine lv_lload_n hx hb d_M_toBits_64 rfl (lv_at hl 0 rfl) ?_
    refine lv_land hx hb d_M_toBits_65 ?_
    refine lv_aload_n hx hb d_M_toBits_66 rfl (lv_at hl 1 rfl) ?_
    refine g_M_54 hx hb hts hown hK hP hwf hj0 (hts _ u_1795) d_M_toBits_67 ?_
    obtain ⟨j24, e25, h⟩ := bd_ob h
    have hj24 : j24 < N 16 := (hwf.2.1 1 j0 54 _ e25 (by decide) hj0)
    refine me_opt (j := j24) e25 ?_
    refine lv_iload_n hx hb d_M_toBits_70 rfl (lv_at hl 2 rfl) ?_
    obtain ⟨g26, h⟩ := gd_ob h
    refine me_lald hx hb hK hP hwf hj24 g26 d_M_toBits_71 ?_
    refine lv_lload_n hx hb d_M_toBits_72 rfl (lv_at hl 0 rfl) ?_
    refine lv_ldc2 hx hb hown (hts _ u_2071) d_M_toBits_73 ?_
    refine lv_lxor hx hb d_M_toBits_76 ?_
    refine lv_land hx hb d_M_toBits_77 ?_
    refine lv_lor hx hb d_M_toBits_78 ?_
    obtain ⟨v27, ev27, h⟩ := st_ob h
    refine fg_topl (y := v27) ev27.symm ?_
    obtain ⟨g28, h⟩ := gd_ob h
    obtain ⟨M29, eM29, h⟩ := st_ob h
    refine me_last eM29 hx hb hK hP hD hwf hS hj19 g28 d_M_toBits_79 (fun H locs hP hD hwf hS => ?_)
    refine lv_aload_n hx hb d_M_toBits_80 rfl (lv_at hl 1 rfl) ?_
    refine g_M_53 hx hb hts hown hK hP hwf hj0 (hts _ u_1794) d_M_toBits_81 ?_
    obtain ⟨j30, e31, h⟩ := bd_ob h
    have hj30 : j30 < N 16 := (hwf.2.1 1 j0 53 _ e31 (by decide) hj0)
    refine me_opt (j := j30) e31 ?_
    refine lv_iload_n hx hb d_M_toBits_84 rfl (lv_at hl 2 rfl) ?_
    refine lv_aload_n hx hb d_M_toBits_85 rfl (lv_at hl 1 rfl) ?_
    refine g_M_53 hx hb hts hown hK hP hwf hj0 (hts _ u_1794) d_M_toBits_86 ?_
    obtain ⟨j32, e33, h⟩ := bd_ob h
    have hj32 : j32 < N 16 := (hwf.2.1 1 j0 53 _ e33 (by decide) hj0)
    refine me_opt (j := j32) e33 ?_
    refine lv_iload_n hx hb d_M_toBits_89 rfl (lv_at hl 2 rfl) ?_
    obtain ⟨g34, h⟩ := gd_ob h
    refine me_lald hx hb hK hP hwf hj32 g34 d_M_toBits_90 ?_
    refine lv_lload_n hx hb d_M_toBits_91 rfl (lv_at hl 0 rfl) ?_
    refine lv_land hx hb d_M_toBits_92 ?_
    obtain ⟨g35, h⟩ := gd_ob h
    obtain ⟨M36, eM36, h⟩ := st_ob h
    refine me_last eM36 hx hb hK hP hD hwf hS hj30 g35 d_M_toBits_93 (fun H locs hP hD hwf hS => ?_)
    refine lv_aload_n hx hb d_M_toBits_94 rfl (lv_at hl 1 rfl) ?_
    refine lv_iload_n hx hb d_M_toBits_95 rfl (lv_at hl 2 rfl) ?_
    obtain ⟨M37, r38, eM37, h⟩ := b2_ob h
    refine me_theni0 (M1 := M37) (me_runV (C := "FilterGuardModel") (As := [.int x1]) (rest := []) ⟨hx, hb, hml, hown, hts⟩ (c_M_isEmpty l D ad ca N M36 M37 r38 j0 x1 eM37 hwf hj0 _) rfl (by show fg_nm y_M_isEmpty 1; decide +kernel) u_2157 u_2159 u_115 u_192 u_2160 ⟨Nat.le_of_ble_eq_true rfl, Nat.le_of_ble_eq_true rfl⟩ hX hz hK hP hD hwf hS hA hj0 (by decide) rfl rfl rfl hl.1 (Nat.le_of_ble_eq_true rfl) d_M_toBits_96 ⟨Nat.le_of_ble_eq_true rfl, Nat.le_of_ble_eq_true rfl⟩) hP hD hK hS hA rfl rfl (fun H locs hw hP hD hS => ?_)
    obtain ⟨hwf, zr38⟩ := hw
    refine lv_if_ne (tgt := 106) hx hb d_M_toBits_99 (by decide) (fun c39 => ?_) (fun c39 => ?_)
    · have h := if_f c39 h
      refine lv_iconst (v := 0) hx hb d_M_toBits_106 (by decide) ?_
      have z40 : (0 : Int32) = 1 ∨ (0 : Int32) = 0 := (by decide)
      cases h
      exact fg_retz () hx hb hr hlocks (me_nz z40) ⟨rfl, ⟨hwf, z40⟩⟩ hP (hK.sub (tys' := []) [] rfl) hD hS (Nat.le_of_ble_eq_true rfl) (Nat.le_of_ble_eq_true rfl) d_M_toBits_107
    have h := if_t c39 h
    refine lv_iconst (v := 1) hx hb d_M_toBits_102 (by decide) ?_
    refine lv_goto (tgt := 107) hx hb d_M_toBits_103 (by decide) ?_
    have z41 : (1 : Int32) = 1 ∨ (1 : Int32) = 0 := (by decide)
    cases h
    exact fg_retz () hx hb hr hlocks (me_nz z41) ⟨rfl, ⟨hwf, z41⟩⟩ hP (hK.sub (tys' := []) [] rfl) hD hS (Nat.le_of_ble_eq_true rfl) (Nat.le_of_ble_eq_true rfl) d_M_toBits_107
  have h := if_f (fun z => c18 ((lg_cmp_eq _ _).mpr z)) h
  refine lv_iconst (v := 0) hx hb d_M_toBits_51 (by decide) ?_
  have z42 : (0 : Int32) = 1 ∨ (0 : Int32) = 0 := (by decide)
  cases h
  exact fg_retz () hx hb hr hlocks (me_nz z42) ⟨rfl, ⟨hwf, z42⟩⟩ hP (hK.sub (tys' := []) [] rfl) hD hS (Nat.le_of_ble_eq_true rfl) (Nat.le_of_ble_eq_true rfl) d_M_toBits_52
theorem d_M_settle_50 : decode prog_14_method_17_code 50 = .ok (.istore_n 2, 1) := by decide +kernel
theorem d_M_settle_51 : decode prog_14_method_17_code 51 = .ok (.iinc 3 1, 3) := by decide +kernel
theorem d_M_settle_54 : decode prog_14_method_17_code 54 = .ok (.goto (-50), 3) := by decide +kernel
theorem d_M_settle_49 : decode prog_14_method_17_code 49 = .ok (.iconst 0, 1) := by decide +kernel
theorem d_M_settle_4 : decode prog_14_method_17_code 4 = .ok (.iload_n 3, 1) := by decide +kernel
theorem d_M_settle_5 : decode prog_14_method_17_code 5 = .ok (.iconst 3, 1) := by decide +kernel
theorem d_M_settle_6 : decode prog_14_method_17_code 6 = .ok (.if_icmp .ge 51, 3) := by decide +kernel
theorem d_M_settle_57 : decode prog_14_method_17_code 57 = .ok (.iload_n 2, 1) := by decide +kernel
theorem d_M_settle_58 : decode prog_14_method_17_code 58 = .ok (.ireturn, 1) := by decide +kernel
theorem d_M_settle_9 : decode prog_14_method_17_code 9 = .ok (.iload_n 2, 1) := by decide +kernel
theorem d_M_settle_10 : decode prog_14_method_17_code 10 = .ok (.ifCond .eq 47, 3) := by decide +kernel
theorem d_M_settle_13 : decode prog_14_method_17_code 13 = .ok (.aload_n 0, 1) := by decide +kernel
theorem d_M_settle_14 : decode prog_14_method_17_code 14 = .ok (.iload_n 1, 1) := by decide +kernel
theorem d_M_settle_15 : decode prog_14_method_17_code 15 = .ok (.invokevirtual 180, 3) := by decide +kernel
theorem u_2147 : Cond.methodLink "FilterGuardModel" 180 ⟨"FilterGuardModel", "byBits", "(I)Z"⟩ ∈ fg_g := fg_in (List.mem_of_getElem? (i := 2147) (by decide +kernel)) rfl
theorem u_2150 : Cond.code ⟨"FilterGuardModel", "byBits", "(I)Z"⟩ prog_14_method_13_code 2 (some .boolean) ∈ fg_g := fg_in (List.mem_of_getElem? (i := 2150) (by decide +kernel)) rfl
theorem u_2149 : Cond.instanceMethod ⟨"FilterGuardModel", "byBits", "(I)Z"⟩ ∈ fg_g := fg_in (List.mem_of_getElem? (i := 2149) (by decide +kernel)) rfl
theorem u_114 : Cond.selects "FilterGuardModel" ⟨"FilterGuardModel", "byBits", "(I)Z"⟩ ⟨"FilterGuardModel", "byBits", "(I)Z"⟩ ∈ fg_g := fg_in (List.mem_of_getElem? (i := 114) (by decide +kernel)) rfl
theorem d_M_settle_18 : decode prog_14_method_17_code 18 = .ok (.ifCond .eq 31, 3) := by decide +kernel
theorem d_M_settle_21 : decode prog_14_method_17_code 21 = .ok (.aload_n 0, 1) := by decide +kernel
theorem d_M_settle_22 : decode prog_14_method_17_code 22 = .ok (.iload_n 1, 1) := by decide +kernel
theorem d_M_settle_23 : decode prog_14_method_17_code 23 = .ok (.invokevirtual 183, 3) := by decide +kernel
theorem u_2161 : Cond.methodLink "FilterGuardModel" 183 ⟨"FilterGuardModel", "toSigned", "(I)Z"⟩ ∈ fg_g := fg_in (List.mem_of_getElem? (i := 2161) (by decide +kernel)) rfl
theorem u_2164 : Cond.code ⟨"FilterGuardModel", "toSigned", "(I)Z"⟩ prog_14_method_14_code 2 (some .boolean) ∈ fg_g := fg_in (List.mem_of_getElem? (i := 2164) (by decide +kernel)) rfl
theorem u_2163 : Cond.instanceMethod ⟨"FilterGuardModel", "toSigned", "(I)Z"⟩ ∈ fg_g := fg_in (List.mem_of_getElem? (i := 2163) (by decide +kernel)) rfl
theorem u_116 : Cond.selects "FilterGuardModel" ⟨"FilterGuardModel", "toSigned", "(I)Z"⟩ ⟨"FilterGuardModel", "toSigned", "(I)Z"⟩ ∈ fg_g := fg_in (List.mem_of_getElem? (i := 116) (by decide +kernel)) rfl
theorem d_M_settle_26 : decode prog_14_method_17_code 26 = .ok (.ifCond .eq 23, 3) := by decide +kernel
theorem d_M_settle_29 : decode prog_14_method_17_code 29 = .ok (.aload_n 0, 1) := by decide +kernel
theorem d_M_settle_30 : decode prog_14_method_17_code 30 = .ok (.iload_n 1, 1) := by decide +kernel
theorem d_M_settle_31 : decode prog_14_method_17_code 31 = .ok (.invokevirtual 186, 3) := by decide +kernel
theorem u_2165 : Cond.methodLink "FilterGuardModel" 186 ⟨"FilterGuardModel", "toUnsigned", "(I)Z"⟩ ∈ fg_g := fg_in (List.mem_of_getElem? (i := 2165) (by decide +kernel)) rfl
theorem u_2168 : Cond.code ⟨"FilterGuardModel", "toUnsigned", "(I)Z"⟩ prog_14_method_15_code 2 (some .boolean) ∈ fg_g := fg_in (List.mem_of_getElem? (i := 2168) (by decide +kernel)) rfl
theorem u_2167 : Cond.instanceMethod ⟨"FilterGuardModel", "toUnsigned", "(I)Z"⟩ ∈ fg_g := fg_in (List.mem_of_getElem? (i := 2167) (by decide +kernel)) rfl
theorem u_117 : Cond.selects "FilterGuardModel" ⟨"FilterGuardModel", "toUnsigned", "(I)Z"⟩ ⟨"FilterGuardModel", "toUnsigned", "(I)Z"⟩ ∈ fg_g := fg_in (List.mem_of_getElem? (i := 117) (by decide +kernel)) rfl
theorem d_M_settle_34 : decode prog_14_method_17_code 34 = .ok (.ifCond .eq 15, 3) := by decide +kernel
theorem d_M_settle_37 : decode prog_14_method_17_code 37 = .ok (.aload_n 0, 1) := by decide +kernel
theorem d_M_settle_38 : decode prog_14_method_17_code 38 = .ok (.iload_n 1, 1) := by decide +kernel
theorem d_M_settle_39 : decode prog_14_method_17_code 39 = .ok (.invokevirtual 189, 3) := by decide +kernel
theorem u_2169 : Cond.methodLink "FilterGuardModel" 189 ⟨"FilterGuardModel", "toBits", "(I)Z"⟩ ∈ fg_g := fg_in (List.mem_of_getElem? (i := 2169) (by decide +kernel)) rfl
theorem u_2172 : Cond.code ⟨"FilterGuardModel", "toBits", "(I)Z"⟩ prog_14_method_16_code 4 (some .boolean) ∈ fg_g := fg_in (List.mem_of_getElem? (i := 2172) (by decide +kernel)) rfl
theorem u_2171 : Cond.instanceMethod ⟨"FilterGuardModel", "toBits", "(I)Z"⟩ ∈ fg_g := fg_in (List.mem_of_getElem? (i := 2171) (by decide +kernel)) rfl
theorem u_118 : Cond.selects "FilterGuardModel" ⟨"FilterGuardModel", "toBits", "(I)Z"⟩ ⟨"FilterGuardModel", "toBits", "(I)Z"⟩ ∈ fg_g := fg_in (List.mem_of_getElem? (i := 118) (by decide +kernel)) rfl
theorem d_M_settle_42 : decode prog_14_method_17_code 42 = .ok (.ifCond .eq 7, 3) := by decide +kernel
theorem d_M_settle_45 : decode prog_14_method_17_code 45 = .ok (.iconst 1, 1) := by decide +kernel
theorem d_M_settle_46 : decode prog_14_method_17_code 46 = .ok (.goto 4, 3) := by decide +kernel
theorem d_M_settle_0 : decode prog_14_method_17_code 0 = .ok (.iconst 1, 1) := by decide +kernel
theorem d_M_settle_1 : decode prog_14_method_17_code 1 = .ok (.istore_n 2, 1) := by decide +kernel
theorem d_M_settle_2 : decode prog_14_method_17_code 2 = .ok (.iconst 0, 1) := by decide +kernel
theorem d_M_settle_3 : decode prog_14_method_17_code 3 = .ok (.istore_n 3, 1) := by decide +kernel
abbrev y_M_settle : MethodName := ⟨"FilterGuardModel", "settle", "(I)Z"⟩
def f_M_settle_b50 (k4 : me_M → Int32 → Int32 → Option (me_M × Int32)) (j0 : Nat) (x1 : Int32) (M : me_M) (y3 : Int32) (s0 : Int32) : Option (me_M × Int32) := k4 M s0 (y3 + 1)
def f_M_settle_b49 (k4 : me_M → Int32 → Int32 → Option (me_M × Int32)) (j0 : Nat) (x1 : Int32) (M : me_M) (y3 : Int32) : Option (me_M × Int32) := f_M_settle_b50 k4 j0 x1 M y3 (0 : Int32)
def f_M_settle_l4 (j0 : Nat) (x1 : Int32) : Nat → me_M → Int32 → Int32 → Option (me_M × Int32)
  | 0, _, _, _ => none
  | fu + 1, M, y2, y3 => (if 3 ≤ y3 then some (M, y2) else (if y2 = 0 then some (M, y2) else b2 (f_M_byBits M j0 x1) (fun (M5 : me_M) (r6 : Int32) => (if r6 = 0 then f_M_settle_b49 (f_M_settle_l4 j0 x1 fu) j0 x1 M5 y3 else b2 (f_M_toSigned M5 j0 x1) (fun (M8 : me_M) (r9 : Int32) => (if r9 = 0 then f_M_settle_b49 (f_M_settle_l4 j0 x1 fu) j0 x1 M8 y3 else b2 (f_M_toUnsigned M8 j0 x1) (fun (M11 : me_M) (r12 : Int32) => (if r12 = 0 then f_M_settle_b49 (f_M_settle_l4 j0 x1 fu) j0 x1 M11 y3 else b2 (f_M_toBits M11 j0 x1) (fun (M14 : me_M) (r15 : Int32) => (if r15 = 0 then f_M_settle_b49 (f_M_settle_l4 j0 x1 fu) j0 x1 M14 y3 else f_M_settle_b50 (f_M_settle_l4 j0 x1 fu) j0 x1 M14 y3 (1 : Int32)))))))))))
def f_M_settle (M : me_M) (j0 : Nat) (x1 : Int32) : Option (me_M × Int32) := f_M_settle_l4 j0 x1 fuel M (1 : Int32) (0 : Int32)
def rm_M_settle : Room := { frames := 4, cells := 0, slots := 0, locals := 87 }
abbrev q_M_settle (D : va_G) (ad : Nat → Nat → Nat) (ca : Nat → ClassId) (N : Nat → Nat) (M9 : me_M) (r9 : Int32) (A : Nat → Prop) : Array Value → Jvm.State → Outcome → Jvm.State → Prop := va_Qi (fun r (_ : Unit) => r = r9 ∧ me_wf N M9 ∧ (r9 = 1 ∨ r9 = 0)) (fg_B D A (fun _ => me_W ad ca M9) (fun _ => [])) A
set_option maxHeartbeats 4000000 in
set_option maxRecDepth 100000 in
theorem c_M_settle (l : Launch) (D : va_G) (ad : Nat → Nat → Nat) (ca : Nat → ClassId) (N : Nat → Nat) (M M9 : me_M) (r9 : Int32) (j0 : Nat) (x1 : Int32) (h : f_M_settle M j0 x1 = (some (M9, r9))) (hwf : me_wf N M) (hj0 : j0 < N 1) (sz : Nat) : Met l y_M_settle (fg_w y_M_settle prog_14_method_17_code 4 (some .boolean)) rm_M_settle (va_Pc [.ref (ad 1 j0), .int x1] (fz_P D (me_T ca) (me_W ad ca M) sz)) (q_M_settle D ad ca N M9 r9 (va_A (me_W ad ca M) sz)) rm_M_settle.cells rm_M_settle.slots (va_A (me_W ad ca M) sz) := by
  refine fz_enter (fun A => q_M_settle D ad ca N M9 r9 A) (by decide +kernel) (Nat.le_of_ble_eq_true rfl) ?_
  intro p e s m below meth c ls A hx hb hml hown hts hr hlocks hin hP hK hD hS hA hX hl hz
  have hl : lv_has ls 4 [(0, .ref (ad 1 j0)), (1, .int x1)] := hl
  unfold f_M_settle at h
  have b_50 : ∀ (k4 : me_M → Int32 → Int32 → Option (me_M × Int32)) (hk4 : ∀ (M : me_M) (y2 : Int32) (y3 : Int32) (H : Heap) (locs : List Loc) (ls : Array Slot), k4 M y2 y3 = (some (M9, r9)) → (y2 = 1 ∨ y2 = 0) → me_wf N M → va_P D classes (me_W ad ca M) H → va_D A (me_W ad ca M) → va_S A s.heap H locs → lv_has ls 4 [(0, .ref (ad 1 j0)), (1, .int x1), (2, .int y2), (3, .int y3)] → W p l e rm_M_settle s m [.ref (ad 1 j0), .int x1].toArray below meth c H locs 0 0 (MQ below (q_M_settle D ad ca N M9 r9 A) [.ref (ad 1 j0), .int x1].toArray s rm_M_settle.cells rm_M_settle.slots A) (F0 m 4 ls [])), ∀ (M : me_M) (y3 : Int32) (s0 : Int32) (H : Heap) (locs : List Loc) (ls : Array Slot), f_M_settle_b50 k4 j0 x1 M y3 s0 = (some (M9, r9)) → (s0 = 1 ∨ s0 = 0) → me_wf N M → va_P D classes (me_W ad ca M) H → va_D A (me_W ad ca M) → va_S A s.heap H locs → lv_has ls 4 [(0, .ref (ad 1 j0)), (1, .int x1), (3, .int y3)] → W p l e rm_M_settle s m [.ref (ad 1 j0), .int x1].toArray below meth c H locs 0 0 (MQ below (q_M_settle D ad ca N M9 r9 A) [.ref (ad 1 j0), .int x1].toArray s rm_M_settle.cells rm_M_settle.slots A) (F0 m 50 ls [.int s0]) := by
    intro k4 hk4 M y3 s0 H locs ls h zs0 hwf hP hD hS hl
    unfold f_M_settle_b50 at h
    refine lv_istore_n (lv' := [(2, .int s0), (0, .ref (ad 1 j0)), (1, .int x1), (3, .int y3)]) hx hb d_M_settle_50 rfl hl (by decide) rfl (fun ls hl => ?_)
    refine lv_iinc (v := y3 + 1) (lv' := [(3, .int (y3 + 1)), (2, .int s0), (0, .ref (ad 1 j0)), (1, .int x1)]) hx hb d_M_settle_51 hl (k := 3) rfl (by rfl) (by decide) rfl (fun ls hl => ?_)
    refine lv_goto (tgt := 4) hx hb d_M_settle_54 (by decide) ?_
    exact hk4 M s0 (y3 + 1) _ _ _ h zs0 hwf hP hD hS (lv_sub hl [2, 3, 1, 0] rfl)
  have b_49 : ∀ (k4 : me_M → Int32 → Int32 → Option (me_M × Int32)) (hk4 : ∀ (M : me_M) (y2 : Int32) (y3 : Int32) (H : Heap) (locs : List Loc) (ls : Array Slot), k4 M y2 y3 = (some (M9, r9)) → (y2 = 1 ∨ y2 = 0) → me_wf N M → va_P D classes (me_W ad ca M) H → va_D A (me_W ad ca M) → va_S A s.heap H locs → lv_has ls 4 [(0, .ref (ad 1 j0)), (1, .int x1), (2, .int y2), (3, .int y3)] → W p l e rm_M_settle s m [.ref (ad 1 j0), .int x1].toArray below meth c H locs 0 0 (MQ below (q_M_settle D ad ca N M9 r9 A) [.ref (ad 1 j0), .int x1].toArray s rm_M_settle.cells rm_M_settle.slots A) (F0 m 4 ls [])), ∀ (M : me_M) (y3 : Int32) (H : Heap) (locs : List Loc) (ls : Array Slot), f_M_settle_b49 k4 j0 x1 M y3 = (some (M9, r9)) → me_wf N M → va_P D classes (me_W ad ca M) H → va_D A (me_W ad ca M) → va_S A s.heap H locs → lv_has ls 4 [(0, .ref (ad 1 j0)), (1, .int x1), (3, .int y3)] → W p l e rm_M_settle s m [.ref (ad 1 j0), .int x1].toArray below meth c H locs 0 0 (MQ below (q_M_settle D ad ca N M9 r9 A) [.ref (ad 1 j0), .int x1].toArray s rm_M_settle.cells rm_M_settle.slots A) (F0 m 49 ls []) := by
    intro k4 hk4 M y3 H locs ls h hwf hP hD hS hl
    unfold f_M_settle_b49 at h
    refine lv_iconst (v := 0) hx hb d_M_settle_49 (by decide) ?_
    exact b_50 _ hk4 M y3 (0 : Int32) _ _ _ h (by decide) hwf hP hD hS (lv_sub hl [0, 1, 2] rfl)
  have b_4 : ∀ (fu : Nat), ∀ (M : me_M) (y2 : Int32) (y3 : Int32) (H : Heap) (locs : List Loc) (ls : Array Slot), f_M_settle_l4 j0 x1 fu M y2 y3 = (some (M9, r9)) → (y2 = 1 ∨ y2 = 0) → me_wf N M → va_P D classes (me_W ad ca M) H → va_D A (me_W ad ca M) → va_S A s.heap H locs → lv_has ls 4 [(0, .ref (ad 1 j0)), (1, .int x1), (2, .int y2), (3, .int y3)] → W p l e rm_M_settle s m [.ref (ad 1 j0), .int x1].toArray below meth c H locs 0 0 (MQ below (q_M_settle D ad ca N M9 r9 A) [.ref (ad 1 j0), .int x1].toArray s rm_M_settle.cells rm_M_settle.slots A) (F0 m 4 ls []) := by
    intro fu
    induction fu with
    | zero =>
      intro M y2 y3 H locs ls h zy2 hwf hP hD hS hl
      cases h
    | succ fu ih =>
      intro M y2 y3 H locs ls h zy2 hwf hP hD hS hl
      unfold f_M_settle_l4 at h
      refine lv_iload_n hx hb d_M_settle_4 rfl (lv_at hl 3 rfl) ?_
      refine lv_iconst (v := 3) hx hb d_M_settle_5 (by decide) ?_
      refine lv_icmp_ge (tgt := 57) hx hb d_M_settle_6 (by decide) (fun c1 => ?_) (fun c1 => ?_)
      · have h := if_t c1 h
        refine lv_iload_n hx hb d_M_settle_57 rfl (lv_at hl 2 rfl) ?_
        have z2 : y2 = 1 ∨ y2 = 0 := zy2
        cases h
        exact fg_retz () hx hb hr hlocks (me_nz z2) ⟨rfl, ⟨hwf, z2⟩⟩ hP (hK.sub (tys' := []) [] rfl) hD hS (Nat.le_of_ble_eq_true rfl) (Nat.le_of_ble_eq_true rfl) d_M_settle_58
      have h := if_f c1 h
      refine lv_iload_n hx hb d_M_settle_9 rfl (lv_at hl 2 rfl) ?_
      refine lv_if_eq (tgt := 57) hx hb d_M_settle_10 (by decide) (fun c3 => ?_) (fun c3 => ?_)
      · have h := if_t c3 h
        refine lv_iload_n hx hb d_M_settle_57 rfl (lv_at hl 2 rfl) ?_
        have z4 : y2 = 1 ∨ y2 = 0 := zy2
        cases h
        exact fg_retz () hx hb hr hlocks (me_nz z4) ⟨rfl, ⟨hwf, z4⟩⟩ hP (hK.sub (tys' := []) [] rfl) hD hS (Nat.le_of_ble_eq_true rfl) (Nat.le_of_ble_eq_true rfl) d_M_settle_58
      have h := if_f c3 h
      refine lv_aload_n hx hb d_M_settle_13 rfl (lv_at hl 0 rfl) ?_
      refine lv_iload_n hx hb d_M_settle_14 rfl (lv_at hl 1 rfl) ?_
      obtain ⟨M5, r6, eM5, h⟩ := b2_ob h
      refine me_theni0 (M1 := M5) (me_runV (C := "FilterGuardModel") (As := [.int x1]) (rest := []) ⟨hx, hb, hml, hown, hts⟩ (c_M_byBits l D ad ca N M M5 r6 j0 x1 eM5 hwf hj0 _) rfl (by show fg_nm y_M_byBits 1; decide +kernel) u_2147 u_2149 u_114 u_192 u_2150 ⟨Nat.le_of_ble_eq_true rfl, Nat.le_of_ble_eq_true rfl⟩ hX hz hK hP hD hwf hS hA hj0 (by decide) rfl rfl rfl hl.1 (Nat.le_of_ble_eq_true rfl) d_M_settle_15 ⟨Nat.le_of_ble_eq_true rfl, Nat.le_of_ble_eq_true rfl⟩) hP hD hK hS hA rfl rfl (fun H locs hw hP hD hS => ?_)
      obtain ⟨hwf, zr6⟩ := hw
      refine lv_if_eq (tgt := 49) hx hb d_M_settle_18 (by decide) (fun c7 => ?_) (fun c7 => ?_)
      · have h := if_t c7 h
        exact b_49 _ ih M5 y3 _ _ _ h hwf hP hD hS (lv_sub hl [0, 1, 3] rfl)
      have h := if_f c7 h
      refine lv_aload_n hx hb d_M_settle_21 rfl (lv_at hl 0 rfl) ?_
      refine lv_iload_n hx hb d_M_settle_22 rfl (lv_at hl 1 rfl) ?_
      obtain ⟨M8, r9, eM8, h⟩ := b2_ob h
      refine me_theni0 (M1 := M8) (me_runV (C := "FilterGuardModel") (As := [.int x1]) (rest := []) ⟨hx, hb, hml, hown, hts⟩ (c_M_toSigned l D ad ca N M5 M8 r9 j0 x1 eM8 hwf hj0 _) rfl (by show fg_nm y_M_toSigned 1; decide +kernel) u_2161 u_2163 u_116 u_192 u_2164 ⟨Nat.le_of_ble_eq_true rfl, Nat.le_of_ble_eq_true rfl⟩ hX hz hK hP hD hwf hS hA hj0 (by decide) rfl rfl rfl hl.1 (Nat.le_of_ble_eq_true rfl) d_M_settle_23 ⟨Nat.le_of_ble_eq_true rfl, Nat.le_of_ble_eq_true rfl⟩) hP hD hK hS hA rfl rfl (fun H locs hw hP hD hS => ?_)
      obtain ⟨hwf, zr9⟩ := hw
      refine lv_if_eq (tgt := 49) hx hb d_M_settle_26 (by decide) (fun c10 => ?_) (fun c10 => ?_)
      · have h := if_t c10 h
        exact b_49 _ ih M8 y3 _ _ _ h hwf hP hD hS (lv_sub hl [0, 1, 3] rfl)
      have h := if_f c10 h
      refine lv_aload_n hx hb d_M_settle_29 rfl (lv_at hl 0 rfl) ?_
      refine lv_iload_n hx hb d_M_settle_30 rfl (lv_at hl 1 rfl) ?_
      obtain ⟨M11, r12, eM11, h⟩ := b2_ob h
      refine me_theni0 (M1 := M11) (me_runV (C := "FilterGuardModel") (As := [.int x1]) (rest := []) ⟨hx, hb, hml, hown, hts⟩ (c_M_toUnsigned l D ad ca N M8 M11 r12 j0 x1 eM11 hwf hj0 _) rfl (by show fg_nm y_M_toUnsigned 1; decide +kernel) u_2165 u_2167 u_117 u_192 u_2168 ⟨Nat.le_of_ble_eq_true rfl, Nat.le_of_ble_eq_true rfl⟩ hX hz hK hP hD hwf hS hA hj0 (by decide) rfl rfl rfl hl.1 (Nat.le_of_ble_eq_true rfl) d_M_settle_31 ⟨Nat.le_of_ble_eq_true rfl, Nat.le_of_ble_eq_true rfl⟩) hP hD hK hS hA rfl rfl (fun H locs hw hP hD hS => ?_)
      obtain ⟨hwf, zr12⟩ := hw
      refine lv_if_eq (tgt := 49) hx hb d_M_settle_34 (by decide) (fun c13 => ?_) (fun c13 => ?_)
      · have h := if_t c13 h
        exact b_49 _ ih M11 y3 _ _ _ h hwf hP hD hS (lv_sub hl [0, 1, 3] rfl)
      have h := if_f c13 h
      refine lv_aload_n hx hb d_M_settle_37 rfl (lv_at hl 0 rfl) ?_
      refine lv_iload_n hx hb d_M_settle_38 rfl (lv_at hl 1 rfl) ?_
      obtain ⟨M14, r15, eM14, h⟩ := b2_ob h
      refine me_theni0 (M1 := M14) (me_runV (C := "FilterGuardModel") (As := [.int x1]) (rest := []) ⟨hx, hb, hml, hown, hts⟩ (c_M_toBits l D ad ca N M11 M14 r15 j0 x1 eM14 hwf hj0 _) rfl (by show fg_nm y_M_toBits 1; decide +kernel) u_2169 u_2171 u_118 u_192 u_2172 ⟨Nat.le_of_ble_eq_true rfl, Nat.le_of_ble_eq_true rfl⟩ hX hz hK hP hD hwf hS hA hj0 (by decide) rfl rfl rfl hl.1 (Nat.le_of_ble_eq_true rfl) d_M_settle_39 ⟨Nat.le_of_ble_eq_true rfl, Nat.le_of_ble_eq_true rfl⟩) hP hD hK hS hA rfl rfl (fun H locs hw hP hD hS => ?_)
      obtain ⟨hwf, zr15⟩ := hw
      refine lv_if_eq (tgt := 49) hx hb d_M_settle_42 (by decide) (fun c16 => ?_) (fun c16 => ?_)
      · have h := if_t c16 h
        exact b_49 _ ih M14 y3 _ _ _ h hwf hP hD hS (lv_sub hl [0, 1, 3] rfl)
      have h := if_f c16 h
      refine lv_iconst (v := 1) hx hb d_M_settle_45 (by decide) ?_
      refine lv_goto (tgt := 50) hx hb d_M_settle_46 (by decide) ?_
      exact b_50 _ ih M14 y3 (1 : Int32) _ _ _ h (by decide) hwf hP hD hS (lv_sub hl [0, 1, 3] rfl)
  refine lv_iconst (v := 1) hx hb d_M_settle_0 (by decide) ?_
  refine lv_istore_n (lv' := [(2, .int 1), (0, .ref (ad 1 j0)), (1, .int x1)]) hx hb d_M_settle_1 rfl hl (by decide) rfl (fun ls hl => ?_)
  refine lv_iconst (v := 0) hx hb d_M_settle_2 (by decide) ?_
  refine lv_istore_n (lv' := [(3, .int 0), (2, .int 1), (0, .ref (ad 1 j0)), (1, .int x1)]) hx hb d_M_settle_3 rfl hl (by decide) rfl (fun ls hl => ?_)
  exact b_4 _ M (1 : Int32) (0 : Int32) _ _ _ h (by decide) hwf hP hD hS (lv_sub hl [2, 3, 1, 0] rfl)
