theorem d_G_count_0 : decode prog_1_method_18_code 0 = .ok (.iload_n 1, 1) := by decide +kernel
theorem d_G_count_1 : decode prog_1_method_18_code 1 = .ok (.tableswitch 74 0 4 #[35, 40, 45, 53, 66], 35) := by decide +kernel
theorem d_G_count_36 : decode prog_1_method_18_code 36 = .ok (.aload_n 0, 1) := by decide +kernel
theorem d_G_count_37 : decode prog_1_method_18_code 37 = .ok (.getfield 58, 3) := by decide +kernel
theorem d_G_count_40 : decode prog_1_method_18_code 40 = .ok (.ireturn, 1) := by decide +kernel
theorem d_G_count_41 : decode prog_1_method_18_code 41 = .ok (.aload_n 0, 1) := by decide +kernel
theorem d_G_count_42 : decode prog_1_method_18_code 42 = .ok (.getfield 85, 3) := by decide +kernel
theorem d_G_count_45 : decode prog_1_method_18_code 45 = .ok (.ireturn, 1) := by decide +kernel
theorem d_G_count_46 : decode prog_1_method_18_code 46 = .ok (.aload_n 0, 1) := by decide +kernel
theorem d_G_count_47 : decode prog_1_method_18_code 47 = .ok (.getfield 50, 3) := by decide +kernel
theorem d_G_count_50 : decode prog_1_method_18_code 50 = .ok (.getfield 229, 3) := by decide +kernel
theorem d_G_count_53 : decode prog_1_method_18_code 53 = .ok (.ireturn, 1) := by decide +kernel
theorem d_G_count_54 : decode prog_1_method_18_code 54 = .ok (.aload_n 0, 1) := by decide +kernel
theorem d_G_count_55 : decode prog_1_method_18_code 55 = .ok (.getfield 129, 3) := by decide +kernel
theorem d_G_count_58 : decode prog_1_method_18_code 58 = .ok (.ifCond .eq 7, 3) := by decide +kernel
theorem d_G_count_65 : decode prog_1_method_18_code 65 = .ok (.iconst 0, 1) := by decide +kernel
theorem d_G_count_66 : decode prog_1_method_18_code 66 = .ok (.ireturn, 1) := by decide +kernel
theorem d_G_count_61 : decode prog_1_method_18_code 61 = .ok (.iconst 1, 1) := by decide +kernel
theorem d_G_count_62 : decode prog_1_method_18_code 62 = .ok (.goto 4, 3) := by decide +kernel
theorem d_G_count_67 : decode prog_1_method_18_code 67 = .ok (.aload_n 0, 1) := by decide +kernel
theorem d_G_count_68 : decode prog_1_method_18_code 68 = .ok (.getfield 50, 3) := by decide +kernel
theorem d_G_count_71 : decode prog_1_method_18_code 71 = .ok (.getfield 217, 3) := by decide +kernel
theorem d_G_count_74 : decode prog_1_method_18_code 74 = .ok (.ireturn, 1) := by decide +kernel
theorem d_G_count_75 : decode prog_1_method_18_code 75 = .ok (.iload_n 1, 1) := by decide +kernel
theorem d_G_count_76 : decode prog_1_method_18_code 76 = .ok (.bipush 10, 2) := by decide +kernel
theorem d_G_count_78 : decode prog_1_method_18_code 78 = .ok (.if_icmp .lt 29, 3) := by decide +kernel
theorem d_G_count_107 : decode prog_1_method_18_code 107 = .ok (.iconst (-1), 1) := by decide +kernel
theorem d_G_count_108 : decode prog_1_method_18_code 108 = .ok (.ireturn, 1) := by decide +kernel
theorem d_G_count_81 : decode prog_1_method_18_code 81 = .ok (.iload_n 1, 1) := by decide +kernel
theorem d_G_count_82 : decode prog_1_method_18_code 82 = .ok (.bipush 10, 2) := by decide +kernel
theorem d_G_count_84 : decode prog_1_method_18_code 84 = .ok (.isub, 1) := by decide +kernel
theorem d_G_count_85 : decode prog_1_method_18_code 85 = .ok (.aload_n 0, 1) := by decide +kernel
theorem d_G_count_86 : decode prog_1_method_18_code 86 = .ok (.getfield 85, 3) := by decide +kernel
theorem d_G_count_89 : decode prog_1_method_18_code 89 = .ok (.if_icmp .ge 18, 3) := by decide +kernel
theorem d_G_count_92 : decode prog_1_method_18_code 92 = .ok (.aload_n 0, 1) := by decide +kernel
theorem d_G_count_93 : decode prog_1_method_18_code 93 = .ok (.getfield 15, 3) := by decide +kernel
theorem d_G_count_96 : decode prog_1_method_18_code 96 = .ok (.iload_n 1, 1) := by decide +kernel
theorem d_G_count_97 : decode prog_1_method_18_code 97 = .ok (.bipush 10, 2) := by decide +kernel
theorem d_G_count_99 : decode prog_1_method_18_code 99 = .ok (.isub, 1) := by decide +kernel
theorem d_G_count_100 : decode prog_1_method_18_code 100 = .ok (.aaload, 1) := by decide +kernel
theorem d_G_count_101 : decode prog_1_method_18_code 101 = .ok (.invokevirtual 237, 3) := by decide +kernel
theorem u_799 : Cond.methodLink "FilterGuard" 237 ⟨"FilterGuard$Store", "held", "()I"⟩ ∈ fg_g := fg_in (List.mem_of_getElem? (i := 799) (by decide +kernel)) rfl
theorem u_802 : Cond.code ⟨"FilterGuard$Store", "held", "()I"⟩ prog_12_method_7_code 3 (some .int) ∈ fg_g := fg_in (List.mem_of_getElem? (i := 802) (by decide +kernel)) rfl
theorem u_800 : Cond.instanceMethod ⟨"FilterGuard$Store", "held", "()I"⟩ ∈ fg_g := fg_in (List.mem_of_getElem? (i := 800) (by decide +kernel)) rfl
theorem u_801 : Cond.selects "FilterGuard$Store" ⟨"FilterGuard$Store", "held", "()I"⟩ ⟨"FilterGuard$Store", "held", "()I"⟩ ∈ fg_g := fg_in (List.mem_of_getElem? (i := 801) (by decide +kernel)) rfl
theorem d_G_count_104 : decode prog_1_method_18_code 104 = .ok (.goto 4, 3) := by decide +kernel
abbrev y_G_count : MethodName := ⟨"FilterGuard", "count", "(I)I"⟩
def rm_G_count : Room := { frames := 2, cells := 0, slots := 0, locals := 42 }
abbrev q_G_count (D : va_G) (ad : Nat → Nat → Nat) (ca : Nat → ClassId) (N : Nat → Nat) (M0 MZ : me_M) (RZ : Int32) (A : Nat → Prop) : Array Value → Jvm.State → Outcome → Jvm.State → Prop := va_Qi (fun r (_ : Unit) => r = RZ ∧ me_wf N MZ ∧ me_kp M0 MZ) (fg_B D A (fun _ => me_W ad ca MZ) (fun _ => [])) A
set_option maxHeartbeats 4000000 in
set_option maxRecDepth 100000 in
theorem c_G_count (l : Launch) (D : va_G) (ad : Nat → Nat → Nat) (ca : Nat → ClassId) (N : Nat → Nat) (M0 MZ : me_M) (RZ : Int32) (j0 : Nat) (x1 : Int32) (h : f_G_count M0 j0 x1 = (some (MZ, RZ))) (hwf : me_wf N M0) (hj0 : j0 < N 0) (sz : Nat) : Met l y_G_count (fg_w y_G_count prog_1_method_18_code 2 (some .int)) rm_G_count (va_Pc [.ref (ad 0 j0), .int x1] (fz_P D (me_T ca) (me_W ad ca M0) sz)) (q_G_count D ad ca N M0 MZ RZ (va_A (me_W ad ca M0) sz)) rm_G_count.cells rm_G_count.slots (va_A (me_W ad ca M0) sz) := by
  refine fz_enter (fun A => q_G_count D ad ca N M0 MZ RZ A) (by decide +kernel) (Nat.le_of_ble_eq_true rfl) ?_
  intro p e s m below meth c ls A hx hb hml hown hts hr hlocks hin hP hK hD hS hA hX hl hz
  have hl : lv_has ls 2 [(0, .ref (ad 0 j0)), (1, .int x1)] := hl
  unfold f_G_count at h
  have hkp : me_kp M0 M0 := me_kp.rf
  have hkb := hkp
  refine lv_iload_n hx hb d_G_count_0 rfl (lv_at hl 1 rfl) ?_
  refine lv_topi (fun w1 ew1 => ?_)
  by_cases n2 : w1 = 0
  · have h := if_t (ew1.symm.trans n2) h
    subst n2
    refine lv_tableIn (off := 35) (tgt := 36) hx hb d_G_count_1 (by decide) (by decide) (by decide) (by decide) ?_
    refine lv_aload_n hx hb d_G_count_36 rfl (lv_at hl 0 rfl) ?_
    refine g_G_1 hx hb hts hown hK hP hwf hj0 (hts _ u_694) d_G_count_37 ?_
    exact me_reti (me_kp M0) h hx hb hr hlocks hwf hkp hP hK hD hS d_G_count_40
  have h := if_f (fun z => n2 (ew1.trans z)) h
  by_cases n3 : w1 = 1
  · have h := if_t (ew1.symm.trans n3) h
    subst n3
    refine lv_tableIn (off := 40) (tgt := 41) hx hb d_G_count_1 (by decide) (by decide) (by decide) (by decide) ?_
    refine lv_aload_n hx hb d_G_count_41 rfl (lv_at hl 0 rfl) ?_
    refine g_G_3 hx hb hts hown hK hP hwf hj0 (hts _ u_696) d_G_count_42 ?_
    exact me_reti (me_kp M0) h hx hb hr hlocks hwf hkp hP hK hD hS d_G_count_45
  have h := if_f (fun z => n3 (ew1.trans z)) h
  by_cases n4 : w1 = 2
  · have h := if_t (ew1.symm.trans n4) h
    subst n4
    refine lv_tableIn (off := 45) (tgt := 46) hx hb d_G_count_1 (by decide) (by decide) (by decide) (by decide) ?_
    refine lv_aload_n hx hb d_G_count_46 rfl (lv_at hl 0 rfl) ?_
    refine g_G_8 hx hb hts hown hK hP hwf hj0 (hts _ u_701) d_G_count_47 ?_
    obtain ⟨j5, e6, h⟩ := bd_ob h
    have hj5 : j5 < N 5 := (hwf.2.1 0 j0 8 _ e6 (by decide) hj0)
    refine me_opt (j := j5) e6 ?_
    refine g_Machine_10 hx hb hts hown hK hP hwf hj5 (hts _ u_637) d_G_count_50 ?_
    exact me_reti (me_kp M0) h hx hb hr hlocks hwf hkp hP hK hD hS d_G_count_53
  have h := if_f (fun z => n4 (ew1.trans z)) h
  by_cases n7 : w1 = 3
  · have h := if_t (ew1.symm.trans n7) h
    subst n7
    refine lv_tableIn (off := 53) (tgt := 54) hx hb d_G_count_1 (by decide) (by decide) (by decide) (by decide) ?_
    refine lv_aload_n hx hb d_G_count_54 rfl (lv_at hl 0 rfl) ?_
    refine g_G_12 hx hb hts hown hK hP hwf hj0 (hts _ u_705) d_G_count_55 ?_
    have z8 := (hwf.2.2.2 0 j0 12 rfl)
    refine lv_if_eq (tgt := 65) hx hb d_G_count_58 (by decide) (fun c9 => ?_) (fun c9 => ?_)
    · have h := if_t c9 h
      refine lv_iconst (v := 0) hx hb d_G_count_65 (by decide) ?_
      exact me_reti (me_kp M0) h hx hb hr hlocks hwf hkp hP hK hD hS d_G_count_66
    have h := if_f c9 h
    refine lv_iconst (v := 1) hx hb d_G_count_61 (by decide) ?_
    refine lv_goto (tgt := 66) hx hb d_G_count_62 (by decide) ?_
    exact me_reti (me_kp M0) h hx hb hr hlocks hwf hkp hP hK hD hS d_G_count_66
  have h := if_f (fun z => n7 (ew1.trans z)) h
  by_cases n10 : w1 = 4
  · have h := if_t (ew1.symm.trans n10) h
    subst n10
    refine lv_tableIn (off := 66) (tgt := 67) hx hb d_G_count_1 (by decide) (by decide) (by decide) (by decide) ?_
    refine lv_aload_n hx hb d_G_count_67 rfl (lv_at hl 0 rfl) ?_
    refine g_G_8 hx hb hts hown hK hP hwf hj0 (hts _ u_701) d_G_count_68 ?_
    obtain ⟨j11, e12, h⟩ := bd_ob h
    have hj11 : j11 < N 5 := (hwf.2.1 0 j0 8 _ e12 (by decide) hj0)
    refine me_opt (j := j11) e12 ?_
    refine g_Machine_12 hx hb hts hown hK hP hwf hj11 (hts _ u_641) d_G_count_71 ?_
    exact me_reti (me_kp M0) h hx hb hr hlocks hwf hkp hP hK hD hS d_G_count_74
  have h := if_f (fun z => n10 (ew1.trans z)) h
  have in2 := lv_neT n2 (show (0 : Int32).toInt = 0 from rfl)
  have in3 := lv_neT n3 (show (1 : Int32).toInt = 1 from rfl)
  have in4 := lv_neT n4 (show (2 : Int32).toInt = 2 from rfl)
  have in7 := lv_neT n7 (show (3 : Int32).toInt = 3 from rfl)
  have in10 := lv_neT n10 (show (4 : Int32).toInt = 4 from rfl)
  refine lv_tableOut (tgt := 75) hx hb d_G_count_1 (by omega) (by decide) ?_
  refine lv_iload_n hx hb d_G_count_75 rfl (lv_at hl 1 rfl) ?_
  refine lv_bipush (v := 10) hx hb d_G_count_76 (by decide) ?_
  refine lv_icmp_lt (tgt := 107) hx hb d_G_count_78 (by decide) (fun c13 => ?_) (fun c13 => ?_)
  · have h := if_t c13 h
    refine lv_iconst (v := (-1)) hx hb d_G_count_107 (by decide) ?_
    exact me_reti (me_kp M0) h hx hb hr hlocks hwf hkp hP hK hD hS d_G_count_108
  have h := if_f c13 h
  refine lv_iload_n hx hb d_G_count_81 rfl (lv_at hl 1 rfl) ?_
  refine lv_bipush (v := 10) hx hb d_G_count_82 (by decide) ?_
  refine lv_isub hx hb d_G_count_84 ?_
  refine lv_aload_n hx hb d_G_count_85 rfl (lv_at hl 0 rfl) ?_
  refine g_G_3 hx hb hts hown hK hP hwf hj0 (hts _ u_696) d_G_count_86 ?_
  refine lv_icmp_ge (tgt := 107) hx hb d_G_count_89 (by decide) (fun c14 => ?_) (fun c14 => ?_)
  · have h := if_t c14 h
    refine lv_iconst (v := (-1)) hx hb d_G_count_107 (by decide) ?_
    exact me_reti (me_kp M0) h hx hb hr hlocks hwf hkp hP hK hD hS d_G_count_108
  have h := if_f c14 h
  refine lv_aload_n hx hb d_G_count_92 rfl (lv_at hl 0 rfl) ?_
  refine g_G_2 hx hb hts hown hK hP hwf hj0 (hts _ u_695) d_G_count_93 ?_
  obtain ⟨j15, e16, h⟩ := bd_ob h
  have hj15 : j15 < N 19 := (hwf.2.1 0 j0 2 _ e16 (by decide) hj0)
  refine me_opt (j := j15) e16 ?_
  refine lv_iload_n hx hb d_G_count_96 rfl (lv_at hl 1 rfl) ?_
  refine lv_bipush (v := 10) hx hb d_G_count_97 (by decide) ?_
  refine lv_isub hx hb d_G_count_99 ?_
  obtain ⟨g17, h⟩ := gd_ob h
  refine me_aald (k := 19) (t := 12) hx hb hK hP hwf hj15 (by decide) (by decide) rfl (fun _ => rfl) g17 d_G_count_100 ?_
  obtain ⟨j18, e19, h⟩ := bd_ob h
  have hj18 : j18 < N 12 := (hwf.2.1 19 j15 ((x1 - 10).toNatClampNeg) _ e19 (by decide) hj15)
  refine me_opt (j := j18) e19 ?_
  obtain ⟨M20, r21, eM20, h⟩ := b2_ob h
  refine me_theni0 (M1 := M20) (me_runV (C := "FilterGuard$Store") (As := []) (rest := []) ⟨hx, hb, hml, hown, hts⟩ (c_Store_held l D ad ca N M0 M20 r21 j18 eM20 hwf hj18 _) rfl (by show fg_nm y_Store_held 0; decide +kernel) u_799 u_800 u_801 u_201 u_802 ⟨Nat.le_of_ble_eq_true rfl, Nat.le_of_ble_eq_true rfl⟩ hX hz hK hP hD hwf hS hA hj18 (by decide) rfl rfl rfl hl.1 (Nat.le_of_ble_eq_true rfl) d_G_count_101 ⟨Nat.le_of_ble_eq_true rfl, Nat.le_of_ble_eq_true rfl⟩) hP hD hK hS hA rfl rfl (fun H locs hw hP hD hS => ?_)
  obtain ⟨hwf, hk9⟩ := hw
  have hkp := hkp.tr hk9
  refine lv_goto (tgt := 108) hx hb d_G_count_104 (by decide) ?_
  exact me_reti (me_kp M0) h hx hb hr hlocks hwf hkp hP hK hD hS d_G_count_108
