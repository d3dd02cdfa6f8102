theorem d_M_rest_50 : decode prog_14_method_24_code 50 = .ok (.istore_n 1, 1) := by decide +kernel
theorem d_M_rest_51 : decode prog_14_method_24_code 51 = .ok (.iload_n 1, 1) := by decide +kernel
theorem d_M_rest_52 : decode prog_14_method_24_code 52 = .ok (.ifCond .eq 16, 3) := by decide +kernel
theorem d_M_rest_68 : decode prog_14_method_24_code 68 = .ok (.aload_n 0, 1) := by decide +kernel
theorem d_M_rest_69 : decode prog_14_method_24_code 69 = .ok (.getfield 113, 3) := by decide +kernel
theorem d_M_rest_72 : decode prog_14_method_24_code 72 = .ok (.sipush 30077, 3) := by decide +kernel
theorem d_M_rest_75 : decode prog_14_method_24_code 75 = .ok (.aload_n 0, 1) := by decide +kernel
theorem d_M_rest_76 : decode prog_14_method_24_code 76 = .ok (.sipush 30076, 3) := by decide +kernel
theorem d_M_rest_79 : decode prog_14_method_24_code 79 = .ok (.invokevirtual 192, 3) := by decide +kernel
theorem d_M_rest_82 : decode prog_14_method_24_code 82 = .ok (.ifCond .eq 16, 3) := by decide +kernel
theorem d_M_rest_98 : decode prog_14_method_24_code 98 = .ok (.aload_n 0, 1) := by decide +kernel
theorem d_M_rest_99 : decode prog_14_method_24_code 99 = .ok (.getfield 113, 3) := by decide +kernel
theorem d_M_rest_102 : decode prog_14_method_24_code 102 = .ok (.sipush 30075, 3) := by decide +kernel
theorem d_M_rest_105 : decode prog_14_method_24_code 105 = .ok (.laload, 1) := by decide +kernel
theorem d_M_rest_106 : decode prog_14_method_24_code 106 = .ok (.lastore, 1) := by decide +kernel
theorem d_M_rest_107 : decode prog_14_method_24_code 107 = .ok (.return_, 1) := by decide +kernel
theorem d_M_rest_85 : decode prog_14_method_24_code 85 = .ok (.aload_n 0, 1) := by decide +kernel
theorem d_M_rest_86 : decode prog_14_method_24_code 86 = .ok (.getfield 104, 3) := by decide +kernel
theorem d_M_rest_89 : decode prog_14_method_24_code 89 = .ok (.sipush 30076, 3) := by decide +kernel
theorem d_M_rest_92 : decode prog_14_method_24_code 92 = .ok (.laload, 1) := by decide +kernel
theorem d_M_rest_93 : decode prog_14_method_24_code 93 = .ok (.lconst 1, 1) := by decide +kernel
theorem d_M_rest_94 : decode prog_14_method_24_code 94 = .ok (.lsub, 1) := by decide +kernel
theorem d_M_rest_95 : decode prog_14_method_24_code 95 = .ok (.goto 11, 3) := by decide +kernel
theorem d_M_rest_55 : decode prog_14_method_24_code 55 = .ok (.aload_n 0, 1) := by decide +kernel
theorem d_M_rest_56 : decode prog_14_method_24_code 56 = .ok (.sipush 30075, 3) := by decide +kernel
theorem d_M_rest_59 : decode prog_14_method_24_code 59 = .ok (.sipush 30077, 3) := by decide +kernel
theorem d_M_rest_62 : decode prog_14_method_24_code 62 = .ok (.invokevirtual 208, 3) := by decide +kernel
theorem u_2096 : Cond.methodLink "FilterGuardModel" 208 ⟨"FilterGuardModel", "copyNumber", "(II)V"⟩ ∈ fg_g := fg_in (List.mem_of_getElem? (i := 2096) (by decide +kernel)) rfl
theorem u_2099 : Cond.code ⟨"FilterGuardModel", "copyNumber", "(II)V"⟩ prog_14_method_7_code 3 none ∈ fg_g := fg_in (List.mem_of_getElem? (i := 2099) (by decide +kernel)) rfl
theorem u_2098 : Cond.instanceMethod ⟨"FilterGuardModel", "copyNumber", "(II)V"⟩ ∈ fg_g := fg_in (List.mem_of_getElem? (i := 2098) (by decide +kernel)) rfl
theorem u_103 : Cond.selects "FilterGuardModel" ⟨"FilterGuardModel", "copyNumber", "(II)V"⟩ ⟨"FilterGuardModel", "copyNumber", "(II)V"⟩ ∈ fg_g := fg_in (List.mem_of_getElem? (i := 103) (by decide +kernel)) rfl
theorem d_M_rest_65 : decode prog_14_method_24_code 65 = .ok (.goto 42, 3) := by decide +kernel
theorem d_M_rest_49 : decode prog_14_method_24_code 49 = .ok (.iconst 0, 1) := by decide +kernel
theorem d_M_rest_45 : decode prog_14_method_24_code 45 = .ok (.iconst 1, 1) := by decide +kernel
theorem d_M_rest_46 : decode prog_14_method_24_code 46 = .ok (.goto 4, 3) := by decide +kernel
theorem d_M_rest_0 : decode prog_14_method_24_code 0 = .ok (.aload_n 0, 1) := by decide +kernel
theorem d_M_rest_1 : decode prog_14_method_24_code 1 = .ok (.sipush 30076, 3) := by decide +kernel
theorem d_M_rest_4 : decode prog_14_method_24_code 4 = .ok (.invokevirtual 192, 3) := by decide +kernel
theorem d_M_rest_7 : decode prog_14_method_24_code 7 = .ok (.ifCond .eq 42, 3) := by decide +kernel
theorem d_M_rest_10 : decode prog_14_method_24_code 10 = .ok (.aload_n 0, 1) := by decide +kernel
theorem d_M_rest_11 : decode prog_14_method_24_code 11 = .ok (.getfield 104, 3) := by decide +kernel
theorem d_M_rest_14 : decode prog_14_method_24_code 14 = .ok (.sipush 30076, 3) := by decide +kernel
theorem d_M_rest_17 : decode prog_14_method_24_code 17 = .ok (.laload, 1) := by decide +kernel
theorem d_M_rest_18 : decode prog_14_method_24_code 18 = .ok (.lconst 0, 1) := by decide +kernel
theorem d_M_rest_19 : decode prog_14_method_24_code 19 = .ok (.lcmp, 1) := by decide +kernel
theorem d_M_rest_20 : decode prog_14_method_24_code 20 = .ok (.ifCond .eq 25, 3) := by decide +kernel
theorem d_M_rest_23 : decode prog_14_method_24_code 23 = .ok (.aload_n 0, 1) := by decide +kernel
theorem d_M_rest_24 : decode prog_14_method_24_code 24 = .ok (.getfield 113, 3) := by decide +kernel
theorem d_M_rest_27 : decode prog_14_method_24_code 27 = .ok (.sipush 30075, 3) := by decide +kernel
theorem d_M_rest_30 : decode prog_14_method_24_code 30 = .ok (.laload, 1) := by decide +kernel
theorem d_M_rest_31 : decode prog_14_method_24_code 31 = .ok (.aload_n 0, 1) := by decide +kernel
theorem d_M_rest_32 : decode prog_14_method_24_code 32 = .ok (.getfield 104, 3) := by decide +kernel
theorem d_M_rest_35 : decode prog_14_method_24_code 35 = .ok (.sipush 30076, 3) := by decide +kernel
theorem d_M_rest_38 : decode prog_14_method_24_code 38 = .ok (.laload, 1) := by decide +kernel
theorem d_M_rest_39 : decode prog_14_method_24_code 39 = .ok (.invokestatic 158, 3) := by decide +kernel
theorem d_M_rest_42 : decode prog_14_method_24_code 42 = .ok (.ifCond .eq 7, 3) := by decide +kernel
abbrev y_M_rest : MethodName := ⟨"FilterGuardModel", "rest", "()V"⟩
def rm_M_rest : Room := { frames := 2, cells := 0, slots := 0, locals := 43 }
abbrev q_M_rest (D : va_G) (ad : Nat → Nat → Nat) (ca : Nat → ClassId) (N : Nat → Nat) (M0 MZ : me_M) (A : Nat → Prop) : Array Value → Jvm.State → Outcome → Jvm.State → Prop := va_Qv (fun (_ : Unit) => me_wf N MZ ∧ me_kp M0 MZ) (fg_B D A (fun _ => me_W ad ca MZ) (fun _ => [])) A
set_option maxHeartbeats 4000000 in
set_option maxRecDepth 100000 in
theorem c_M_rest (l : Launch) (D : va_G) (ad : Nat → Nat → Nat) (ca : Nat → ClassId) (N : Nat → Nat) (M0 MZ : me_M) (j0 : Nat) (h : f_M_rest M0 j0 = (some MZ)) (hwf : me_wf N M0) (hj0 : j0 < N 1) (sz : Nat) : Met l y_M_rest (fg_w y_M_rest prog_14_method_24_code 2 none) rm_M_rest (va_Pc [.ref (ad 1 j0)] (fz_P D (me_T ca) (me_W ad ca M0) sz)) (q_M_rest D ad ca N M0 MZ (va_A (me_W ad ca M0) sz)) rm_M_rest.cells rm_M_rest.slots (va_A (me_W ad ca M0) sz) := by
  refine fz_enter (fun A => q_M_rest D ad ca N M0 MZ A) (by decide +kernel) (Nat.le_of_ble_eq_true rfl) ?_
  intro p e s m below meth c ls A hx hb hml hown hts hr hlocks hin hP hK hD hS hA hX hl hz
  have hl : lv_has ls 2 [(0, .ref (ad 1 j0))] := hl
  unfold f_M_rest at h
  have hkp : me_kp M0 M0 := me_kp.rf
  have hkb := hkp
  have b_50 : ∀ (M : me_M) (s0 : Int32) (H : Heap) (locs : List Loc) (ls : Array Slot), f_M_rest_b50 j0 M s0 = (some MZ) → (s0 = 1 ∨ s0 = 0) → me_wf N M → me_kp M0 M → va_P D classes (me_W ad ca M) H → va_D A (me_W ad ca M) → va_S A s.heap H locs → lv_has ls 2 [(0, .ref (ad 1 j0))] → W p l e rm_M_rest s m [.ref (ad 1 j0)].toArray below meth c H locs 0 0 (MQ below (q_M_rest D ad ca N M0 MZ A) [.ref (ad 1 j0)].toArray s rm_M_rest.cells rm_M_rest.slots A) (F0 m 50 ls [.int s0]) := by
    intro M s0 H locs ls h zs0 hwf hkp hP hD hS hl
    unfold f_M_rest_b50 at h
    have hkb := hkp
    refine lv_istore_n (lv' := [(1, .int s0), (0, .ref (ad 1 j0))]) hx hb d_M_rest_50 rfl hl (by decide) rfl (fun ls hl => ?_)
    refine lv_iload_n hx hb d_M_rest_51 rfl (lv_at hl 0 rfl) ?_
    refine lv_if_eq (tgt := 68) hx hb d_M_rest_52 (by decide) (fun c1 => ?_) (fun c1 => ?_)
    · have h := if_t c1 h
      refine lv_aload_n hx hb d_M_rest_68 rfl (lv_at hl 1 rfl) ?_
      refine g_M_55 hx hb hts hown hK hP hwf hj0 (hts _ u_1796) d_M_rest_69 ?_
      obtain ⟨j2, e3, h⟩ := bd_ob h
      have hj2 : j2 < N 16 := (hwf.2.1 1 j0 55 _ e3 (by decide) hj0)
      refine me_opt (j := j2) e3 ?_
      refine lv_sipush (v := 30077) hx hb d_M_rest_72 (by decide) ?_
      refine lv_aload_n hx hb d_M_rest_75 rfl (lv_at hl 1 rfl) ?_
      refine lv_sipush (v := 30076) hx hb d_M_rest_76 (by decide) ?_
      obtain ⟨M4, r5, eM4, h⟩ := b2_ob h
      refine me_theni0 (M1 := M4) (me_runV (C := "FilterGuardModel") (As := [.int 30076]) (rest := [.int 30077, .ref (ad 16 j2)]) ⟨hx, hb, hml, hown, hts⟩ (c_M_isExact l D ad ca N M M4 r5 j0 (30076 : Int32) eM4 hwf hj0 _) rfl (by show fg_nm y_M_isExact 1; decide +kernel) u_2251 u_2253 u_136 u_192 u_2254 ⟨Nat.le_of_ble_eq_true rfl, Nat.le_of_ble_eq_true rfl⟩ hX hz hK hP hD hwf hS hA hj0 (by decide) rfl rfl rfl hl.1 (Nat.le_of_ble_eq_true rfl) d_M_rest_79 ⟨Nat.le_of_ble_eq_true rfl, Nat.le_of_ble_eq_true rfl⟩) hP hD hK hS hA rfl rfl (fun H locs hw hP hD hS => ?_)
      obtain ⟨hwf, hk9, zr5⟩ := hw
      have hkp := hkp.tr hk9
      refine lv_if_eq (tgt := 98) hx hb d_M_rest_82 (by decide) (fun c6 => ?_) (fun c6 => ?_)
      · have h := if_t c6 h
        refine lv_aload_n hx hb d_M_rest_98 rfl (lv_at hl 1 rfl) ?_
        refine g_M_55 hx hb hts hown hK hP hwf hj0 (hts _ u_1796) d_M_rest_99 ?_
        refine me_opt (j := j2) (kp_r hkb hkp e3) ?_
        refine lv_sipush (v := 30075) hx hb d_M_rest_102 (by decide) ?_
        obtain ⟨g7, h⟩ := gd_ob h
        refine me_lald hx hb hK hP hwf hj2 (me_in (i := (30075 : Int32)) (k := 30075) (by decide) (by decide) (kp_c hkb.z hkp.z g7)) d_M_rest_105 ?_
        refine fg_topl (y := mL M4 16 j2 30075) (congrArg _ (by decide)) ?_
        obtain ⟨g8, h⟩ := gd_ob h
        obtain ⟨M9, eM9, h⟩ := st_ob h
        refine me_last (eM9.trans (by rw [show (30077 : Int32).toNatClampNeg = 30077 by decide])) hx hb hK hP hD hwf hS hj2 (me_in (i := (30077 : Int32)) (k := 30077) (by decide) (by decide) (kp_c hkb.z hkp.z g8)) d_M_rest_106 (fun H locs hP hD hwf hS => ?_)
        have hkp := kp_L eM9 hkp
        exact me_retv (me_kp M0) h hx hb hr hlocks hwf hkp hP hK hD hS d_M_rest_107
      have h := if_f c6 h
      refine lv_aload_n hx hb d_M_rest_85 rfl (lv_at hl 1 rfl) ?_
      refine g_M_52 hx hb hts hown hK hP hwf hj0 (hts _ u_1793) d_M_rest_86 ?_
      obtain ⟨j10, e11, h⟩ := bd_ob h
      have hj10 : j10 < N 16 := (hwf.2.1 1 j0 52 _ (kp_r hkb hkp e11) (by decide) hj0)
      refine me_opt (j := j10) (kp_r hkb hkp e11) ?_
      refine lv_sipush (v := 30076) hx hb d_M_rest_89 (by decide) ?_
      obtain ⟨g12, h⟩ := gd_ob h
      refine me_lald hx hb hK hP hwf hj10 (me_in (i := (30076 : Int32)) (k := 30076) (by decide) (by decide) (kp_c hkb.z hkp.z g12)) d_M_rest_92 ?_
      refine fg_topl (y := mL M4 16 j10 30076) (congrArg _ (by decide)) ?_
      refine lv_lconst (v := 1) hx hb d_M_rest_93 (by decide) ?_
      refine lv_lsub hx hb d_M_rest_94 ?_
      refine lv_goto (tgt := 106) hx hb d_M_rest_95 (by decide) ?_
      obtain ⟨g13, h⟩ := gd_ob h
      obtain ⟨M14, eM14, h⟩ := st_ob h
      refine me_last (eM14.trans (by rw [show (30077 : Int32).toNatClampNeg = 30077 by decide])) hx hb hK hP hD hwf hS hj2 (me_in (i := (30077 : Int32)) (k := 30077) (by decide) (by decide) (kp_c hkb.z hkp.z g13)) d_M_rest_106 (fun H locs hP hD hwf hS => ?_)
      have hkp := kp_L eM14 hkp
      exact me_retv (me_kp M0) h hx hb hr hlocks hwf hkp hP hK hD hS d_M_rest_107
    have h := if_f c1 h
    refine lv_aload_n hx hb d_M_rest_55 rfl (lv_at hl 1 rfl) ?_
    refine lv_sipush (v := 30075) hx hb d_M_rest_56 (by decide) ?_
    refine lv_sipush (v := 30077) hx hb d_M_rest_59 (by decide) ?_
    obtain ⟨M15, eM15, h⟩ := bd_ob h
    refine me_thenv0 (M1 := M15) (me_runV (C := "FilterGuardModel") (As := [.int 30075, .int 30077]) (rest := []) ⟨hx, hb, hml, hown, hts⟩ (c_M_copyNumber l D ad ca N M M15 j0 (30075 : Int32) (30077 : Int32) eM15 hwf hj0 _) rfl (by show fg_nm y_M_copyNumber 2; decide +kernel) u_2096 u_2098 u_103 u_192 u_2099 ⟨Nat.le_of_ble_eq_true rfl, Nat.le_of_ble_eq_true rfl⟩ hX hz hK hP hD hwf hS hA hj0 (by decide) rfl rfl rfl hl.1 (Nat.le_of_ble_eq_true rfl) d_M_rest_62 ⟨Nat.le_of_ble_eq_true rfl, Nat.le_of_ble_eq_true rfl⟩) hP hD hK hS hA rfl rfl (fun H locs hw hP hD hS => ?_)
    obtain ⟨hwf, hk9⟩ := hw
    have hkp := hkp.tr hk9
    refine lv_goto (tgt := 107) hx hb d_M_rest_65 (by decide) ?_
    exact me_retv (me_kp M0) h hx hb hr hlocks hwf hkp hP hK hD hS d_M_rest_107
  have b_49 : ∀ (M : me_M) (H : Heap) (locs : List Loc) (ls : Array Slot), f_M_rest_b49 j0 M = (some MZ) → me_wf N M → me_kp M0 M → va_P D classes (me_W ad ca M) H → va_D A (me_W ad ca M) → va_S A s.heap H locs → lv_has ls 2 [(0, .ref (ad 1 j0))] → W p l e rm_M_rest s m [.ref (ad 1 j0)].toArray below meth c H locs 0 0 (MQ below (q_M_rest D ad ca N M0 MZ A) [.ref (ad 1 j0)].toArray s rm_M_rest.cells rm_M_rest.slots A) (F0 m 49 ls []) := by
    intro M H locs ls h hwf hkp hP hD hS hl
    unfold f_M_rest_b49 at h
    have hkb := hkp
    refine lv_iconst (v := 0) hx hb d_M_rest_49 (by decide) ?_
    exact b_50 M (0 : Int32) _ _ _ h (by decide) hwf hkp hP hD hS (lv_sub hl [0] rfl)
  have b_45 : ∀ (M : me_M) (H : Heap) (locs : List Loc) (ls : Array Slot), f_M_rest_b45 j0 M = (some MZ) → me_wf N M → me_kp M0 M → va_P D classes (me_W ad ca M) H → va_D A (me_W ad ca M) → va_S A s.heap H locs → lv_has ls 2 [(0, .ref (ad 1 j0))] → W p l e rm_M_rest s m [.ref (ad 1 j0)].toArray below meth c H locs 0 0 (MQ below (q_M_rest D ad ca N M0 MZ A) [.ref (ad 1 j0)].toArray s rm_M_rest.cells rm_M_rest.slots A) (F0 m 45 ls []) := by
    intro M H locs ls h hwf hkp hP hD hS hl
    unfold f_M_rest_b45 at h
    have hkb := hkp
    refine lv_iconst (v := 1) hx hb d_M_rest_45 (by decide) ?_
    refine lv_goto (tgt := 50) hx hb d_M_rest_46 (by decide) ?_
    exact b_50 M (1 : Int32) _ _ _ h (by decide) hwf hkp hP hD hS (lv_sub hl [0] rfl)
  refine lv_aload_n hx hb d_M_rest_0 rfl (lv_at hl 0 rfl) ?_
  refine lv_sipush (v := 30076) hx hb d_M_rest_1 (by decide) ?_
  obtain ⟨M16, r17, eM16, h⟩ := b2_ob h
  refine me_theni0 (M1 := M16) (me_runV (C := "FilterGuardModel") (As := [.int 30076]) (rest := []) ⟨hx, hb, hml, hown, hts⟩ (c_M_isExact l D ad ca N M0 M16 r17 j0 (30076 : Int32) eM16 hwf hj0 _) rfl (by show fg_nm y_M_isExact 1; decide +kernel) u_2251 u_2253 u_136 u_192 u_2254 ⟨Nat.le_of_ble_eq_true rfl, Nat.le_of_ble_eq_true rfl⟩ hX hz hK hP hD hwf hS hA hj0 (by decide) rfl rfl rfl hl.1 (Nat.le_of_ble_eq_true rfl) d_M_rest_4 ⟨Nat.le_of_ble_eq_true rfl, Nat.le_of_ble_eq_true rfl⟩) hP hD hK hS hA rfl rfl (fun H locs hw hP hD hS => ?_)
  obtain ⟨hwf, hk9, zr17⟩ := hw
  have hkp := hkp.tr hk9
  refine lv_if_eq (tgt := 49) hx hb d_M_rest_7 (by decide) (fun c18 => ?_) (fun c18 => ?_)
  · have h := if_t c18 h
    exact b_49 M16 _ _ _ h hwf hkp hP hD hS (lv_sub hl [0] rfl)
  have h := if_f c18 h
  refine lv_aload_n hx hb d_M_rest_10 rfl (lv_at hl 0 rfl) ?_
  refine g_M_52 hx hb hts hown hK hP hwf hj0 (hts _ u_1793) d_M_rest_11 ?_
  obtain ⟨j19, e20, h⟩ := bd_ob h
  have hj19 : j19 < N 16 := (hwf.2.1 1 j0 52 _ (kp_r hkb hkp e20) (by decide) hj0)
  refine me_opt (j := j19) (kp_r hkb hkp e20) ?_
  refine lv_sipush (v := 30076) hx hb d_M_rest_14 (by decide) ?_
  obtain ⟨g21, h⟩ := gd_ob h
  refine me_lald hx hb hK hP hwf hj19 (me_in (i := (30076 : Int32)) (k := 30076) (by decide) (by decide) (kp_c hkb.z hkp.z g21)) d_M_rest_17 ?_
  refine fg_topl (y := mL M16 16 j19 30076) (congrArg _ (by decide)) ?_
  refine lv_lconst (v := 0) hx hb d_M_rest_18 (by decide) ?_
  refine W.lcmp hx hb d_M_rest_19 ?_
  refine lv_if_eq (tgt := 45) hx hb d_M_rest_20 (by decide) (fun c22 => ?_) (fun c22 => ?_)
  · have h := if_t ((lg_cmp_eq _ _).mp c22) h
    exact b_45 M16 _ _ _ h hwf hkp hP hD hS (lv_sub hl [0] rfl)
  have h := if_f (fun z => c22 ((lg_cmp_eq _ _).mpr z)) h
  refine lv_aload_n hx hb d_M_rest_23 rfl (lv_at hl 0 rfl) ?_
  refine g_M_55 hx hb hts hown hK hP hwf hj0 (hts _ u_1796) d_M_rest_24 ?_
  obtain ⟨j23, e24, h⟩ := bd_ob h
  have hj23 : j23 < N 16 := (hwf.2.1 1 j0 55 _ (kp_r hkb hkp e24) (by decide) hj0)
  refine me_opt (j := j23) (kp_r hkb hkp e24) ?_
  refine lv_sipush (v := 30075) hx hb d_M_rest_27 (by decide) ?_
  obtain ⟨g25, h⟩ := gd_ob h
  refine me_lald hx hb hK hP hwf hj23 (me_in (i := (30075 : Int32)) (k := 30075) (by decide) (by decide) (kp_c hkb.z hkp.z g25)) d_M_rest_30 ?_
  refine fg_topl (y := mL M16 16 j23 30075) (congrArg _ (by decide)) ?_
  refine lv_aload_n hx hb d_M_rest_31 rfl (lv_at hl 0 rfl) ?_
  refine g_M_52 hx hb hts hown hK hP hwf hj0 (hts _ u_1793) d_M_rest_32 ?_
  refine me_opt (j := j19) (kp_r hkb hkp e20) ?_
  refine lv_sipush (v := 30076) hx hb d_M_rest_35 (by decide) ?_
  refine me_lald hx hb hK hP hwf hj19 (me_in (i := (30076 : Int32)) (k := 30076) (by decide) (by decide) (kp_c hkb.z hkp.z g21)) d_M_rest_38 ?_
  refine fg_topl (y := mL M16 16 j19 30076) (congrArg _ (by decide)) ?_
  obtain ⟨r26, er26, h⟩ := bd_ob h
  refine me_pani' (r0 := r26) (fg_runS (wc := []) (tc := []) (A2 := A) (As := [.long (mL M16 16 j23 30075), .long (mL M16 16 j19 30076)]) (rest := []) ⟨hx, hb, hml, hown, hts⟩ (c_M_below l D r26 (mL M16 16 j23 30075) (mL M16 16 j19 30076) er26 _) (by show fg_nm y_M_below 2; decide +kernel) u_2072 u_2073 u_192 u_2074 ⟨Nat.le_of_ble_eq_true rfl, Nat.le_of_ble_eq_true rfl⟩ hX me_P0 (hK.sub (tys' := []) [] rfl) me_D0 rfl hl.1 (Nat.le_of_ble_eq_true rfl) d_M_rest_39 ⟨Nat.le_of_ble_eq_true rfl, Nat.le_of_ble_eq_true rfl⟩) hP hD hK hS hA rfl rfl (fun H locs hw hP hD hS => ?_)
  have zr26 := hw
  refine lv_if_eq (tgt := 49) hx hb d_M_rest_42 (by decide) (fun c27 => ?_) (fun c27 => ?_)
  · have h := if_t c27 h
    exact b_49 M16 _ _ _ h hwf hkp hP hD hS (lv_sub hl [0] rfl)
  have h := if_f c27 h
  exact b_45 M16 _ _ _ h hwf hkp hP hD hS (lv_sub hl [0] rfl)
theorem d_M_logic_0 : decode prog_14_method_25_code 0 = .ok (.iload_n 1, 1) := by decide +kernel
theorem d_M_logic_1 : decode prog_14_method_25_code 1 = .ok (.iconst 5, 1) := by decide +kernel
theorem d_M_logic_2 : decode prog_14_method_25_code 2 = .ok (.if_icmp .ne 114, 3) := by decide +kernel
theorem d_M_logic_116 : decode prog_14_method_25_code 116 = .ok (.iload_n 1, 1) := by decide +kernel
theorem d_M_logic_117 : decode prog_14_method_25_code 117 = .ok (.bipush 6, 2) := by decide +kernel
theorem d_M_logic_119 : decode prog_14_method_25_code 119 = .ok (.if_icmp .ne 96, 3) := by decide +kernel
theorem d_M_logic_215 : decode prog_14_method_25_code 215 = .ok (.aload_n 0, 1) := by decide +kernel
theorem d_M_logic_216 : decode prog_14_method_25_code 216 = .ok (.getfield 107, 3) := by decide +kernel
theorem d_M_logic_219 : decode prog_14_method_25_code 219 = .ok (.sipush 30077, 3) := by decide +kernel
theorem d_M_logic_222 : decode prog_14_method_25_code 222 = .ok (.aload_n 0, 1) := by decide +kernel
theorem d_M_logic_223 : decode prog_14_method_25_code 223 = .ok (.getfield 107, 3) := by decide +kernel
theorem d_M_logic_226 : decode prog_14_method_25_code 226 = .ok (.sipush 30075, 3) := by decide +kernel
theorem d_M_logic_229 : decode prog_14_method_25_code 229 = .ok (.laload, 1) := by decide +kernel
theorem d_M_logic_230 : decode prog_14_method_25_code 230 = .ok (.aload_n 0, 1) := by decide +kernel
theorem d_M_logic_231 : decode prog_14_method_25_code 231 = .ok (.getfield 107, 3) := by decide +kernel
theorem d_M_logic_234 : decode prog_14_method_25_code 234 = .ok (.sipush 30076, 3) := by decide +kernel
theorem d_M_logic_237 : decode prog_14_method_25_code 237 = .ok (.laload, 1) := by decide +kernel
theorem d_M_logic_238 : decode prog_14_method_25_code 238 = .ok (.lor, 1) := by decide +kernel
theorem d_M_logic_239 : decode prog_14_method_25_code 239 = .ok (.lastore, 1) := by decide +kernel
theorem d_M_logic_240 : decode prog_14_method_25_code 240 = .ok (.aload_n 0, 1) := by decide +kernel
theorem d_M_logic_241 : decode prog_14_method_25_code 241 = .ok (.getfield 104, 3) := by decide +kernel
theorem d_M_logic_244 : decode prog_14_method_25_code 244 = .ok (.sipush 30077, 3) := by decide +kernel
theorem d_M_logic_247 : decode prog_14_method_25_code 247 = .ok (.aload_n 0, 1) := by decide +kernel
theorem d_M_logic_248 : decode prog_14_method_25_code 248 = .ok (.getfield 104, 3) := by decide +kernel
theorem d_M_logic_251 : decode prog_14_method_25_code 251 = .ok (.sipush 30075, 3) := by decide +kernel
theorem d_M_logic_254 : decode prog_14_method_25_code 254 = .ok (.laload, 1) := by decide +kernel
theorem d_M_logic_255 : decode prog_14_method_25_code 255 = .ok (.aload_n 0, 1) := by decide +kernel
theorem d_M_logic_256 : decode prog_14_method_25_code 256 = .ok (.getfield 104, 3) := by decide +kernel
theorem d_M_logic_259 : decode prog_14_method_25_code 259 = .ok (.sipush 30076, 3) := by decide +kernel
theorem d_M_logic_262 : decode prog_14_method_25_code 262 = .ok (.laload, 1) := by decide +kernel
theorem d_M_logic_263 : decode prog_14_method_25_code 263 = .ok (.lxor, 1) := by decide +kernel
theorem d_M_logic_264 : decode prog_14_method_25_code 264 = .ok (.aload_n 0, 1) := by decide +kernel
theorem d_M_logic_265 : decode prog_14_method_25_code 265 = .ok (.getfield 107, 3) := by decide +kernel
theorem d_M_logic_268 : decode prog_14_method_25_code 268 = .ok (.sipush 30077, 3) := by decide +kernel
theorem d_M_logic_271 : decode prog_14_method_25_code 271 = .ok (.laload, 1) := by decide +kernel
theorem d_M_logic_272 : decode prog_14_method_25_code 272 = .ok (.ldc2_w 162, 3) := by decide +kernel
theorem d_M_logic_275 : decode prog_14_method_25_code 275 = .ok (.lxor, 1) := by decide +kernel
theorem d_M_logic_276 : decode prog_14_method_25_code 276 = .ok (.land, 1) := by decide +kernel
theorem d_M_logic_277 : decode prog_14_method_25_code 277 = .ok (.lastore, 1) := by decide +kernel
theorem d_M_logic_278 : decode prog_14_method_25_code 278 = .ok (.return_, 1) := by decide +kernel
theorem d_M_logic_122 : decode prog_14_method_25_code 122 = .ok (.aload_n 0, 1) := by decide +kernel
theorem d_M_logic_123 : decode prog_14_method_25_code 123 = .ok (.getfield 104, 3) := by decide +kernel
theorem d_M_logic_126 : decode prog_14_method_25_code 126 = .ok (.sipush 30077, 3) := by decide +kernel
theorem d_M_logic_129 : decode prog_14_method_25_code 129 = .ok (.aload_n 0, 1) := by decide +kernel
theorem d_M_logic_130 : decode prog_14_method_25_code 130 = .ok (.getfield 104, 3) := by decide +kernel
theorem d_M_logic_133 : decode prog_14_method_25_code 133 = .ok (.sipush 30075, 3) := by decide +kernel
theorem d_M_logic_136 : decode prog_14_method_25_code 136 = .ok (.laload, 1) := by decide +kernel
theorem d_M_logic_137 : decode prog_14_method_25_code 137 = .ok (.aload_n 0, 1) := by decide +kernel
theorem d_M_logic_138 : decode prog_14_method_25_code 138 = .ok (.getfield 104, 3) := by decide +kernel
theorem d_M_logic_141 : decode prog_14_method_25_code 141 = .ok (.sipush 30076, 3) := by decide +kernel
theorem d_M_logic_144 : decode prog_14_method_25_code 144 = .ok (.laload, 1) := by decide +kernel
theorem d_M_logic_145 : decode prog_14_method_25_code 145 = .ok (.lor, 1) := by decide +kernel
theorem d_M_logic_146 : decode prog_14_method_25_code 146 = .ok (.lastore, 1) := by decide +kernel
theorem d_M_logic_147 : decode prog_14_method_25_code 147 = .ok (.aload_n 0, 1) := by decide +kernel
theorem d_M_logic_148 : decode prog_14_method_25_code 148 = .ok (.getfield 107, 3) := by decide +kernel
theorem d_M_logic_151 : decode prog_14_method_25_code 151 = .ok (.sipush 30077, 3) := by decide +kernel
theorem d_M_logic_154 : decode prog_14_method_25_code 154 = .ok (.aload_n 0, 1) := by decide +kernel
theorem d_M_logic_155 : decode prog_14_method_25_code 155 = .ok (.getfield 107, 3) := by decide +kernel
theorem d_M_logic_158 : decode prog_14_method_25_code 158 = .ok (.sipush 30075, 3) := by decide +kernel
theorem d_M_logic_161 : decode prog_14_method_25_code 161 = .ok (.laload, 1) := by decide +kernel
theorem d_M_logic_162 : decode prog_14_method_25_code 162 = .ok (.aload_n 0, 1) := by decide +kernel
theorem d_M_logic_163 : decode prog_14_method_25_code 163 = .ok (.getfield 107, 3) := by decide +kernel
theorem d_M_logic_166 : decode prog_14_method_25_code 166 = .ok (.sipush 30076, 3) := by decide +kernel
theorem d_M_logic_169 : decode prog_14_method_25_code 169 = .ok (.laload, 1) := by decide +kernel
theorem d_M_logic_170 : decode prog_14_method_25_code 170 = .ok (.lor, 1) := by decide +kernel
theorem d_M_logic_171 : decode prog_14_method_25_code 171 = .ok (.aload_n 0, 1) := by decide +kernel
theorem d_M_logic_172 : decode prog_14_method_25_code 172 = .ok (.getfield 104, 3) := by decide +kernel
theorem d_M_logic_175 : decode prog_14_method_25_code 175 = .ok (.sipush 30077, 3) := by decide +kernel
theorem d_M_logic_178 : decode prog_14_method_25_code 178 = .ok (.laload, 1) := by decide +kernel
theorem d_M_logic_179 : decode prog_14_method_25_code 179 = .ok (.ldc2_w 162, 3) := by decide +kernel
theorem d_M_logic_182 : decode prog_14_method_25_code 182 = .ok (.lxor, 1) := by decide +kernel
theorem d_M_logic_183 : decode prog_14_method_25_code 183 = .ok (.land, 1) := by decide +kernel
theorem d_M_logic_184 : decode prog_14_method_25_code 184 = .ok (.lastore, 1) := by decide +kernel
theorem d_M_logic_185 : decode prog_14_method_25_code 185 = .ok (.aload_n 0, 1) := by decide +kernel
theorem d_M_logic_186 : decode prog_14_method_25_code 186 = .ok (.getfield 110, 3) := by decide +kernel
theorem d_M_logic_189 : decode prog_14_method_25_code 189 = .ok (.sipush 30077, 3) := by decide +kernel
theorem d_M_logic_192 : decode prog_14_method_25_code 192 = .ok (.aload_n 0, 1) := by decide +kernel
theorem d_M_logic_193 : decode prog_14_method_25_code 193 = .ok (.getfield 110, 3) := by decide +kernel
theorem d_M_logic_196 : decode prog_14_method_25_code 196 = .ok (.sipush 30075, 3) := by decide +kernel
theorem d_M_logic_199 : decode prog_14_method_25_code 199 = .ok (.laload, 1) := by decide +kernel
theorem d_M_logic_200 : decode prog_14_method_25_code 200 = .ok (.aload_n 0, 1) := by decide +kernel
theorem d_M_logic_201 : decode prog_14_method_25_code 201 = .ok (.getfield 110, 3) := by decide +kernel
theorem d_M_logic_204 : decode prog_14_method_25_code 204 = .ok (.sipush 30076, 3) := by decide +kernel
theorem d_M_logic_207 : decode prog_14_method_25_code 207 = .ok (.laload, 1) := by decide +kernel
theorem d_M_logic_208 : decode prog_14_method_25_code 208 = .ok (.invokestatic 166, 3) := by decide +kernel
theorem d_M_logic_211 : decode prog_14_method_25_code 211 = .ok (.lastore, 1) := by decide +kernel
theorem d_M_logic_212 : decode prog_14_method_25_code 212 = .ok (.goto 66, 3) := by decide +kernel
theorem d_M_logic_5 : decode prog_14_method_25_code 5 = .ok (.aload_n 0, 1) := by decide +kernel
theorem d_M_logic_6 : decode prog_14_method_25_code 6 = .ok (.getfield 104, 3) := by decide +kernel
theorem d_M_logic_9 : decode prog_14_method_25_code 9 = .ok (.sipush 30077, 3) := by decide +kernel
theorem d_M_logic_12 : decode prog_14_method_25_code 12 = .ok (.aload_n 0, 1) := by decide +kernel
theorem d_M_logic_13 : decode prog_14_method_25_code 13 = .ok (.getfield 104, 3) := by decide +kernel
theorem d_M_logic_16 : decode prog_14_method_25_code 16 = .ok (.sipush 30075, 3) := by decide +kernel
theorem d_M_logic_19 : decode prog_14_method_25_code 19 = .ok (.laload, 1) := by decide +kernel
theorem d_M_logic_20 : decode prog_14_method_25_code 20 = .ok (.aload_n 0, 1) := by decide +kernel
theorem d_M_logic_21 : decode prog_14_method_25_code 21 = .ok (.getfield 104, 3) := by decide +kernel
theorem d_M_logic_24 : decode prog_14_method_25_code 24 = .ok (.sipush 30076, 3) := by decide +kernel
theorem d_M_logic_27 : decode prog_14_method_25_code 27 = .ok (.laload, 1) := by decide +kernel
theorem d_M_logic_28 : decode prog_14_method_25_code 28 = .ok (.land, 1) := by decide +kernel
theorem d_M_logic_29 : decode prog_14_method_25_code 29 = .ok (.lastore, 1) := by decide +kernel
theorem d_M_logic_30 : decode prog_14_method_25_code 30 = .ok (.aload_n 0, 1) := by decide +kernel
theorem d_M_logic_31 : decode prog_14_method_25_code 31 = .ok (.getfield 107, 3) := by decide +kernel
theorem d_M_logic_34 : decode prog_14_method_25_code 34 = .ok (.sipush 30077, 3) := by decide +kernel
theorem d_M_logic_37 : decode prog_14_method_25_code 37 = .ok (.aload_n 0, 1) := by decide +kernel
theorem d_M_logic_38 : decode prog_14_method_25_code 38 = .ok (.getfield 104, 3) := by decide +kernel
theorem d_M_logic_41 : decode prog_14_method_25_code 41 = .ok (.sipush 30075, 3) := by decide +kernel
theorem d_M_logic_44 : decode prog_14_method_25_code 44 = .ok (.laload, 1) := by decide +kernel
theorem d_M_logic_45 : decode prog_14_method_25_code 45 = .ok (.aload_n 0, 1) := by decide +kernel
theorem d_M_logic_46 : decode prog_14_method_25_code 46 = .ok (.getfield 107, 3) := by decide +kernel
theorem d_M_logic_49 : decode prog_14_method_25_code 49 = .ok (.sipush 30075, 3) := by decide +kernel
theorem d_M_logic_52 : decode prog_14_method_25_code 52 = .ok (.laload, 1) := by decide +kernel
theorem d_M_logic_53 : decode prog_14_method_25_code 53 = .ok (.lor, 1) := by decide +kernel
theorem d_M_logic_54 : decode prog_14_method_25_code 54 = .ok (.aload_n 0, 1) := by decide +kernel
theorem d_M_logic_55 : decode prog_14_method_25_code 55 = .ok (.getfield 104, 3) := by decide +kernel
theorem d_M_logic_58 : decode prog_14_method_25_code 58 = .ok (.sipush 30076, 3) := by decide +kernel
theorem d_M_logic_61 : decode prog_14_method_25_code 61 = .ok (.laload, 1) := by decide +kernel
theorem d_M_logic_62 : decode prog_14_method_25_code 62 = .ok (.aload_n 0, 1) := by decide +kernel
theorem d_M_logic_63 : decode prog_14_method_25_code 63 = .ok (.getfield 107, 3) := by decide +kernel
theorem d_M_logic_66 : decode prog_14_method_25_code 66 = .ok (.sipush 30076, 3) := by decide +kernel
theorem d_M_logic_69 : decode prog_14_method_25_code 69 = .ok (.laload, 1) := by decide +kernel
theorem d_M_logic_70 : decode prog_14_method_25_code 70 = .ok (.lor, 1) := by decide +kernel
theorem d_M_logic_71 : decode prog_14_method_25_code 71 = .ok (.land, 1) := by decide +kernel
theorem d_M_logic_72 : decode prog_14_method_25_code 72 = .ok (.aload_n 0, 1) := by decide +kernel
theorem d_M_logic_73 : decode prog_14_method_25_code 73 = .ok (.getfield 104, 3) := by decide +kernel
theorem d_M_logic_76 : decode prog_14_method_25_code 76 = .ok (.sipush 30077, 3) := by decide +kernel
theorem d_M_logic_79 : decode prog_14_method_25_code 79 = .ok (.laload, 1) := by decide +kernel
theorem d_M_logic_80 : decode prog_14_method_25_code 80 = .ok (.ldc2_w 162, 3) := by decide +kernel
theorem d_M_logic_83 : decode prog_14_method_25_code 83 = .ok (.lxor, 1) := by decide +kernel
theorem d_M_logic_84 : decode prog_14_method_25_code 84 = .ok (.land, 1) := by decide +kernel
theorem d_M_logic_85 : decode prog_14_method_25_code 85 = .ok (.lastore, 1) := by decide +kernel
theorem d_M_logic_86 : decode prog_14_method_25_code 86 = .ok (.aload_n 0, 1) := by decide +kernel
theorem d_M_logic_87 : decode prog_14_method_25_code 87 = .ok (.getfield 113, 3) := by decide +kernel
theorem d_M_logic_90 : decode prog_14_method_25_code 90 = .ok (.sipush 30077, 3) := by decide +kernel
theorem d_M_logic_93 : decode prog_14_method_25_code 93 = .ok (.aload_n 0, 1) := by decide +kernel
theorem d_M_logic_94 : decode prog_14_method_25_code 94 = .ok (.getfield 113, 3) := by decide +kernel
theorem d_M_logic_97 : decode prog_14_method_25_code 97 = .ok (.sipush 30075, 3) := by decide +kernel
theorem d_M_logic_100 : decode prog_14_method_25_code 100 = .ok (.laload, 1) := by decide +kernel
theorem d_M_logic_101 : decode prog_14_method_25_code 101 = .ok (.aload_n 0, 1) := by decide +kernel
theorem d_M_logic_102 : decode prog_14_method_25_code 102 = .ok (.getfield 113, 3) := by decide +kernel
theorem d_M_logic_105 : decode prog_14_method_25_code 105 = .ok (.sipush 30076, 3) := by decide +kernel
theorem d_M_logic_108 : decode prog_14_method_25_code 108 = .ok (.laload, 1) := by decide +kernel
theorem d_M_logic_109 : decode prog_14_method_25_code 109 = .ok (.invokestatic 170, 3) := by decide +kernel
theorem d_M_logic_112 : decode prog_14_method_25_code 112 = .ok (.lastore, 1) := by decide +kernel
theorem d_M_logic_113 : decode prog_14_method_25_code 113 = .ok (.goto 165, 3) := by decide +kernel
abbrev y_M_logic : MethodName := ⟨"FilterGuardModel", "logic", "(I)V"⟩
def rm_M_logic : Room := { frames := 3, cells := 0, slots := 0, locals := 66 }
abbrev q_M_logic (D : va_G) (ad : Nat → Nat → Nat) (ca : Nat → ClassId) (N : Nat → Nat) (M0 MZ : me_M) (A : Nat → Prop) : Array Value → Jvm.State → Outcome → Jvm.State → Prop := va_Qv (fun (_ : Unit) => me_wf N MZ ∧ me_kp M0 MZ) (fg_B D A (fun _ => me_W ad ca MZ) (fun _ => [])) A
set_option maxHeartbeats 4000000 in
set_option maxRecDepth 100000 in
theorem c_M_logic (l : Launch) (D : va_G) (ad : Nat → Nat → Nat) (ca : Nat → ClassId) (N : Nat → Nat) (M0 MZ : me_M) (j0 : Nat) (x1 : Int32) (h : f_M_logic M0 j0 x1 = (some MZ)) (hwf : me_wf N M0) (hj0 : j0 < N 1) (sz : Nat) : Met l y_M_logic (fg_w y_M_logic prog_14_method_25_code 2 none) rm_M_logic (va_Pc [.ref (ad 1 j0), .int x1] (fz_P D (me_T ca) (me_W ad ca M0) sz)) (q_M_logic D ad ca N M0 MZ (va_A (me_W ad ca M0) sz)) rm_M_logic.cells rm_M_logic.slots (va_A (me_W ad ca M0) sz) := by
  refine fz_enter (fun A => q_M_logic D ad ca N M0 MZ A) (by decide +kernel) (Nat.le_of_ble_eq_true rfl) ?_
  intro p e s m below meth c ls A hx hb hml hown hts hr hlocks hin hP hK hD hS hA hX hl hz
  have hl : lv_has ls 2 [(0, .ref (ad 1 j0)), (1, .int x1)] := hl
  unfold f_M_logic at h
  have hkp : me_kp M0 M0 := me_kp.rf
  have hkb := hkp
  refine lv_iload_n hx hb d_M_logic_0 rfl (lv_at hl 1 rfl) ?_
  refine lv_iconst (v := 5) hx hb d_M_logic_1 (by decide) ?_
  refine lv_icmp_ne (tgt := 116) hx hb d_M_logic_2 (by decide) (fun c1 => ?_) (fun c1 => ?_)
  · have h := if_f c1 h
    refine lv_iload_n hx hb d_M_logic_116 rfl (lv_at hl 1 rfl) ?_
    refine lv_bipush (v := 6) hx hb d_M_logic_117 (by decide) ?_
    refine lv_icmp_ne (tgt := 215) hx hb d_M_logic_119 (by decide) (fun c2 => ?_) (fun c2 => ?_)
    · have h := if_f c2 h
      refine lv_aload_n hx hb d_M_logic_215 rfl (lv_at hl 0 rfl) ?_
      refine g_M_53 hx hb hts hown hK hP hwf hj0 (hts _ u_1794) d_M_logic_216 ?_
      obtain ⟨j3, e4, h⟩ := bd_ob h
      have hj3 : j3 < N 16 := (hwf.2.1 1 j0 53 _ e4 (by decide) hj0)
      refine me_opt (j := j3) e4 ?_
      refine lv_sipush (v := 30077) hx hb d_M_logic_219 (by decide) ?_
      refine lv_aload_n hx hb d_M_logic_222 rfl (lv_at hl 0 rfl) ?_
      refine g_M_53 hx hb hts hown hK hP hwf hj0 (hts _ u_1794) d_M_logic_223 ?_
      refine me_opt (j := j3) e4 ?_
      refine lv_sipush (v := 30075) hx hb d_M_logic_226 (by decide) ?_
      obtain ⟨g5, h⟩ := gd_ob h
      refine me_lald hx hb hK hP hwf hj3 (me_in (i := (30075 : Int32)) (k := 30075) (by decide) (by decide) g5) d_M_logic_229 ?_
      refine fg_topl (y := mL M0 16 j3 30075) (congrArg _ (by decide)) ?_
      refine lv_aload_n hx hb d_M_logic_230 rfl (lv_at hl 0 rfl) ?_
      refine g_M_53 hx hb hts hown hK hP hwf hj0 (hts _ u_1794) d_M_logic_231 ?_
      refine me_opt (j := j3) e4 ?_
      refine lv_sipush (v := 30076) hx hb d_M_logic_234 (by decide) ?_
      obtain ⟨g6, h⟩ := gd_ob h
      refine me_lald hx hb hK hP hwf hj3 (me_in (i := (30076 : Int32)) (k := 30076) (by decide) (by decide) g6) d_M_logic_237 ?_
      refine fg_topl (y := mL M0 16 j3 30076) (congrArg _ (by decide)) ?_
      refine lv_lor hx hb d_M_logic_238 ?_
      obtain ⟨g7, h⟩ := gd_ob h
      obtain ⟨M8, eM8, h⟩ := st_ob h
      refine me_last (eM8.trans (by rw [show (30077 : Int32).toNatClampNeg = 30077 by decide])) hx hb hK hP hD hwf hS hj3 (me_in (i := (30077 : Int32)) (k := 30077) (by decide) (by decide) g7) d_M_logic_239 (fun H locs hP hD hwf hS => ?_)
      have hkp := kp_L eM8 hkp
      refine lv_aload_n hx hb d_M_logic_240 rfl (lv_at hl 0 rfl) ?_
      refine g_M_52 hx hb hts hown hK hP hwf hj0 (hts _ u_1793) d_M_logic_241 ?_
      obtain ⟨j9, e10, h⟩ := bd_ob h
      have hj9 : j9 < N 16 := (hwf.2.1 1 j0 52 _ (kp_r hkb hkp e10) (by decide) hj0)
      refine me_opt (j := j9) (kp_r hkb hkp e10) ?_
      refine lv_sipush (v := 30077) hx hb d_M_logic_244 (by decide) ?_
      refine lv_aload_n hx hb d_M_logic_247 rfl (lv_at hl 0 rfl) ?_
      refine g_M_52 hx hb hts hown hK hP hwf hj0 (hts _ u_1793) d_M_logic_248 ?_
      refine me_opt (j := j9) (kp_r hkb hkp e10) ?_
      refine lv_sipush (v := 30075) hx hb d_M_logic_251 (by decide) ?_
      obtain ⟨g11, h⟩ := gd_ob h
      refine me_lald hx hb hK hP hwf hj9 (me_in (i := (30075 : Int32)) (k := 30075) (by decide) (by decide) (kp_c hkb.z hkp.z g11)) d_M_logic_254 ?_
      refine fg_topl (y := mL M8 16 j9 30075) (congrArg _ (by decide)) ?_
      refine lv_aload_n hx hb d_M_logic_255 rfl (lv_at hl 0 rfl) ?_
      refine g_M_52 hx hb hts hown hK hP hwf hj0 (hts _ u_1793) d_M_logic_256 ?_
      refine me_opt (j := j9) (kp_r hkb hkp e10) ?_
      refine lv_sipush (v := 30076) hx hb d_M_logic_259 (by decide) ?_
      obtain ⟨g12, h⟩ := gd_ob h
      refine me_lald hx hb hK hP hwf hj9 (me_in (i := (30076 : Int32)) (k := 30076) (by decide) (by decide) (kp_c hkb.z hkp.z g12)) d_M_logic_262 ?_
      refine fg_topl (y := mL M8 16 j9 30076) (congrArg _ (by decide)) ?_
      refine lv_lxor hx hb d_M_logic_263 ?_
      refine lv_aload_n hx hb d_M_logic_264 rfl (lv_at hl 0 rfl) ?_
      refine g_M_53 hx hb hts hown hK hP hwf hj0 (hts _ u_1794) d_M_logic_265 ?_
      refine me_opt (j := j3) (kp_r hkb hkp e4) ?_
      refine lv_sipush (v := 30077) hx hb d_M_logic_268 (by decide) ?_
      refine me_lald hx hb hK hP hwf hj3 (me_in (i := (30077 : Int32)) (k := 30077) (by decide) (by decide) (kp_c hkb.z hkp.z g7)) d_M_logic_271 ?_
      refine fg_topl (y := mL M8 16 j3 30077) (congrArg _ (by decide)) ?_
      refine lv_ldc2 hx hb hown (hts _ u_2071) d_M_logic_272 ?_
      refine lv_lxor hx hb d_M_logic_275 ?_
      refine lv_land hx hb d_M_logic_276 ?_
      obtain ⟨v13, ev13, h⟩ := st_ob h
      refine fg_topl (y := v13) ev13.symm ?_
      obtain ⟨g14, h⟩ := gd_ob h
      obtain ⟨M15, eM15, h⟩ := st_ob h
      refine me_last (eM15.trans (by rw [show (30077 : Int32).toNatClampNeg = 30077 by decide])) hx hb hK hP hD hwf hS hj9 (me_in (i := (30077 : Int32)) (k := 30077) (by decide) (by decide) (kp_c hkb.z hkp.z g14)) d_M_logic_277 (fun H locs hP hD hwf hS => ?_)
      have hkp := kp_L eM15 hkp
      exact me_retv (me_kp M0) h hx hb hr hlocks hwf hkp hP hK hD hS d_M_logic_278
    have h := if_t c2 h
    refine lv_aload_n hx hb d_M_logic_122 rfl (lv_at hl 0 rfl) ?_
    refine g_M_52 hx hb hts hown hK hP hwf hj0 (hts _ u_1793) d_M_logic_123 ?_
    obtain ⟨j16, e17, h⟩ := bd_ob h
    have hj16 : j16 < N 16 := (hwf.2.1 1 j0 52 _ e17 (by decide) hj0)
    refine me_opt (j := j16) e17 ?_
    refine lv_sipush (v := 30077) hx hb d_M_logic_126 (by decide) ?_
    refine lv_aload_n hx hb d_M_logic_129 rfl (lv_at hl 0 rfl) ?_
    refine g_M_52 hx hb hts hown hK hP hwf hj0 (hts _ u_1793) d_M_logic_130 ?_
    refine me_opt (j := j16) e17 ?_
    refine lv_sipush (v := 30075) hx hb d_M_logic_133 (by decide) ?_
    obtain ⟨g18, h⟩ := gd_ob h
    refine me_lald hx hb hK hP hwf hj16 (me_in (i := (30075 : Int32)) (k := 30075) (by decide) (by decide) g18) d_M_logic_136 ?_
    refine fg_topl (y := mL M0 16 j16 30075) (congrArg _ (by decide)) ?_
    refine lv_aload_n hx hb d_M_logic_137 rfl (lv_at hl 0 rfl) ?_
    refine g_M_52 hx hb hts hown hK hP hwf hj0 (hts _ u_1793) d_M_logic_138 ?_
    refine me_opt (j := j16) e17 ?_
    refine lv_sipush (v := 30076) hx hb d_M_logic_141 (by decide) ?_
    obtain ⟨g19, h⟩ := gd_ob h
    refine me_lald hx hb hK hP hwf hj16 (me_in (i := (30076 : Int32)) (k := 30076) (by decide) (by decide) g19) d_M_logic_144 ?_
    refine fg_topl (y := mL M0 16 j16 30076) (congrArg _ (by decide)) ?_
    refine lv_lor hx hb d_M_logic_145 ?_
    obtain ⟨g20, h⟩ := gd_ob h
    obtain ⟨M21, eM21, h⟩ := st_ob h
    refine me_last (eM21.trans (by rw [show (30077 : Int32).toNatClampNeg = 30077 by decide])) hx hb hK hP hD hwf hS hj16 (me_in (i := (30077 : Int32)) (k := 30077) (by decide) (by decide) g20) d_M_logic_146 (fun H locs hP hD hwf hS => ?_)
    have hkp := kp_L eM21 hkp
    refine lv_aload_n hx hb d_M_logic_147 rfl (lv_at hl 0 rfl) ?_
    refine g_M_53 hx hb hts hown hK hP hwf hj0 (hts _ u_1794) d_M_logic_148 ?_
    obtain ⟨j22, e23, h⟩ := bd_ob h
    have hj22 : j22 < N 16 := (hwf.2.1 1 j0 53 _ (kp_r hkb hkp e23) (by decide) hj0)
    refine me_opt (j := j22) (kp_r hkb hkp e23) ?_
    refine lv_sipush (v := 30077) hx hb d_M_logic_151 (by decide) ?_
    refine lv_aload_n hx hb d_M_logic_154 rfl (lv_at hl 0 rfl) ?_
    refine g_M_53 hx hb hts hown hK hP hwf hj0 (hts _ u_1794) d_M_logic_155 ?_
    refine me_opt (j := j22) (kp_r hkb hkp e23) ?_
    refine lv_sipush (v := 30075) hx hb d_M_logic_158 (by decide) ?_
    obtain ⟨g24, h⟩ := gd_ob h
    refine me_lald hx hb hK hP hwf hj22 (me_in (i := (30075 : Int32)) (k := 30075) (by decide) (by decide) (kp_c hkb.z hkp.z g24)) d_M_logic_161 ?_
    refine fg_topl (y := mL M21 16 j22 30075) (congrArg _ (by decide)) ?_
    refine lv_aload_n hx hb d_M_logic_162 rfl (lv_at hl 0 rfl) ?_
    refine g_M_53 hx hb hts hown hK hP hwf hj0 (hts _ u_1794) d_M_logic_163 ?_
    refine me_opt (j := j22) (kp_r hkb hkp e23) ?_
    refine lv_sipush (v := 30076) hx hb d_M_logic_166 (by decide) ?_
    obtain ⟨g25, h⟩ := gd_ob h
    refine me_lald hx hb hK hP hwf hj22 (me_in (i := (30076 : Int32)) (k := 30076) (by decide) (by decide) (kp_c hkb.z hkp.z g25)) d_M_logic_169 ?_
    refine fg_topl (y := mL M21 16 j22 30076) (congrArg _ (by decide)) ?_
    refine lv_lor hx hb d_M_logic_170 ?_
    refine lv_aload_n hx hb d_M_logic_171 rfl (lv_at hl 0 rfl) ?_
    refine g_M_52 hx hb hts hown hK hP hwf hj0 (hts _ u_1793) d_M_logic_172 ?_
    refine me_opt (j := j16) (kp_r hkb hkp e17) ?_
    refine lv_sipush (v := 30077) hx hb d_M_logic_175 (by decide) ?_
    refine me_lald hx hb hK hP hwf hj16 (me_in (i := (30077 : Int32)) (k := 30077) (by decide) (by decide) (kp_c hkb.z hkp.z g20)) d_M_logic_178 ?_
    refine fg_topl (y := mL M21 16 j16 30077) (congrArg _ (by decide)) ?_
    refine lv_ldc2 hx hb hown (hts _ u_2071) d_M_logic_179 ?_
    refine lv_lxor hx hb d_M_logic_182 ?_
    refine lv_land hx hb d_M_logic_183 ?_
    obtain ⟨v26, ev26, h⟩ := st_ob h
    refine fg_topl (y := v26) ev26.symm ?_
    obtain ⟨g27, h⟩ := gd_ob h
    obtain ⟨M28, eM28, h⟩ := st_ob h
    refine me_last (eM28.trans (by rw [show (30077 : Int32).toNatClampNeg = 30077 by decide])) hx hb hK hP hD hwf hS hj22 (me_in (i := (30077 : Int32)) (k := 30077) (by decide) (by decide) (kp_c hkb.z hkp.z g27)) d_M_logic_184 (fun H locs hP hD hwf hS => ?_)
    have hkp := kp_L eM28 hkp
    refine lv_aload_n hx hb d_M_logic_185 rfl (lv_at hl 0 rfl) ?_
    refine g_M_54 hx hb hts hown hK hP hwf hj0 (hts _ u_1795) d_M_logic_186 ?_
    obtain ⟨j29, e30, h⟩ := bd_ob h
    have hj29 : j29 < N 16 := (hwf.2.1 1 j0 54 _ (kp_r hkb hkp e30) (by decide) hj0)
    refine me_opt (j := j29) (kp_r hkb hkp e30) ?_
    refine lv_sipush (v := 30077) hx hb d_M_logic_189 (by decide) ?_
    refine lv_aload_n hx hb d_M_logic_192 rfl (lv_at hl 0 rfl) ?_
    refine g_M_54 hx hb hts hown hK hP hwf hj0 (hts _ u_1795) d_M_logic_193 ?_
    refine me_opt (j := j29) (kp_r hkb hkp e30) ?_
    refine lv_sipush (v := 30075) hx hb d_M_logic_196 (by decide) ?_
    obtain ⟨g31, h⟩ := gd_ob h
    refine me_lald hx hb hK hP hwf hj29 (me_in (i := (30075 : Int32)) (k := 30075) (by decide) (by decide) (kp_c hkb.z hkp.z g31)) d_M_logic_199 ?_
    refine fg_topl (y := mL M28 16 j29 30075) (congrArg _ (by decide)) ?_
    refine lv_aload_n hx hb d_M_logic_200 rfl (lv_at hl 0 rfl) ?_
    refine g_M_54 hx hb hts hown hK hP hwf hj0 (hts _ u_1795) d_M_logic_201 ?_
    refine me_opt (j := j29) (kp_r hkb hkp e30) ?_
    refine lv_sipush (v := 30076) hx hb d_M_logic_204 (by decide) ?_
    obtain ⟨g32, h⟩ := gd_ob h
    refine me_lald hx hb hK hP hwf hj29 (me_in (i := (30076 : Int32)) (k := 30076) (by decide) (by decide) (kp_c hkb.z hkp.z g32)) d_M_logic_207 ?_
    refine fg_topl (y := mL M28 16 j29 30076) (congrArg _ (by decide)) ?_
    obtain ⟨r33, er33, h⟩ := bd_ob h
    refine me_panl' (r0 := r33) (fg_runS (wc := []) (tc := []) (A2 := A) (As := [.long (mL M28 16 j29 30075), .long (mL M28 16 j29 30076)]) (rest := [.int 30077, .ref (ad 16 j29)]) ⟨hx, hb, hml, hown, hts⟩ (c_M_greater l D r33 (mL M28 16 j29 30075) (mL M28 16 j29 30076) er33 _) (by show fg_nm y_M_greater 2; decide +kernel) u_2151 u_2152 u_192 u_2153 ⟨Nat.le_of_ble_eq_true rfl, Nat.le_of_ble_eq_true rfl⟩ hX me_P0 (hK.sub (tys' := []) [] rfl) me_D0 rfl hl.1 (Nat.le_of_ble_eq_true rfl) d_M_logic_208 ⟨Nat.le_of_ble_eq_true rfl, Nat.le_of_ble_eq_true rfl⟩) hP hD hK hS hA rfl rfl (fun H locs hw hP hD hS => ?_)
    obtain ⟨g34, h⟩ := gd_ob h
    obtain ⟨M35, eM35, h⟩ := st_ob h
    refine me_last (eM35.trans (by rw [show (30077 : Int32).toNatClampNeg = 30077 by decide])) hx hb hK hP hD hwf hS hj29 (me_in (i := (30077 : Int32)) (k := 30077) (by decide) (by decide) (kp_c hkb.z hkp.z g34)) d_M_logic_211 (fun H locs hP hD hwf hS => ?_)
    have hkp := kp_L eM35 hkp
    refine lv_goto (tgt := 278) hx hb d_M_logic_212 (by decide) ?_
    exact me_retv (me_kp M0) h hx hb hr hlocks hwf hkp hP hK hD hS d_M_logic_278
  have h := if_t c1 h
  refine lv_aload_n hx hb d_M_logic_5 rfl (lv_at hl 0 rfl) ?_
  refine g_M_52 hx hb hts hown hK hP hwf hj0 (hts _ u_1793) d_M_logic_6 ?_
  obtain ⟨j36, e37, h⟩ := bd_ob h
  have hj36 : j36 < N 16 := (hwf.2.1 1 j0 52 _ e37 (by decide) hj0)
  refine me_opt (j := j36) e37 ?_
  refine lv_sipush (v := 30077) hx hb d_M_logic_9 (by decide) ?_
  refine lv_aload_n hx hb d_M_logic_12 rfl (lv_at hl 0 rfl) ?_
  refine g_M_52 hx hb hts hown hK hP hwf hj0 (hts _ u_1793) d_M_logic_13 ?_
  refine me_opt (j := j36) e37 ?_
  refine lv_sipush (v := 30075) hx hb d_M_logic_16 (by decide) ?_
  obtain ⟨g38, h⟩ := gd_ob h
  refine me_lald hx hb hK hP hwf hj36 (me_in (i := (30075 : Int32)) (k := 30075) (by decide) (by decide) g38) d_M_logic_19 ?_
  refine fg_topl (y := mL M0 16 j36 30075) (congrArg _ (by decide)) ?_
  refine lv_aload_n hx hb d_M_logic_20 rfl (lv_at hl 0 rfl) ?_
  refine g_M_52 hx hb hts hown hK hP hwf hj0 (hts _ u_1793) d_M_logic_21 ?_
  refine me_opt (j := j36) e37 ?_
  refine lv_sipush (v := 30076) hx hb d_M_logic_24 (by decide) ?_
  obtain ⟨g39, h⟩ := gd_ob h
  refine me_lald hx hb hK hP hwf hj36 (me_in (i := (30076 : Int32)) (k := 30076) (by decide) (by decide) g39) d_M_logic_27 ?_
  refine fg_topl (y := mL M0 16 j36 30076) (congrArg _ (by decide)) ?_
  refine lv_land hx hb d_M_logic_28 ?_
  obtain ⟨g40, h⟩ := gd_ob h
  obtain ⟨M41, eM41, h⟩ := st_ob h
  refine me_last (eM41.trans (by rw [show (30077 : Int32).toNatClampNeg = 30077 by decide])) hx hb hK hP hD hwf hS hj36 (me_in (i := (30077 : Int32)) (k := 30077) (by decide) (by decide) g40) d_M_logic_29 (fun H locs hP hD hwf hS => ?_)
  have hkp := kp_L eM41 hkp
  refine lv_aload_n hx hb d_M_logic_30 rfl (lv_at hl 0 rfl) ?_
  refine g_M_53 hx hb hts hown hK hP hwf hj0 (hts _ u_1794) d_M_logic_31 ?_
  obtain ⟨j42, e43, h⟩ := bd_ob h
  have hj42 : j42 < N 16 := (hwf.2.1 1 j0 53 _ (kp_r hkb hkp e43) (by decide) hj0)
  refine me_opt (j := j42) (kp_r hkb hkp e43) ?_
  refine lv_sipush (v := 30077) hx hb d_M_logic_34 (by decide) ?_
  refine lv_aload_n hx hb d_M_logic_37 rfl (lv_at hl 0 rfl) ?_
  refine g_M_52 hx hb hts hown hK hP hwf hj0 (hts _ u_1793) d_M_logic_38 ?_
  refine me_opt (j := j36) (kp_r hkb hkp e37) ?_
  refine lv_sipush (v := 30075) hx hb d_M_logic_41 (by decide) ?_
  refine me_lald hx hb hK hP hwf hj36 (me_in (i := (30075 : Int32)) (k := 30075) (by decide) (by decide) (kp_c hkb.z hkp.z g38)) d_M_logic_44 ?_
  refine fg_topl (y := mL M41 16 j36 30075) (congrArg _ (by decide)) ?_
  refine lv_aload_n hx hb d_M_logic_45 rfl (lv_at hl 0 rfl) ?_
  refine g_M_53 hx hb hts hown hK hP hwf hj0 (hts _ u_1794) d_M_logic_46 ?_
  refine me_opt (j := j42) (kp_r hkb hkp e43) ?_
  refine lv_sipush (v := 30075) hx hb d_M_logic_49 (by decide) ?_
  obtain ⟨g44, h⟩ := gd_ob h
  refine me_lald hx hb hK hP hwf hj42 (me_in (i := (30075 : Int32)) (k := 30075) (by decide) (by decide) (kp_c hkb.z hkp.z g44)) d_M_logic_52 ?_
  refine fg_topl (y := mL M41 16 j42 30075) (congrArg _ (by decide)) ?_
  refine lv_lor hx hb d_M_logic_53 ?_
  refine lv_aload_n hx hb d_M_logic_54 rfl (lv_at hl 0 rfl) ?_
  refine g_M_52 hx hb hts hown hK hP hwf hj0 (hts _ u_1793) d_M_logic_55 ?_
  refine me_opt (j := j36) (kp_r hkb hkp e37) ?_
  refine lv_sipush (v := 30076) hx hb d_M_logic_58 (by decide) ?_
  refine me_lald hx hb hK hP hwf hj36 (me_in (i := (30076 : Int32)) (k := 30076) (by decide) (by decide) (kp_c hkb.z hkp.z g39)) d_M_logic_61 ?_
  refine fg_topl (y := mL M41 16 j36 30076) (congrArg _ (by decide)) ?_
  refine lv_aload_n hx hb d_M_logic_62 rfl (lv_at hl 0 rfl) ?_
  refine g_M_53 hx hb hts hown hK hP hwf hj0 (hts _ u_1794) d_M_logic_63 ?_
  refine me_opt (j := j42) (kp_r hkb hkp e43) ?_
  refine lv_sipush (v := 30076) hx hb d_M_logic_66 (by decide) ?_
  obtain ⟨g45, h⟩ := gd_ob h
  refine me_lald hx hb hK hP hwf hj42 (me_in (i := (30076 : Int32)) (k := 30076) (by decide) (by decide) (kp_c hkb.z hkp.z g45)) d_M_logic_69 ?_
  refine fg_topl (y := mL M41 16 j42 30076) (congrArg _ (by decide)) ?_
  refine lv_lor hx hb d_M_logic_70 ?_
  refine lv_land hx hb d_M_logic_71 ?_
  obtain ⟨v46, ev46, h⟩ := st_ob h
  refine fg_topl (y := v46) ev46.symm ?_
  refine lv_aload_n hx hb d_M_logic_72 rfl (lv_at hl 0 rfl) ?_
  refine g_M_52 hx hb hts hown hK hP hwf hj0 (hts _ u_1793) d_M_logic_73 ?_
  refine me_opt (j := j36) (kp_r hkb hkp e37) ?_
  refine lv_sipush (v := 30077) hx hb d_M_logic_76 (by decide) ?_
  refine me_lald hx hb hK hP hwf hj36 (me_in (i := (30077 : Int32)) (k := 30077) (by decide) (by decide) (kp_c hkb.z hkp.z g40)) d_M_logic_79 ?_
  refine fg_topl (y := mL M41 16 j36 30077) (congrArg _ (by decide)) ?_
  refine lv_ldc2 hx hb hown (hts _ u_2071) d_M_logic_80 ?_
  refine lv_lxor hx hb d_M_logic_83 ?_
  refine lv_land hx hb d_M_logic_84 ?_
  obtain ⟨g47, h⟩ := gd_ob h
  obtain ⟨M48, eM48, h⟩ := st_ob h
  refine me_last (eM48.trans (by rw [show (30077 : Int32).toNatClampNeg = 30077 by decide])) hx hb hK hP hD hwf hS hj42 (me_in (i := (30077 : Int32)) (k := 30077) (by decide) (by decide) (kp_c hkb.z hkp.z g47)) d_M_logic_85 (fun H locs hP hD hwf hS => ?_)
  have hkp := kp_L eM48 hkp
  refine lv_aload_n hx hb d_M_logic_86 rfl (lv_at hl 0 rfl) ?_
  refine g_M_55 hx hb hts hown hK hP hwf hj0 (hts _ u_1796) d_M_logic_87 ?_
  obtain ⟨j49, e50, h⟩ := bd_ob h
  have hj49 : j49 < N 16 := (hwf.2.1 1 j0 55 _ (kp_r hkb hkp e50) (by decide) hj0)
  refine me_opt (j := j49) (kp_r hkb hkp e50) ?_
  refine lv_sipush (v := 30077) hx hb d_M_logic_90 (by decide) ?_
  refine lv_aload_n hx hb d_M_logic_93 rfl (lv_at hl 0 rfl) ?_
  refine g_M_55 hx hb hts hown hK hP hwf hj0 (hts _ u_1796) d_M_logic_94 ?_
  refine me_opt (j := j49) (kp_r hkb hkp e50) ?_
  refine lv_sipush (v := 30075) hx hb d_M_logic_97 (by decide) ?_
  obtain ⟨g51, h⟩ := gd_ob h
  refine me_lald hx hb hK hP hwf hj49 (me_in (i := (30075 : Int32)) (k := 30075) (by decide) (by decide) (kp_c hkb.z hkp.z g51)) d_M_logic_100 ?_
  refine fg_topl (y := mL M48 16 j49 30075) (congrArg _ (by decide)) ?_
  refine lv_aload_n hx hb d_M_logic_101 rfl (lv_at hl 0 rfl) ?_
  refine g_M_55 hx hb hts hown hK hP hwf hj0 (hts _ u_1796) d_M_logic_102 ?_
  refine me_opt (j := j49) (kp_r hkb hkp e50) ?_
  refine lv_sipush (v := 30076) hx hb d_M_logic_105 (by decide) ?_
  obtain ⟨g52, h⟩ := gd_ob h
  refine me_lald hx hb hK hP hwf hj49 (me_in (i := (30076 : Int32)) (k := 30076) (by decide) (by decide) (kp_c hkb.z hkp.z g52)) d_M_logic_108 ?_
  refine fg_topl (y := mL M48 16 j49 30076) (congrArg _ (by decide)) ?_
  obtain ⟨r53, er53, h⟩ := bd_ob h
  refine me_panl' (r0 := r53) (fg_runS (wc := []) (tc := []) (A2 := A) (As := [.long (mL M48 16 j49 30075), .long (mL M48 16 j49 30076)]) (rest := [.int 30077, .ref (ad 16 j49)]) ⟨hx, hb, hml, hown, hts⟩ (c_M_lesser l D r53 (mL M48 16 j49 30075) (mL M48 16 j49 30076) er53 _) (by show fg_nm y_M_lesser 2; decide +kernel) u_2154 u_2155 u_192 u_2156 ⟨Nat.le_of_ble_eq_true rfl, Nat.le_of_ble_eq_true rfl⟩ hX me_P0 (hK.sub (tys' := []) [] rfl) me_D0 rfl hl.1 (Nat.le_of_ble_eq_true rfl) d_M_logic_109 ⟨Nat.le_of_ble_eq_true rfl, Nat.le_of_ble_eq_true rfl⟩) hP hD hK hS hA rfl rfl (fun H locs hw hP hD hS => ?_)
  obtain ⟨g54, h⟩ := gd_ob h
  obtain ⟨M55, eM55, h⟩ := st_ob h
  refine me_last (eM55.trans (by rw [show (30077 : Int32).toNatClampNeg = 30077 by decide])) hx hb hK hP hD hwf hS hj49 (me_in (i := (30077 : Int32)) (k := 30077) (by decide) (by decide) (kp_c hkb.z hkp.z g54)) d_M_logic_112 (fun H locs hP hD hwf hS => ?_)
  have hkp := kp_L eM55 hkp
  refine lv_goto (tgt := 278) hx hb d_M_logic_113 (by decide) ?_
  exact me_retv (me_kp M0) h hx hb hr hlocks hwf hkp hP hK hD hS d_M_logic_278
theorem d_M_shift_64 : decode prog_14_method_26_code 64 = .ok (.aload_n 0, 1) := by decide +kernel
theorem d_M_shift_65 : decode prog_14_method_26_code 65 = .ok (.getfield 110, 3) := by decide +kernel
theorem d_M_shift_68 : decode prog_14_method_26_code 68 = .ok (.sipush 30077, 3) := by decide +kernel
theorem d_M_shift_71 : decode prog_14_method_26_code 71 = .ok (.aload_n 0, 1) := by decide +kernel
theorem d_M_shift_72 : decode prog_14_method_26_code 72 = .ok (.getfield 110, 3) := by decide +kernel
theorem d_M_shift_75 : decode prog_14_method_26_code 75 = .ok (.sipush 30075, 3) := by decide +kernel
theorem d_M_shift_78 : decode prog_14_method_26_code 78 = .ok (.laload, 1) := by decide +kernel
theorem d_M_shift_79 : decode prog_14_method_26_code 79 = .ok (.iload_n 2, 1) := by decide +kernel
theorem d_M_shift_80 : decode prog_14_method_26_code 80 = .ok (.lshl, 1) := by decide +kernel
theorem d_M_shift_81 : decode prog_14_method_26_code 81 = .ok (.lastore, 1) := by decide +kernel
theorem d_M_shift_82 : decode prog_14_method_26_code 82 = .ok (.aload_n 0, 1) := by decide +kernel
theorem d_M_shift_83 : decode prog_14_method_26_code 83 = .ok (.getfield 113, 3) := by decide +kernel
theorem d_M_shift_86 : decode prog_14_method_26_code 86 = .ok (.sipush 30077, 3) := by decide +kernel
theorem d_M_shift_89 : decode prog_14_method_26_code 89 = .ok (.aload_n 0, 1) := by decide +kernel
theorem d_M_shift_90 : decode prog_14_method_26_code 90 = .ok (.getfield 113, 3) := by decide +kernel
theorem d_M_shift_93 : decode prog_14_method_26_code 93 = .ok (.sipush 30075, 3) := by decide +kernel
theorem d_M_shift_96 : decode prog_14_method_26_code 96 = .ok (.laload, 1) := by decide +kernel
theorem d_M_shift_97 : decode prog_14_method_26_code 97 = .ok (.iload_n 2, 1) := by decide +kernel
theorem d_M_shift_98 : decode prog_14_method_26_code 98 = .ok (.lshl, 1) := by decide +kernel
theorem d_M_shift_99 : decode prog_14_method_26_code 99 = .ok (.lastore, 1) := by decide +kernel
theorem d_M_shift_100 : decode prog_14_method_26_code 100 = .ok (.goto 156, 3) := by decide +kernel
theorem d_M_shift_256 : decode prog_14_method_26_code 256 = .ok (.return_, 1) := by decide +kernel
theorem d_M_shift_0 : decode prog_14_method_26_code 0 = .ok (.iload_n 1, 1) := by decide +kernel
theorem d_M_shift_1 : decode prog_14_method_26_code 1 = .ok (.bipush 8, 2) := by decide +kernel
theorem d_M_shift_3 : decode prog_14_method_26_code 3 = .ok (.if_icmp .ne 100, 3) := by decide +kernel
theorem d_M_shift_103 : decode prog_14_method_26_code 103 = .ok (.iload_n 1, 1) := by decide +kernel
theorem d_M_shift_104 : decode prog_14_method_26_code 104 = .ok (.bipush 9, 2) := by decide +kernel
theorem d_M_shift_106 : decode prog_14_method_26_code 106 = .ok (.if_icmp .ne 78, 3) := by decide +kernel
theorem d_M_shift_184 : decode prog_14_method_26_code 184 = .ok (.aload_n 0, 1) := by decide +kernel
theorem d_M_shift_185 : decode prog_14_method_26_code 185 = .ok (.getfield 104, 3) := by decide +kernel
theorem d_M_shift_188 : decode prog_14_method_26_code 188 = .ok (.sipush 30077, 3) := by decide +kernel
theorem d_M_shift_191 : decode prog_14_method_26_code 191 = .ok (.aload_n 0, 1) := by decide +kernel
theorem d_M_shift_192 : decode prog_14_method_26_code 192 = .ok (.getfield 104, 3) := by decide +kernel
theorem d_M_shift_195 : decode prog_14_method_26_code 195 = .ok (.sipush 30075, 3) := by decide +kernel
theorem d_M_shift_198 : decode prog_14_method_26_code 198 = .ok (.laload, 1) := by decide +kernel
theorem d_M_shift_199 : decode prog_14_method_26_code 199 = .ok (.iload_n 2, 1) := by decide +kernel
theorem d_M_shift_200 : decode prog_14_method_26_code 200 = .ok (.lshr, 1) := by decide +kernel
theorem d_M_shift_201 : decode prog_14_method_26_code 201 = .ok (.lastore, 1) := by decide +kernel
theorem d_M_shift_202 : decode prog_14_method_26_code 202 = .ok (.aload_n 0, 1) := by decide +kernel
theorem d_M_shift_203 : decode prog_14_method_26_code 203 = .ok (.getfield 107, 3) := by decide +kernel
theorem d_M_shift_206 : decode prog_14_method_26_code 206 = .ok (.sipush 30077, 3) := by decide +kernel
theorem d_M_shift_209 : decode prog_14_method_26_code 209 = .ok (.aload_n 0, 1) := by decide +kernel
theorem d_M_shift_210 : decode prog_14_method_26_code 210 = .ok (.getfield 107, 3) := by decide +kernel
theorem d_M_shift_213 : decode prog_14_method_26_code 213 = .ok (.sipush 30075, 3) := by decide +kernel
theorem d_M_shift_216 : decode prog_14_method_26_code 216 = .ok (.laload, 1) := by decide +kernel
theorem d_M_shift_217 : decode prog_14_method_26_code 217 = .ok (.iload_n 2, 1) := by decide +kernel
theorem d_M_shift_218 : decode prog_14_method_26_code 218 = .ok (.lshr, 1) := by decide +kernel
theorem d_M_shift_219 : decode prog_14_method_26_code 219 = .ok (.lastore, 1) := by decide +kernel
theorem d_M_shift_220 : decode prog_14_method_26_code 220 = .ok (.aload_n 0, 1) := by decide +kernel
theorem d_M_shift_221 : decode prog_14_method_26_code 221 = .ok (.getfield 116, 3) := by decide +kernel
theorem d_M_shift_224 : decode prog_14_method_26_code 224 = .ok (.sipush 30077, 3) := by decide +kernel
theorem d_M_shift_227 : decode prog_14_method_26_code 227 = .ok (.aload_n 0, 1) := by decide +kernel
theorem d_M_shift_228 : decode prog_14_method_26_code 228 = .ok (.getfield 116, 3) := by decide +kernel
theorem d_M_shift_231 : decode prog_14_method_26_code 231 = .ok (.sipush 30075, 3) := by decide +kernel
theorem d_M_shift_234 : decode prog_14_method_26_code 234 = .ok (.laload, 1) := by decide +kernel
theorem d_M_shift_235 : decode prog_14_method_26_code 235 = .ok (.iload_n 2, 1) := by decide +kernel
theorem d_M_shift_236 : decode prog_14_method_26_code 236 = .ok (.lshr, 1) := by decide +kernel
theorem d_M_shift_237 : decode prog_14_method_26_code 237 = .ok (.lastore, 1) := by decide +kernel
theorem d_M_shift_238 : decode prog_14_method_26_code 238 = .ok (.aload_n 0, 1) := by decide +kernel
theorem d_M_shift_239 : decode prog_14_method_26_code 239 = .ok (.getfield 119, 3) := by decide +kernel
theorem d_M_shift_242 : decode prog_14_method_26_code 242 = .ok (.sipush 30077, 3) := by decide +kernel
theorem d_M_shift_245 : decode prog_14_method_26_code 245 = .ok (.aload_n 0, 1) := by decide +kernel
theorem d_M_shift_246 : decode prog_14_method_26_code 246 = .ok (.getfield 119, 3) := by decide +kernel
theorem d_M_shift_249 : decode prog_14_method_26_code 249 = .ok (.sipush 30075, 3) := by decide +kernel
theorem d_M_shift_252 : decode prog_14_method_26_code 252 = .ok (.laload, 1) := by decide +kernel
theorem d_M_shift_253 : decode prog_14_method_26_code 253 = .ok (.iload_n 2, 1) := by decide +kernel
theorem d_M_shift_254 : decode prog_14_method_26_code 254 = .ok (.lshr, 1) := by decide +kernel
theorem d_M_shift_255 : decode prog_14_method_26_code 255 = .ok (.lastore, 1) := by decide +kernel
theorem d_M_shift_109 : decode prog_14_method_26_code 109 = .ok (.aload_n 0, 1) := by decide +kernel
theorem d_M_shift_110 : decode prog_14_method_26_code 110 = .ok (.getfield 104, 3) := by decide +kernel
theorem d_M_shift_113 : decode prog_14_method_26_code 113 = .ok (.sipush 30077, 3) := by decide +kernel
theorem d_M_shift_116 : decode prog_14_method_26_code 116 = .ok (.aload_n 0, 1) := by decide +kernel
theorem d_M_shift_117 : decode prog_14_method_26_code 117 = .ok (.getfield 104, 3) := by decide +kernel
theorem d_M_shift_120 : decode prog_14_method_26_code 120 = .ok (.sipush 30075, 3) := by decide +kernel
theorem d_M_shift_123 : decode prog_14_method_26_code 123 = .ok (.laload, 1) := by decide +kernel
theorem d_M_shift_124 : decode prog_14_method_26_code 124 = .ok (.iload_n 2, 1) := by decide +kernel
theorem d_M_shift_125 : decode prog_14_method_26_code 125 = .ok (.lushr, 1) := by decide +kernel
theorem d_M_shift_126 : decode prog_14_method_26_code 126 = .ok (.lastore, 1) := by decide +kernel
theorem d_M_shift_127 : decode prog_14_method_26_code 127 = .ok (.aload_n 0, 1) := by decide +kernel
theorem d_M_shift_128 : decode prog_14_method_26_code 128 = .ok (.getfield 107, 3) := by decide +kernel
theorem d_M_shift_131 : decode prog_14_method_26_code 131 = .ok (.sipush 30077, 3) := by decide +kernel
theorem d_M_shift_134 : decode prog_14_method_26_code 134 = .ok (.aload_n 0, 1) := by decide +kernel
theorem d_M_shift_135 : decode prog_14_method_26_code 135 = .ok (.getfield 107, 3) := by decide +kernel
theorem d_M_shift_138 : decode prog_14_method_26_code 138 = .ok (.sipush 30075, 3) := by decide +kernel
theorem d_M_shift_141 : decode prog_14_method_26_code 141 = .ok (.laload, 1) := by decide +kernel
theorem d_M_shift_142 : decode prog_14_method_26_code 142 = .ok (.iload_n 2, 1) := by decide +kernel
theorem d_M_shift_143 : decode prog_14_method_26_code 143 = .ok (.lushr, 1) := by decide +kernel
theorem d_M_shift_144 : decode prog_14_method_26_code 144 = .ok (.lastore, 1) := by decide +kernel
theorem d_M_shift_145 : decode prog_14_method_26_code 145 = .ok (.aload_n 0, 1) := by decide +kernel
theorem d_M_shift_146 : decode prog_14_method_26_code 146 = .ok (.getfield 110, 3) := by decide +kernel
theorem d_M_shift_149 : decode prog_14_method_26_code 149 = .ok (.sipush 30077, 3) := by decide +kernel
theorem d_M_shift_152 : decode prog_14_method_26_code 152 = .ok (.aload_n 0, 1) := by decide +kernel
theorem d_M_shift_153 : decode prog_14_method_26_code 153 = .ok (.getfield 110, 3) := by decide +kernel
theorem d_M_shift_156 : decode prog_14_method_26_code 156 = .ok (.sipush 30075, 3) := by decide +kernel
theorem d_M_shift_159 : decode prog_14_method_26_code 159 = .ok (.laload, 1) := by decide +kernel
theorem d_M_shift_160 : decode prog_14_method_26_code 160 = .ok (.iload_n 2, 1) := by decide +kernel
theorem d_M_shift_161 : decode prog_14_method_26_code 161 = .ok (.lushr, 1) := by decide +kernel
theorem d_M_shift_162 : decode prog_14_method_26_code 162 = .ok (.lastore, 1) := by decide +kernel
theorem d_M_shift_163 : decode prog_14_method_26_code 163 = .ok (.aload_n 0, 1) := by decide +kernel
theorem d_M_shift_164 : decode prog_14_method_26_code 164 = .ok (.getfield 113, 3) := by decide +kernel
theorem d_M_shift_167 : decode prog_14_method_26_code 167 = .ok (.sipush 30077, 3) := by decide +kernel
theorem d_M_shift_170 : decode prog_14_method_26_code 170 = .ok (.aload_n 0, 1) := by decide +kernel
theorem d_M_shift_171 : decode prog_14_method_26_code 171 = .ok (.getfield 113, 3) := by decide +kernel
theorem d_M_shift_174 : decode prog_14_method_26_code 174 = .ok (.sipush 30075, 3) := by decide +kernel
theorem d_M_shift_177 : decode prog_14_method_26_code 177 = .ok (.laload, 1) := by decide +kernel
theorem d_M_shift_178 : decode prog_14_method_26_code 178 = .ok (.iload_n 2, 1) := by decide +kernel
theorem d_M_shift_179 : decode prog_14_method_26_code 179 = .ok (.lushr, 1) := by decide +kernel
theorem d_M_shift_180 : decode prog_14_method_26_code 180 = .ok (.lastore, 1) := by decide +kernel
theorem d_M_shift_181 : decode prog_14_method_26_code 181 = .ok (.goto 75, 3) := by decide +kernel
theorem d_M_shift_6 : decode prog_14_method_26_code 6 = .ok (.aload_n 0, 1) := by decide +kernel
theorem d_M_shift_7 : decode prog_14_method_26_code 7 = .ok (.getfield 104, 3) := by decide +kernel
theorem d_M_shift_10 : decode prog_14_method_26_code 10 = .ok (.sipush 30077, 3) := by decide +kernel
theorem d_M_shift_13 : decode prog_14_method_26_code 13 = .ok (.aload_n 0, 1) := by decide +kernel
theorem d_M_shift_14 : decode prog_14_method_26_code 14 = .ok (.getfield 104, 3) := by decide +kernel
theorem d_M_shift_17 : decode prog_14_method_26_code 17 = .ok (.sipush 30075, 3) := by decide +kernel
theorem d_M_shift_20 : decode prog_14_method_26_code 20 = .ok (.laload, 1) := by decide +kernel
theorem d_M_shift_21 : decode prog_14_method_26_code 21 = .ok (.iload_n 2, 1) := by decide +kernel
theorem d_M_shift_22 : decode prog_14_method_26_code 22 = .ok (.lshl, 1) := by decide +kernel
theorem d_M_shift_23 : decode prog_14_method_26_code 23 = .ok (.lastore, 1) := by decide +kernel
theorem d_M_shift_24 : decode prog_14_method_26_code 24 = .ok (.aload_n 0, 1) := by decide +kernel
theorem d_M_shift_25 : decode prog_14_method_26_code 25 = .ok (.getfield 107, 3) := by decide +kernel
theorem d_M_shift_28 : decode prog_14_method_26_code 28 = .ok (.sipush 30077, 3) := by decide +kernel
theorem d_M_shift_31 : decode prog_14_method_26_code 31 = .ok (.aload_n 0, 1) := by decide +kernel
theorem d_M_shift_32 : decode prog_14_method_26_code 32 = .ok (.getfield 107, 3) := by decide +kernel
theorem d_M_shift_35 : decode prog_14_method_26_code 35 = .ok (.sipush 30075, 3) := by decide +kernel
theorem d_M_shift_38 : decode prog_14_method_26_code 38 = .ok (.laload, 1) := by decide +kernel
theorem d_M_shift_39 : decode prog_14_method_26_code 39 = .ok (.iload_n 2, 1) := by decide +kernel
theorem d_M_shift_40 : decode prog_14_method_26_code 40 = .ok (.lshl, 1) := by decide +kernel
theorem d_M_shift_41 : decode prog_14_method_26_code 41 = .ok (.lastore, 1) := by decide +kernel
theorem d_M_shift_42 : decode prog_14_method_26_code 42 = .ok (.iload_n 2, 1) := by decide +kernel
theorem d_M_shift_43 : decode prog_14_method_26_code 43 = .ok (.ifCond .eq 21, 3) := by decide +kernel
theorem d_M_shift_46 : decode prog_14_method_26_code 46 = .ok (.aload_n 0, 1) := by decide +kernel
theorem d_M_shift_47 : decode prog_14_method_26_code 47 = .ok (.getfield 113, 3) := by decide +kernel
theorem d_M_shift_50 : decode prog_14_method_26_code 50 = .ok (.sipush 30075, 3) := by decide +kernel
theorem d_M_shift_53 : decode prog_14_method_26_code 53 = .ok (.laload, 1) := by decide +kernel
theorem d_M_shift_54 : decode prog_14_method_26_code 54 = .ok (.bipush 64, 2) := by decide +kernel
theorem d_M_shift_56 : decode prog_14_method_26_code 56 = .ok (.iload_n 2, 1) := by decide +kernel
theorem d_M_shift_57 : decode prog_14_method_26_code 57 = .ok (.isub, 1) := by decide +kernel
theorem d_M_shift_58 : decode prog_14_method_26_code 58 = .ok (.lushr, 1) := by decide +kernel
theorem d_M_shift_59 : decode prog_14_method_26_code 59 = .ok (.lconst 0, 1) := by decide +kernel
theorem d_M_shift_60 : decode prog_14_method_26_code 60 = .ok (.lcmp, 1) := by decide +kernel
theorem d_M_shift_61 : decode prog_14_method_26_code 61 = .ok (.ifCond .ne 195, 3) := by decide +kernel
abbrev y_M_shift : MethodName := ⟨"FilterGuardModel", "shift", "(II)V"⟩
def rm_M_shift : Room := { frames := 1, cells := 0, slots := 0, locals := 20 }
abbrev q_M_shift (D : va_G) (ad : Nat → Nat → Nat) (ca : Nat → ClassId) (N : Nat → Nat) (M0 MZ : me_M) (A : Nat → Prop) : Array Value → Jvm.State → Outcome → Jvm.State → Prop := va_Qv (fun (_ : Unit) => me_wf N MZ ∧ me_kp M0 MZ) (fg_B D A (fun _ => me_W ad ca MZ) (fun _ => [])) A
set_option maxHeartbeats 4000000 in
set_option maxRecDepth 100000 in
theorem c_M_shift (l : Launch) (D : va_G) (ad : Nat → Nat → Nat) (ca : Nat → ClassId) (N : Nat → Nat) (M0 MZ : me_M) (j0 : Nat) (x1 : Int32) (x2 : Int32) (h : f_M_shift M0 j0 x1 x2 = (some MZ)) (hwf : me_wf N M0) (hj0 : j0 < N 1) (sz : Nat) : Met l y_M_shift (fg_w y_M_shift prog_14_method_26_code 3 none) rm_M_shift (va_Pc [.ref (ad 1 j0), .int x1, .int x2] (fz_P D (me_T ca) (me_W ad ca M0) sz)) (q_M_shift D ad ca N M0 MZ (va_A (me_W ad ca M0) sz)) rm_M_shift.cells rm_M_shift.slots (va_A (me_W ad ca M0) sz) := by
  refine fz_enter (fun A => q_M_shift D ad ca N M0 MZ A) (by decide +kernel) (Nat.le_of_ble_eq_true rfl) ?_
  intro p e s m below meth c ls A hx hb hml hown hts hr hlocks hin hP hK hD hS hA hX hl hz
  have hl : lv_has ls 3 [(0, .ref (ad 1 j0)), (1, .int x1), (2, .int x2)] := hl
  unfold f_M_shift at h
  have hkp : me_kp M0 M0 := me_kp.rf
  have hkb := hkp
  have b_64 : ∀ (M : me_M) (H : Heap) (locs : List Loc) (ls : Array Slot), f_M_shift_b64 j0 x2 M = (some MZ) → me_wf N M → me_kp M0 M → va_P D classes (me_W ad ca M) H → va_D A (me_W ad ca M) → va_S A s.heap H locs → lv_has ls 3 [(0, .ref (ad 1 j0)), (2, .int x2)] → W p l e rm_M_shift s m [.ref (ad 1 j0), .int x1, .int x2].toArray below meth c H locs 0 0 (MQ below (q_M_shift D ad ca N M0 MZ A) [.ref (ad 1 j0), .int x1, .int x2].toArray s rm_M_shift.cells rm_M_shift.slots A) (F0 m 64 ls []) := by
    intro M H locs ls h hwf hkp hP hD hS hl
    unfold f_M_shift_b64 at h
    have hkb := hkp
    refine lv_aload_n hx hb d_M_shift_64 rfl (lv_at hl 0 rfl) ?_
    refine g_M_54 hx hb hts hown hK hP hwf hj0 (hts _ u_1795) d_M_shift_65 ?_
    obtain ⟨j1, e2, h⟩ := bd_ob h
    have hj1 : j1 < N 16 := (hwf.2.1 1 j0 54 _ e2 (by decide) hj0)
    refine me_opt (j := j1) e2 ?_
    refine lv_sipush (v := 30077) hx hb d_M_shift_68 (by decide) ?_
    refine lv_aload_n hx hb d_M_shift_71 rfl (lv_at hl 0 rfl) ?_
    refine g_M_54 hx hb hts hown hK hP hwf hj0 (hts _ u_1795) d_M_shift_72 ?_
    refine me_opt (j := j1) e2 ?_
    refine lv_sipush (v := 30075) hx hb d_M_shift_75 (by decide) ?_
    obtain ⟨g3, h⟩ := gd_ob h
    refine me_lald hx hb hK hP hwf hj1 (me_in (i := (30075 : Int32)) (k := 30075) (by decide) (by decide) g3) d_M_shift_78 ?_
    refine fg_topl (y := mL M 16 j1 30075) (congrArg _ (by decide)) ?_
    refine lv_iload_n hx hb d_M_shift_79 rfl (lv_at hl 1 rfl) ?_
    refine lv_lshl (v := jlshl (mL M 16 j1 30075) x2) hx hb d_M_shift_80 rfl ?_
    obtain ⟨g4, h⟩ := gd_ob h
    obtain ⟨M5, eM5, h⟩ := st_ob h
    refine me_last (eM5.trans (by rw [show (30077 : Int32).toNatClampNeg = 30077 by decide])) hx hb hK hP hD hwf hS hj1 (me_in (i := (30077 : Int32)) (k := 30077) (by decide) (by decide) g4) d_M_shift_81 (fun H locs hP hD hwf hS => ?_)
    have hkp := kp_L eM5 hkp
    refine lv_aload_n hx hb d_M_shift_82 rfl (lv_at hl 0 rfl) ?_
    refine g_M_55 hx hb hts hown hK hP hwf hj0 (hts _ u_1796) d_M_shift_83 ?_
    obtain ⟨j6, e7, h⟩ := bd_ob h
    have hj6 : j6 < N 16 := (hwf.2.1 1 j0 55 _ (kp_r hkb hkp e7) (by decide) hj0)
    refine me_opt (j := j6) (kp_r hkb hkp e7) ?_
    refine lv_sipush (v := 30077) hx hb d_M_shift_86 (by decide) ?_
    refine lv_aload_n hx hb d_M_shift_89 rfl (lv_at hl 0 rfl) ?_
    refine g_M_55 hx hb hts hown hK hP hwf hj0 (hts _ u_1796) d_M_shift_90 ?_
    refine me_opt (j := j6) (kp_r hkb hkp e7) ?_
    refine lv_sipush (v := 30075) hx hb d_M_shift_93 (by decide) ?_
    obtain ⟨g8, h⟩ := gd_ob h
    refine me_lald hx hb hK hP hwf hj6 (me_in (i := (30075 : Int32)) (k := 30075) (by decide) (by decide) (kp_c hkb.z hkp.z g8)) d_M_shift_96 ?_
    refine fg_topl (y := mL M5 16 j6 30075) (congrArg _ (by decide)) ?_
    refine lv_iload_n hx hb d_M_shift_97 rfl (lv_at hl 1 rfl) ?_
    refine lv_lshl (v := jlshl (mL M5 16 j6 30075) x2) hx hb d_M_shift_98 rfl ?_
    obtain ⟨g9, h⟩ := gd_ob h
    obtain ⟨M10, eM10, h⟩ := st_ob h
    refine me_last (eM10.trans (by rw [show (30077 : Int32).toNatClampNeg = 30077 by decide])) hx hb hK hP hD hwf hS hj6 (me_in (i := (30077 : Int32)) (k := 30077) (by decide) (by decide) (kp_c hkb.z hkp.z g9)) d_M_shift_99 (fun H locs hP hD hwf hS => ?_)
    have hkp := kp_L eM10 hkp
    refine lv_goto (tgt := 256) hx hb d_M_shift_100 (by decide) ?_
    exact me_retv (me_kp M0) h hx hb hr hlocks hwf hkp hP hK hD hS d_M_shift_256
  refine lv_iload_n hx hb d_M_shift_0 rfl (lv_at hl 1 rfl) ?_
  refine lv_bipush (v := 8) hx hb d_M_shift_1 (by decide) ?_
  refine lv_icmp_ne (tgt := 103) hx hb d_M_shift_3 (by decide) (fun c11 => ?_) (fun c11 => ?_)
  · have h := if_f c11 h
    refine lv_iload_n hx hb d_M_shift_103 rfl (lv_at hl 1 rfl) ?_
    refine lv_bipush (v := 9) hx hb d_M_shift_104 (by decide) ?_
    refine lv_icmp_ne (tgt := 184) hx hb d_M_shift_106 (by decide) (fun c12 => ?_) (fun c12 => ?_)
    · have h := if_f c12 h
      refine lv_aload_n hx hb d_M_shift_184 rfl (lv_at hl 0 rfl) ?_
      refine g_M_52 hx hb hts hown hK hP hwf hj0 (hts _ u_1793) d_M_shift_185 ?_
      obtain ⟨j13, e14, h⟩ := bd_ob h
      have hj13 : j13 < N 16 := (hwf.2.1 1 j0 52 _ e14 (by decide) hj0)
      refine me_opt (j := j13) e14 ?_
      refine lv_sipush (v := 30077) hx hb d_M_shift_188 (by decide) ?_
      refine lv_aload_n hx hb d_M_shift_191 rfl (lv_at hl 0 rfl) ?_
      refine g_M_52 hx hb hts hown hK hP hwf hj0 (hts _ u_1793) d_M_shift_192 ?_
      refine me_opt (j := j13) e14 ?_
      refine lv_sipush (v := 30075) hx hb d_M_shift_195 (by decide) ?_
      obtain ⟨g15, h⟩ := gd_ob h
      refine me_lald hx hb hK hP hwf hj13 (me_in (i := (30075 : Int32)) (k := 30075) (by decide) (by decide) g15) d_M_shift_198 ?_
      refine fg_topl (y := mL M0 16 j13 30075) (congrArg _ (by decide)) ?_
      refine lv_iload_n hx hb d_M_shift_199 rfl (lv_at hl 2 rfl) ?_
      refine lv_lshr (v := jlshr (mL M0 16 j13 30075) x2) hx hb d_M_shift_200 rfl ?_
      obtain ⟨g16, h⟩ := gd_ob h
      obtain ⟨M17, eM17, h⟩ := st_ob h
      refine me_last (eM17.trans (by rw [show (30077 : Int32).toNatClampNeg = 30077 by decide])) hx hb hK hP hD hwf hS hj13 (me_in (i := (30077 : Int32)) (k := 30077) (by decide) (by decide) g16) d_M_shift_201 (fun H locs hP hD hwf hS => ?_)
      have hkp := kp_L eM17 hkp
      refine lv_aload_n hx hb d_M_shift_202 rfl (lv_at hl 0 rfl) ?_
      refine g_M_53 hx hb hts hown hK hP hwf hj0 (hts _ u_1794) d_M_shift_203 ?_
      obtain ⟨j18, e19, h⟩ := bd_ob h
      have hj18 : j18 < N 16 := (hwf.2.1 1 j0 53 _ (kp_r hkb hkp e19) (by decide) hj0)
      refine me_opt (j := j18) (kp_r hkb hkp e19) ?_
      refine lv_sipush (v := 30077) hx hb d_M_shift_206 (by decide) ?_
      refine lv_aload_n hx hb d_M_shift_209 rfl (lv_at hl 0 rfl) ?_
      refine g_M_53 hx hb hts hown hK hP hwf hj0 (hts _ u_1794) d_M_shift_210 ?_
      refine me_opt (j := j18) (kp_r hkb hkp e19) ?_
      refine lv_sipush (v := 30075) hx hb d_M_shift_213 (by decide) ?_
      obtain ⟨g20, h⟩ := gd_ob h
      refine me_lald hx hb hK hP hwf hj18 (me_in (i := (30075 : Int32)) (k := 30075) (by decide) (by decide) (kp_c hkb.z hkp.z g20)) d_M_shift_216 ?_
      refine fg_topl (y := mL M17 16 j18 30075) (congrArg _ (by decide)) ?_
      refine lv_iload_n hx hb d_M_shift_217 rfl (lv_at hl 2 rfl) ?_
      refine lv_lshr (v := jlshr (mL M17 16 j18 30075) x2) hx hb d_M_shift_218 rfl ?_
      obtain ⟨g21, h⟩ := gd_ob h
      obtain ⟨M22, eM22, h⟩ := st_ob h
      refine me_last (eM22.trans (by rw [show (30077 : Int32).toNatClampNeg = 30077 by decide])) hx hb hK hP hD hwf hS hj18 (me_in (i := (30077 : Int32)) (k := 30077) (by decide) (by decide) (kp_c hkb.z hkp.z g21)) d_M_shift_219 (fun H locs hP hD hwf hS => ?_)
      have hkp := kp_L eM22 hkp
      refine lv_aload_n hx hb d_M_shift_220 rfl (lv_at hl 0 rfl) ?_
      refine g_M_56 hx hb hts hown hK hP hwf hj0 (hts _ u_1797) d_M_shift_221 ?_
      obtain ⟨j23, e24, h⟩ := bd_ob h
      have hj23 : j23 < N 16 := (hwf.2.1 1 j0 56 _ (kp_r hkb hkp e24) (by decide) hj0)
      refine me_opt (j := j23) (kp_r hkb hkp e24) ?_
      refine lv_sipush (v := 30077) hx hb d_M_shift_224 (by decide) ?_
      refine lv_aload_n hx hb d_M_shift_227 rfl (lv_at hl 0 rfl) ?_
      refine g_M_56 hx hb hts hown hK hP hwf hj0 (hts _ u_1797) d_M_shift_228 ?_
      refine me_opt (j := j23) (kp_r hkb hkp e24) ?_
      refine lv_sipush (v := 30075) hx hb d_M_shift_231 (by decide) ?_
      obtain ⟨g25, h⟩ := gd_ob h
      refine me_lald hx hb hK hP hwf hj23 (me_in (i := (30075 : Int32)) (k := 30075) (by decide) (by decide) (kp_c hkb.z hkp.z g25)) d_M_shift_234 ?_
      refine fg_topl (y := mL M22 16 j23 30075) (congrArg _ (by decide)) ?_
      refine lv_iload_n hx hb d_M_shift_235 rfl (lv_at hl 2 rfl) ?_
      refine lv_lshr (v := jlshr (mL M22 16 j23 30075) x2) hx hb d_M_shift_236 rfl ?_
      obtain ⟨g26, h⟩ := gd_ob h
      obtain ⟨M27, eM27, h⟩ := st_ob h
      refine me_last (eM27.trans (by rw [show (30077 : Int32).toNatClampNeg = 30077 by decide])) hx hb hK hP hD hwf hS hj23 (me_in (i := (30077 : Int32)) (k := 30077) (by decide) (by decide) (kp_c hkb.z hkp.z g26)) d_M_shift_237 (fun H locs hP hD hwf hS => ?_)
      have hkp := kp_L eM27 hkp
      refine lv_aload_n hx hb d_M_shift_238 rfl (lv_at hl 0 rfl) ?_
      refine g_M_57 hx hb hts hown hK hP hwf hj0 (hts _ u_1798) d_M_shift_239 ?_
      obtain ⟨j28, e29, h⟩ := bd_ob h
      have hj28 : j28 < N 16 := (hwf.2.1 1 j0 57 _ (kp_r hkb hkp e29) (by decide) hj0)
      refine me_opt (j := j28) (kp_r hkb hkp e29) ?_
      refine lv_sipush (v := 30077) hx hb d_M_shift_242 (by decide) ?_
      refine lv_aload_n hx hb d_M_shift_245 rfl (lv_at hl 0 rfl) ?_
      refine g_M_57 hx hb hts hown hK hP hwf hj0 (hts _ u_1798) d_M_shift_246 ?_
      refine me_opt (j := j28) (kp_r hkb hkp e29) ?_
      refine lv_sipush (v := 30075) hx hb d_M_shift_249 (by decide) ?_
      obtain ⟨g30, h⟩ := gd_ob h
      refine me_lald hx hb hK hP hwf hj28 (me_in (i := (30075 : Int32)) (k := 30075) (by decide) (by decide) (kp_c hkb.z hkp.z g30)) d_M_shift_252 ?_
      refine fg_topl (y := mL M27 16 j28 30075) (congrArg _ (by decide)) ?_
      refine lv_iload_n hx hb d_M_shift_253 rfl (lv_at hl 2 rfl) ?_
      refine lv_lshr (v := jlshr (mL M27 16 j28 30075) x2) hx hb d_M_shift_254 rfl ?_
      obtain ⟨g31, h⟩ := gd_ob h
      obtain ⟨M32, eM32, h⟩ := st_ob h
      refine me_last (eM32.trans (by rw [show (30077 : Int32).toNatClampNeg = 30077 by decide])) hx hb hK hP hD hwf hS hj28 (me_in (i := (30077 : Int32)) (k := 30077) (by decide) (by decide) (kp_c hkb.z hkp.z g31)) d_M_shift_255 (fun H locs hP hD hwf hS => ?_)
      have hkp := kp_L eM32 hkp
      exact me_retv (me_kp M0) h hx hb hr hlocks hwf hkp hP hK hD hS d_M_shift_256
    have h := if_t c12 h
    refine lv_aload_n hx hb d_M_shift_109 rfl (lv_at hl 0 rfl) ?_
    refine g_M_52 hx hb hts hown hK hP hwf hj0 (hts _ u_1793) d_M_shift_110 ?_
    obtain ⟨j33, e34, h⟩ := bd_ob h
    have hj33 : j33 < N 16 := (hwf.2.1 1 j0 52 _ e34 (by decide) hj0)
    refine me_opt (j := j33) e34 ?_
    refine lv_sipush (v := 30077) hx hb d_M_shift_113 (by decide) ?_
    refine lv_aload_n hx hb d_M_shift_116 rfl (lv_at hl 0 rfl) ?_
    refine g_M_52 hx hb hts hown hK hP hwf hj0 (hts _ u_1793) d_M_shift_117 ?_
    refine me_opt (j := j33) e34 ?_
    refine lv_sipush (v := 30075) hx hb d_M_shift_120 (by decide) ?_
    obtain ⟨g35, h⟩ := gd_ob h
    refine me_lald hx hb hK hP hwf hj33 (me_in (i := (30075 : Int32)) (k := 30075) (by decide) (by decide) g35) d_M_shift_123 ?_
    refine fg_topl (y := mL M0 16 j33 30075) (congrArg _ (by decide)) ?_
    refine lv_iload_n hx hb d_M_shift_124 rfl (lv_at hl 2 rfl) ?_
    refine lv_lushr (v := jlushr (mL M0 16 j33 30075) x2) hx hb d_M_shift_125 rfl ?_
    obtain ⟨g36, h⟩ := gd_ob h
    obtain ⟨M37, eM37, h⟩ := st_ob h
    refine me_last (eM37.trans (by rw [show (30077 : Int32).toNatClampNeg = 30077 by decide])) hx hb hK hP hD hwf hS hj33 (me_in (i := (30077 : Int32)) (k := 30077) (by decide) (by decide) g36) d_M_shift_126 (fun H locs hP hD hwf hS => ?_)
    have hkp := kp_L eM37 hkp
    refine lv_aload_n hx hb d_M_shift_127 rfl (lv_at hl 0 rfl) ?_
    refine g_M_53 hx hb hts hown hK hP hwf hj0 (hts _ u_1794) d_M_shift_128 ?_
    obtain ⟨j38, e39, h⟩ := bd_ob h
    have hj38 : j38 < N 16 := (hwf.2.1 1 j0 53 _ (kp_r hkb hkp e39) (by decide) hj0)
    refine me_opt (j := j38) (kp_r hkb hkp e39) ?_
    refine lv_sipush (v := 30077) hx hb d_M_shift_131 (by decide) ?_
    refine lv_aload_n hx hb d_M_shift_134 rfl (lv_at hl 0 rfl) ?_
    refine g_M_53 hx hb hts hown hK hP hwf hj0 (hts _ u_1794) d_M_shift_135 ?_
    refine me_opt (j := j38) (kp_r hkb hkp e39) ?_
    refine lv_sipush (v := 30075) hx hb d_M_shift_138 (by decide) ?_
    obtain ⟨g40, h⟩ := gd_ob h
    refine me_lald hx hb hK hP hwf hj38 (me_in (i := (30075 : Int32)) (k := 30075) (by decide) (by decide) (kp_c hkb.z hkp.z g40)) d_M_shift_141 ?_
    refine fg_topl (y := mL M37 16 j38 30075) (congrArg _ (by decide)) ?_
    refine lv_iload_n hx hb d_M_shift_142 rfl (lv_at hl 2 rfl) ?_
    refine lv_lushr (v := jlushr (mL M37 16 j38 30075) x2) hx hb d_M_shift_143 rfl ?_
    obtain ⟨g41, h⟩ := gd_ob h
    obtain ⟨M42, eM42, h⟩ := st_ob h
    refine me_last (eM42.trans (by rw [show (30077 : Int32).toNatClampNeg = 30077 by decide])) hx hb hK hP hD hwf hS hj38 (me_in (i := (30077 : Int32)) (k := 30077) (by decide) (by decide) (kp_c hkb.z hkp.z g41)) d_M_shift_144 (fun H locs hP hD hwf hS => ?_)
    have hkp := kp_L eM42 hkp
    refine lv_aload_n hx hb d_M_shift_145 rfl (lv_at hl 0 rfl) ?_
    refine g_M_54 hx hb hts hown hK hP hwf hj0 (hts _ u_1795) d_M_shift_146 ?_
    obtain ⟨j43, e44, h⟩ := bd_ob h
    have hj43 : j43 < N 16 := (hwf.2.1 1 j0 54 _ (kp_r hkb hkp e44) (by decide) hj0)
    refine me_opt (j := j43) (kp_r hkb hkp e44) ?_
    refine lv_sipush (v := 30077) hx hb d_M_shift_149 (by decide) ?_
    refine lv_aload_n hx hb d_M_shift_152 rfl (lv_at hl 0 rfl) ?_
    refine g_M_54 hx hb hts hown hK hP hwf hj0 (hts _ u_1795) d_M_shift_153 ?_
    refine me_opt (j := j43) (kp_r hkb hkp e44) ?_
    refine lv_sipush (v := 30075) hx hb d_M_shift_156 (by decide) ?_
    obtain ⟨g45, h⟩ := gd_ob h
    refine me_lald hx hb hK hP hwf hj43 (me_in (i := (30075 : Int32)) (k := 30075) (by decide) (by decide) (kp_c hkb.z hkp.z g45)) d_M_shift_159 ?_
    refine fg_topl (y := mL M42 16 j43 30075) (congrArg _ (by decide)) ?_
    refine lv_iload_n hx hb d_M_shift_160 rfl (lv_at hl 2 rfl) ?_
    refine lv_lushr (v := jlushr (mL M42 16 j43 30075) x2) hx hb d_M_shift_161 rfl ?_
    obtain ⟨g46, h⟩ := gd_ob h
    obtain ⟨M47, eM47, h⟩ := st_ob h
    refine me_last (eM47.trans (by rw [show (30077 : Int32).toNatClampNeg = 30077 by decide])) hx hb hK hP hD hwf hS hj43 (me_in (i := (30077 : Int32)) (k := 30077) (by decide) (by decide) (kp_c hkb.z hkp.z g46)) d_M_shift_162 (fun H locs hP hD hwf hS => ?_)
    have hkp := kp_L eM47 hkp
    refine lv_aload_n hx hb d_M_shift_163 rfl (lv_at hl 0 rfl) ?_
    refine g_M_55 hx hb hts hown hK hP hwf hj0 (hts _ u_1796) d_M_shift_164 ?_
    obtain ⟨j48, e49, h⟩ := bd_ob h
    have hj48 : j48 < N 16 := (hwf.2.1 1 j0 55 _ (kp_r hkb hkp e49) (by decide) hj0)
    refine me_opt (j := j48) (kp_r hkb hkp e49) ?_
    refine lv_sipush (v := 30077) hx hb d_M_shift_167 (by decide) ?_
    refine lv_aload_n hx hb d_M_shift_170 rfl (lv_at hl 0 rfl) ?_
    refine g_M_55 hx hb hts hown hK hP hwf hj0 (hts _ u_1796) d_M_shift_171 ?_
    refine me_opt (j := j48) (kp_r hkb hkp e49) ?_
    refine lv_sipush (v := 30075) hx hb d_M_shift_174 (by decide) ?_
    obtain ⟨g50, h⟩ := gd_ob h
    refine me_lald hx hb hK hP hwf hj48 (me_in (i := (30075 : Int32)) (k := 30075) (by decide) (by decide) (kp_c hkb.z hkp.z g50)) d_M_shift_177 ?_
    refine fg_topl (y := mL M47 16 j48 30075) (congrArg _ (by decide)) ?_
    refine lv_iload_n hx hb d_M_shift_178 rfl (lv_at hl 2 rfl) ?_
    refine lv_lushr (v := jlushr (mL M47 16 j48 30075) x2) hx hb d_M_shift_179 rfl ?_
    obtain ⟨g51, h⟩ := gd_ob h
    obtain ⟨M52, eM52, h⟩ := st_ob h
    refine me_last (eM52.trans (by rw [show (30077 : Int32).toNatClampNeg = 30077 by decide])) hx hb hK hP hD hwf hS hj48 (me_in (i := (30077 : Int32)) (k := 30077) (by decide) (by decide) (kp_c hkb.z hkp.z g51)) d_M_shift_180 (fun H locs hP hD hwf hS => ?_)
    have hkp := kp_L eM52 hkp
    refine lv_goto (tgt := 256) hx hb d_M_shift_181 (by decide) ?_
    exact me_retv (me_kp M0) h hx hb hr hlocks hwf hkp hP hK hD hS d_M_shift_256
  have h := if_t c11 h
  refine lv_aload_n hx hb d_M_shift_6 rfl (lv_at hl 0 rfl) ?_
  refine g_M_52 hx hb hts hown hK hP hwf hj0 (hts _ u_1793) d_M_shift_7 ?_
  obtain ⟨j53, e54, h⟩ := bd_ob h
  have hj53 : j53 < N 16 := (hwf.2.1 1 j0 52 _ e54 (by decide) hj0)
  refine me_opt (j := j53) e54 ?_
  refine lv_sipush (v := 30077) hx hb d_M_shift_10 (by decide) ?_
  refine lv_aload_n hx hb d_M_shift_13 rfl (lv_at hl 0 rfl) ?_
  refine g_M_52 hx hb hts hown hK hP hwf hj0 (hts _ u_1793) d_M_shift_14 ?_
  refine me_opt (j := j53) e54 ?_
  refine lv_sipush (v := 30075) hx hb d_M_shift_17 (by decide) ?_
  obtain ⟨g55, h⟩ := gd_ob h
  refine me_lald hx hb hK hP hwf hj53 (me_in (i := (30075 : Int32)) (k := 30075) (by decide) (by decide) g55) d_M_shift_20 ?_
  refine fg_topl (y := mL M0 16 j53 30075) (congrArg _ (by decide)) ?_
  refine lv_iload_n hx hb d_M_shift_21 rfl (lv_at hl 2 rfl) ?_
  refine lv_lshl (v := jlshl (mL M0 16 j53 30075) x2) hx hb d_M_shift_22 rfl ?_
  obtain ⟨g56, h⟩ := gd_ob h
  obtain ⟨M57, eM57, h⟩ := st_ob h
  refine me_last (eM57.trans (by rw [show (30077 : Int32).toNatClampNeg = 30077 by decide])) hx hb hK hP hD hwf hS hj53 (me_in (i := (30077 : Int32)) (k := 30077) (by decide) (by decide) g56) d_M_shift_23 (fun H locs hP hD hwf hS => ?_)
  have hkp := kp_L eM57 hkp
  refine lv_aload_n hx hb d_M_shift_24 rfl (lv_at hl 0 rfl) ?_
  refine g_M_53 hx hb hts hown hK hP hwf hj0 (hts _ u_1794) d_M_shift_25 ?_
  obtain ⟨j58, e59, h⟩ := bd_ob h
  have hj58 : j58 < N 16 := (hwf.2.1 1 j0 53 _ (kp_r hkb hkp e59) (by decide) hj0)
  refine me_opt (j := j58) (kp_r hkb hkp e59) ?_
  refine lv_sipush (v := 30077) hx hb d_M_shift_28 (by decide) ?_
  refine lv_aload_n hx hb d_M_shift_31 rfl (lv_at hl 0 rfl) ?_
  refine g_M_53 hx hb hts hown hK hP hwf hj0 (hts _ u_1794) d_M_shift_32 ?_
  refine me_opt (j := j58) (kp_r hkb hkp e59) ?_
  refine lv_sipush (v := 30075) hx hb d_M_shift_35 (by decide) ?_
  obtain ⟨g60, h⟩ := gd_ob h
  refine me_lald hx hb hK hP hwf hj58 (me_in (i := (30075 : Int32)) (k := 30075) (by decide) (by decide) (kp_c hkb.z hkp.z g60)) d_M_shift_38 ?_
  refine fg_topl (y := mL M57 16 j58 30075) (congrArg _ (by decide)) ?_
  refine lv_iload_n hx hb d_M_shift_39 rfl (lv_at hl 2 rfl) ?_
  refine lv_lshl (v := jlshl (mL M57 16 j58 30075) x2) hx hb d_M_shift_40 rfl ?_
  obtain ⟨g61, h⟩ := gd_ob h
  obtain ⟨M62, eM62, h⟩ := st_ob h
  refine me_last (eM62.trans (by rw [show (30077 : Int32).toNatClampNeg = 30077 by decide])) hx hb hK hP hD hwf hS hj58 (me_in (i := (30077 : Int32)) (k := 30077) (by decide) (by decide) (kp_c hkb.z hkp.z g61)) d_M_shift_41 (fun H locs hP hD hwf hS => ?_)
  have hkp := kp_L eM62 hkp
  refine lv_iload_n hx hb d_M_shift_42 rfl (lv_at hl 2 rfl) ?_
  refine lv_if_eq (tgt := 64) hx hb d_M_shift_43 (by decide) (fun c63 => ?_) (fun c63 => ?_)
  · have h := if_t c63 h
    exact b_64 M62 _ _ _ h hwf hkp hP hD hS (lv_sub hl [0, 2] rfl)
  have h := if_f c63 h
  refine lv_aload_n hx hb d_M_shift_46 rfl (lv_at hl 0 rfl) ?_
  refine g_M_55 hx hb hts hown hK hP hwf hj0 (hts _ u_1796) d_M_shift_47 ?_
  obtain ⟨j64, e65, h⟩ := bd_ob h
  have hj64 : j64 < N 16 := (hwf.2.1 1 j0 55 _ (kp_r hkb hkp e65) (by decide) hj0)
  refine me_opt (j := j64) (kp_r hkb hkp e65) ?_
  refine lv_sipush (v := 30075) hx hb d_M_shift_50 (by decide) ?_
  obtain ⟨g66, h⟩ := gd_ob h
  refine me_lald hx hb hK hP hwf hj64 (me_in (i := (30075 : Int32)) (k := 30075) (by decide) (by decide) (kp_c hkb.z hkp.z g66)) d_M_shift_53 ?_
  refine fg_topl (y := mL M62 16 j64 30075) (congrArg _ (by decide)) ?_
  refine lv_bipush (v := 64) hx hb d_M_shift_54 (by decide) ?_
  refine lv_iload_n hx hb d_M_shift_56 rfl (lv_at hl 2 rfl) ?_
  refine lv_isub hx hb d_M_shift_57 ?_
  refine lv_lushr (v := jlushr (mL M62 16 j64 30075) (64 - x2)) hx hb d_M_shift_58 rfl ?_
  refine lv_lconst (v := 0) hx hb d_M_shift_59 (by decide) ?_
  refine W.lcmp hx hb d_M_shift_60 ?_
  refine lv_if_ne (tgt := 256) hx hb d_M_shift_61 (by decide) (fun c67 => ?_) (fun c67 => ?_)
  · have h := if_f (fun z => c67 ((lg_cmp_eq _ _).mpr z)) h
    exact me_retv (me_kp M0) h hx hb hr hlocks hwf hkp hP hK hD hS d_M_shift_256
  have h := if_t ((lg_cmp_eq _ _).mp c67) h
  exact b_64 M62 _ _ _ h hwf hkp hP hD hS (lv_sub hl [0, 2] rfl)
