theorem d_Reckoner_swap_30 : decode prog_9_method_14_code 30 = .ok (.istore_n 3, 1) := by decide +kernel
theorem d_Reckoner_swap_31 : decode prog_9_method_14_code 31 = .ok (.aload_n 1, 1) := by decide +kernel
theorem d_Reckoner_swap_32 : decode prog_9_method_14_code 32 = .ok (.invokevirtual 45, 3) := by decide +kernel
theorem d_Reckoner_swap_35 : decode prog_9_method_14_code 35 = .ok (.ifCond .eq 21, 3) := by decide +kernel
theorem d_Reckoner_swap_56 : decode prog_9_method_14_code 56 = .ok (.iload_n 3, 1) := by decide +kernel
theorem d_Reckoner_swap_57 : decode prog_9_method_14_code 57 = .ok (.bipush 8, 2) := by decide +kernel
theorem d_Reckoner_swap_59 : decode prog_9_method_14_code 59 = .ok (.if_icmp .ge 19, 3) := by decide +kernel
theorem d_Reckoner_swap_78 : decode prog_9_method_14_code 78 = .ok (.return_, 1) := by decide +kernel
theorem d_Reckoner_swap_62 : decode prog_9_method_14_code 62 = .ok (.aload_n 0, 1) := by decide +kernel
theorem d_Reckoner_swap_63 : decode prog_9_method_14_code 63 = .ok (.getfield 21, 3) := by decide +kernel
theorem d_Reckoner_swap_66 : decode prog_9_method_14_code 66 = .ok (.lconst 0, 1) := by decide +kernel
theorem d_Reckoner_swap_67 : decode prog_9_method_14_code 67 = .ok (.lconst 1, 1) := by decide +kernel
theorem d_Reckoner_swap_68 : decode prog_9_method_14_code 68 = .ok (.bipush 8, 2) := by decide +kernel
theorem d_Reckoner_swap_70 : decode prog_9_method_14_code 70 = .ok (.iload_n 3, 1) := by decide +kernel
theorem d_Reckoner_swap_71 : decode prog_9_method_14_code 71 = .ok (.imul, 1) := by decide +kernel
theorem d_Reckoner_swap_72 : decode prog_9_method_14_code 72 = .ok (.lshl, 1) := by decide +kernel
theorem d_Reckoner_swap_73 : decode prog_9_method_14_code 73 = .ok (.lconst 1, 1) := by decide +kernel
theorem d_Reckoner_swap_74 : decode prog_9_method_14_code 74 = .ok (.lsub, 1) := by decide +kernel
theorem d_Reckoner_swap_75 : decode prog_9_method_14_code 75 = .ok (.invokevirtual 125, 3) := by decide +kernel
theorem d_Reckoner_swap_38 : decode prog_9_method_14_code 38 = .ok (.aload_n 0, 1) := by decide +kernel
theorem d_Reckoner_swap_39 : decode prog_9_method_14_code 39 = .ok (.getfield 21, 3) := by decide +kernel
theorem d_Reckoner_swap_42 : decode prog_9_method_14_code 42 = .ok (.aload_n 1, 1) := by decide +kernel
theorem d_Reckoner_swap_43 : decode prog_9_method_14_code 43 = .ok (.getfield 49, 3) := by decide +kernel
theorem d_Reckoner_swap_46 : decode prog_9_method_14_code 46 = .ok (.iload_n 3, 1) := by decide +kernel
theorem d_Reckoner_swap_47 : decode prog_9_method_14_code 47 = .ok (.invokestatic 149, 3) := by decide +kernel
theorem u_1212 : Cond.methodLink "FilterGuard$Reckoner" 149 ⟨"FilterGuard$Reckoner", "swapped", "(JI)J"⟩ ∈ fg_g := fg_in (List.mem_of_getElem? (i := 1212) (by decide +kernel)) rfl
theorem u_1214 : Cond.code ⟨"FilterGuard$Reckoner", "swapped", "(JI)J"⟩ prog_9_method_3_code 6 (some .long) ∈ fg_g := fg_in (List.mem_of_getElem? (i := 1214) (by decide +kernel)) rfl
theorem u_1213 : Cond.static ⟨"FilterGuard$Reckoner", "swapped", "(JI)J"⟩ ∈ fg_g := fg_in (List.mem_of_getElem? (i := 1213) (by decide +kernel)) rfl
theorem d_Reckoner_swap_50 : decode prog_9_method_14_code 50 = .ok (.invokevirtual 55, 3) := by decide +kernel
theorem d_Reckoner_swap_53 : decode prog_9_method_14_code 53 = .ok (.goto 25, 3) := by decide +kernel
theorem d_Reckoner_swap_0 : decode prog_9_method_14_code 0 = .ok (.aload_n 2, 1) := by decide +kernel
theorem d_Reckoner_swap_1 : decode prog_9_method_14_code 1 = .ok (.ldc2_w 105, 3) := by decide +kernel
theorem u_1206 : Cond.constantLong "FilterGuard$Reckoner" 105 2 ∈ fg_g := fg_in (List.mem_of_getElem? (i := 1206) (by decide +kernel)) rfl
theorem d_Reckoner_swap_4 : decode prog_9_method_14_code 4 = .ok (.invokevirtual 107, 3) := by decide +kernel
theorem u_1207 : Cond.methodLink "FilterGuard$Reckoner" 107 ⟨"FilterGuard$Num", "isExact", "(J)Z"⟩ ∈ fg_g := fg_in (List.mem_of_getElem? (i := 1207) (by decide +kernel)) rfl
theorem u_1210 : Cond.code ⟨"FilterGuard$Num", "isExact", "(J)Z"⟩ prog_8_method_8_code 3 (some .boolean) ∈ fg_g := fg_in (List.mem_of_getElem? (i := 1210) (by decide +kernel)) rfl
theorem u_1208 : Cond.instanceMethod ⟨"FilterGuard$Num", "isExact", "(J)Z"⟩ ∈ fg_g := fg_in (List.mem_of_getElem? (i := 1208) (by decide +kernel)) rfl
theorem u_1209 : Cond.selects "FilterGuard$Num" ⟨"FilterGuard$Num", "isExact", "(J)Z"⟩ ⟨"FilterGuard$Num", "isExact", "(J)Z"⟩ ∈ fg_g := fg_in (List.mem_of_getElem? (i := 1209) (by decide +kernel)) rfl
theorem d_Reckoner_swap_7 : decode prog_9_method_14_code 7 = .ok (.ifCond .eq 7, 3) := by decide +kernel
theorem d_Reckoner_swap_14 : decode prog_9_method_14_code 14 = .ok (.aload_n 2, 1) := by decide +kernel
theorem d_Reckoner_swap_15 : decode prog_9_method_14_code 15 = .ok (.ldc2_w 111, 3) := by decide +kernel
theorem u_1211 : Cond.constantLong "FilterGuard$Reckoner" 111 4 ∈ fg_g := fg_in (List.mem_of_getElem? (i := 1211) (by decide +kernel)) rfl
theorem d_Reckoner_swap_18 : decode prog_9_method_14_code 18 = .ok (.invokevirtual 107, 3) := by decide +kernel
theorem d_Reckoner_swap_21 : decode prog_9_method_14_code 21 = .ok (.ifCond .eq 7, 3) := by decide +kernel
theorem d_Reckoner_swap_28 : decode prog_9_method_14_code 28 = .ok (.bipush 8, 2) := by decide +kernel
theorem d_Reckoner_swap_24 : decode prog_9_method_14_code 24 = .ok (.iconst 4, 1) := by decide +kernel
theorem d_Reckoner_swap_25 : decode prog_9_method_14_code 25 = .ok (.goto 5, 3) := by decide +kernel
theorem d_Reckoner_swap_10 : decode prog_9_method_14_code 10 = .ok (.iconst 2, 1) := by decide +kernel
theorem d_Reckoner_swap_11 : decode prog_9_method_14_code 11 = .ok (.goto 19, 3) := by decide +kernel
abbrev y_Reckoner_swap : MethodName := ⟨"FilterGuard$Reckoner", "swap", "(LFilterGuard$Num;LFilterGuard$Num;)V"⟩
def f_Reckoner_swap_b30 (j0 : Nat) (j1 : Nat) (M : me_M) (s0 : Int32) : Option me_M := b2 (f_Num_isExact0 M j1) (fun (M1 : me_M) (r2 : Int32) => (if r2 = 0 then (if 8 ≤ s0 then some M1 else bd (mR M 8 j0 2) (fun (j5 : Nat) => bd (f_Num_range M1 j5 (0 : Int64) ((jlshl (1 : Int64) (8 * s0)) - 1)) (fun (M7 : me_M) => some M7))) else bd (mR M 8 j0 2) (fun (j8 : Nat) => bd (f_Reckoner_swapped (mL M1 11 j1 0) s0) (fun (r10 : Int64) => bd (f_Num_exact M1 j8 r10) (fun (M11 : me_M) => some M11)))))
def f_Reckoner_swap (M0 : me_M) (j0 : Nat) (j1 : Nat) (j2 : Nat) : Option me_M := b2 (f_Num_isExact1 M0 j2 (2 : Int64)) (fun (M12 : me_M) (r13 : Int32) => (if r13 = 0 then b2 (f_Num_isExact1 M12 j2 (4 : Int64)) (fun (M15 : me_M) (r16 : Int32) => (if r16 = 0 then f_Reckoner_swap_b30 j0 j1 M15 (8 : Int32) else f_Reckoner_swap_b30 j0 j1 M15 (4 : Int32))) else f_Reckoner_swap_b30 j0 j1 M12 (2 : Int32)))
def rm_Reckoner_swap : Room := { frames := 2, cells := 0, slots := 0, locals := 45 }
abbrev q_Reckoner_swap (D : va_G) (ad : Nat → Nat → Nat) (ca : Nat → ClassId) (N : Nat → Nat) (M0 MZ : me_M) (A : Nat → Prop) : Array Value → Jvm.State → Outcome → Jvm.State → Prop := va_Qv (fun (_ : Unit) => me_wf N MZ ∧ me_kp M0 MZ) (fg_B D A (fun _ => me_W ad ca MZ) (fun _ => [])) A
set_option maxHeartbeats 4000000 in
set_option maxRecDepth 100000 in
theorem c_Reckoner_swap (l : Launch) (D : va_G) (ad : Nat → Nat → Nat) (ca : Nat → ClassId) (N : Nat → Nat) (M0 MZ : me_M) (j0 : Nat) (j1 : Nat) (j2 : Nat) (h : f_Reckoner_swap M0 j0 j1 j2 = (some MZ)) (hwf : me_wf N M0) (hj0 : j0 < N 8) (hj1 : j1 < N 11) (hj2 : j2 < N 11) (sz : Nat) : Met l y_Reckoner_swap (fg_w y_Reckoner_swap prog_9_method_14_code 4 none) rm_Reckoner_swap (va_Pc [.ref (ad 8 j0), .ref (ad 11 j1), .ref (ad 11 j2)] (fz_P D (me_T ca) (me_W ad ca M0) sz)) (q_Reckoner_swap D ad ca N M0 MZ (va_A (me_W ad ca M0) sz)) rm_Reckoner_swap.cells rm_Reckoner_swap.slots (va_A (me_W ad ca M0) sz) := by
  refine fz_enter (fun A => q_Reckoner_swap D ad ca N M0 MZ A) (by decide +kernel) (Nat.le_of_ble_eq_true rfl) ?_
  intro p e s m below meth c ls A hx hb hml hown hts hr hlocks hin hP hK hD hS hA hX hl hz
  have hl : lv_has ls 4 [(0, .ref (ad 8 j0)), (1, .ref (ad 11 j1)), (2, .ref (ad 11 j2))] := hl
  unfold f_Reckoner_swap at h
  have hkp : me_kp M0 M0 := me_kp.rf
  have hkb := hkp
  have b_30 : ∀ (M : me_M) (s0 : Int32) (H : Heap) (locs : List Loc) (ls : Array Slot), f_Reckoner_swap_b30 j0 j1 M s0 = (some MZ) → me_wf N M → me_kp M0 M → va_P D classes (me_W ad ca M) H → va_D A (me_W ad ca M) → va_S A s.heap H locs → lv_has ls 4 [(0, .ref (ad 8 j0)), (1, .ref (ad 11 j1))] → W p l e rm_Reckoner_swap s m [.ref (ad 8 j0), .ref (ad 11 j1), .ref (ad 11 j2)].toArray below meth c H locs 0 0 (MQ below (q_Reckoner_swap D ad ca N M0 MZ A) [.ref (ad 8 j0), .ref (ad 11 j1), .ref (ad 11 j2)].toArray s rm_Reckoner_swap.cells rm_Reckoner_swap.slots A) (F0 m 30 ls [.int s0]) := by
    intro M s0 H locs ls h hwf hkp hP hD hS hl
    unfold f_Reckoner_swap_b30 at h
    have hkb := hkp
    refine lv_istore_n (lv' := [(3, .int s0), (0, .ref (ad 8 j0)), (1, .ref (ad 11 j1))]) hx hb d_Reckoner_swap_30 rfl hl (by decide) rfl (fun ls hl => ?_)
    refine lv_aload_n hx hb d_Reckoner_swap_31 rfl (lv_at hl 2 rfl) ?_
    obtain ⟨M1, r2, eM1, h⟩ := b2_ob h
    refine me_theni0 (M1 := M1) (me_runV (C := "FilterGuard$Num") (As := []) (rest := []) ⟨hx, hb, hml, hown, hts⟩ (c_Num_isExact0 l D ad ca N M M1 r2 j1 eM1 hwf hj1 _) rfl (by show fg_nm y_Num_isExact0 0; decide +kernel) u_1157 u_1158 u_1159 u_187 u_1160 ⟨Nat.le_of_ble_eq_true rfl, Nat.le_of_ble_eq_true rfl⟩ hX hz hK hP hD hwf hS hA hj1 (by decide) rfl rfl rfl hl.1 (Nat.le_of_ble_eq_true rfl) d_Reckoner_swap_32 ⟨Nat.le_of_ble_eq_true rfl, Nat.le_of_ble_eq_true rfl⟩) hP hD hK hS hA rfl rfl (fun H locs hw hP hD hS => ?_)
    obtain ⟨hwf, hk9, zr2⟩ := hw
    have hkp := hkp.tr hk9
    refine lv_if_eq (tgt := 56) hx hb d_Reckoner_swap_35 (by decide) (fun c3 => ?_) (fun c3 => ?_)
    · have h := if_t c3 h
      refine lv_iload_n hx hb d_Reckoner_swap_56 rfl (lv_at hl 0 rfl) ?_
      refine lv_bipush (v := 8) hx hb d_Reckoner_swap_57 (by decide) ?_
      refine lv_icmp_ge (tgt := 78) hx hb d_Reckoner_swap_59 (by decide) (fun c4 => ?_) (fun c4 => ?_)
      · have h := if_t c4 h
        exact me_retv (me_kp M0) h hx hb hr hlocks hwf hkp hP hK hD hS d_Reckoner_swap_78
      have h := if_f c4 h
      refine lv_aload_n hx hb d_Reckoner_swap_62 rfl (lv_at hl 1 rfl) ?_
      refine g_Reckoner_2 hx hb hts hown hK hP hwf hj0 (hts _ u_398) d_Reckoner_swap_63 ?_
      obtain ⟨j5, e6, h⟩ := bd_ob h
      have hj5 : j5 < N 11 := (hwf.2.1 8 j0 2 _ (kp_r hkb hkp e6) (by decide) hj0)
      refine me_opt (j := j5) (kp_r hkb hkp e6) ?_
      refine lv_lconst (v := 0) hx hb d_Reckoner_swap_66 (by decide) ?_
      refine lv_lconst (v := 1) hx hb d_Reckoner_swap_67 (by decide) ?_
      refine lv_bipush (v := 8) hx hb d_Reckoner_swap_68 (by decide) ?_
      refine lv_iload_n hx hb d_Reckoner_swap_70 rfl (lv_at hl 0 rfl) ?_
      refine lv_imul hx hb d_Reckoner_swap_71 ?_
      refine lv_lshl (v := jlshl (1 : Int64) (8 * s0)) hx hb d_Reckoner_swap_72 rfl ?_
      refine lv_lconst (v := 1) hx hb d_Reckoner_swap_73 (by decide) ?_
      refine lv_lsub hx hb d_Reckoner_swap_74 ?_
      obtain ⟨M7, eM7, h⟩ := bd_ob h
      refine me_thenv0 (M1 := M7) (me_runV (C := "FilterGuard$Num") (As := [.long 0, .long ((jlshl (1 : Int64) (8 * s0)) - 1)]) (rest := []) ⟨hx, hb, hml, hown, hts⟩ (c_Num_range l D ad ca N M1 M7 j5 (0 : Int64) ((jlshl (1 : Int64) (8 * s0)) - 1) eM7 hwf hj5 _) rfl (by show fg_nm y_Num_range 2; decide +kernel) u_1145 u_1146 u_1147 u_187 u_1148 ⟨Nat.le_of_ble_eq_true rfl, Nat.le_of_ble_eq_true rfl⟩ hX hz hK hP hD hwf hS hA hj5 (by decide) rfl rfl rfl hl.1 (Nat.le_of_ble_eq_true rfl) d_Reckoner_swap_75 ⟨Nat.le_of_ble_eq_true rfl, Nat.le_of_ble_eq_true rfl⟩) hP hD hK hS hA rfl rfl (fun H locs hw hP hD hS => ?_)
      obtain ⟨hwf, hk9⟩ := hw
      have hkp := hkp.tr hk9
      exact me_retv (me_kp M0) h hx hb hr hlocks hwf hkp hP hK hD hS d_Reckoner_swap_78
    have h := if_f c3 h
    refine lv_aload_n hx hb d_Reckoner_swap_38 rfl (lv_at hl 1 rfl) ?_
    refine g_Reckoner_2 hx hb hts hown hK hP hwf hj0 (hts _ u_398) d_Reckoner_swap_39 ?_
    obtain ⟨j8, e9, h⟩ := bd_ob h
    have hj8 : j8 < N 11 := (hwf.2.1 8 j0 2 _ (kp_r hkb hkp e9) (by decide) hj0)
    refine me_opt (j := j8) (kp_r hkb hkp e9) ?_
    refine lv_aload_n hx hb d_Reckoner_swap_42 rfl (lv_at hl 2 rfl) ?_
    refine g_Num_0 hx hb hts hown hK hP hwf hj1 (hts _ u_368) d_Reckoner_swap_43 ?_
    refine lv_iload_n hx hb d_Reckoner_swap_46 rfl (lv_at hl 0 rfl) ?_
    obtain ⟨r10, er10, h⟩ := bd_ob h
    refine me_panl' (r0 := r10) (fg_runS (wc := []) (tc := []) (A2 := A) (As := [.long (mL M1 11 j1 0), .int s0]) (rest := [.ref (ad 11 j8)]) ⟨hx, hb, hml, hown, hts⟩ (c_Reckoner_swapped l D r10 (mL M1 11 j1 0) s0 er10 _) (by show fg_nm y_Reckoner_swapped 2; decide +kernel) u_1212 u_1213 u_186 u_1214 ⟨Nat.le_of_ble_eq_true rfl, Nat.le_of_ble_eq_true rfl⟩ hX me_P0 (hK.sub (tys' := []) [] rfl) me_D0 rfl hl.1 (Nat.le_of_ble_eq_true rfl) d_Reckoner_swap_47 ⟨Nat.le_of_ble_eq_true rfl, Nat.le_of_ble_eq_true rfl⟩) hP hD hK hS hA rfl rfl (fun H locs hw hP hD hS => ?_)
    obtain ⟨M11, eM11, h⟩ := bd_ob h
    refine me_thenv0 (M1 := M11) (me_runV (C := "FilterGuard$Num") (As := [.long r10]) (rest := []) ⟨hx, hb, hml, hown, hts⟩ (c_Num_exact l D ad ca N M1 M11 j8 r10 eM11 hwf hj8 _) rfl (by show fg_nm y_Num_exact 1; decide +kernel) u_1161 u_1037 u_1038 u_187 u_1039 ⟨Nat.le_of_ble_eq_true rfl, Nat.le_of_ble_eq_true rfl⟩ hX hz hK hP hD hwf hS hA hj8 (by decide) rfl rfl rfl hl.1 (Nat.le_of_ble_eq_true rfl) d_Reckoner_swap_50 ⟨Nat.le_of_ble_eq_true rfl, Nat.le_of_ble_eq_true rfl⟩) hP hD hK hS hA rfl rfl (fun H locs hw hP hD hS => ?_)
    obtain ⟨hwf, hk9⟩ := hw
    have hkp := hkp.tr hk9
    refine lv_goto (tgt := 78) hx hb d_Reckoner_swap_53 (by decide) ?_
    exact me_retv (me_kp M0) h hx hb hr hlocks hwf hkp hP hK hD hS d_Reckoner_swap_78
  refine lv_aload_n hx hb d_Reckoner_swap_0 rfl (lv_at hl 2 rfl) ?_
  refine lv_ldc2 hx hb hown (hts _ u_1206) d_Reckoner_swap_1 ?_
  obtain ⟨M12, r13, eM12, h⟩ := b2_ob h
  refine me_theni0 (M1 := M12) (me_runV (C := "FilterGuard$Num") (As := [.long 2]) (rest := []) ⟨hx, hb, hml, hown, hts⟩ (c_Num_isExact1 l D ad ca N M0 M12 r13 j2 (2 : Int64) eM12 hwf hj2 _) rfl (by show fg_nm y_Num_isExact1 1; decide +kernel) u_1207 u_1208 u_1209 u_187 u_1210 ⟨Nat.le_of_ble_eq_true rfl, Nat.le_of_ble_eq_true rfl⟩ hX hz hK hP hD hwf hS hA hj2 (by decide) rfl rfl rfl hl.1 (Nat.le_of_ble_eq_true rfl) d_Reckoner_swap_4 ⟨Nat.le_of_ble_eq_true rfl, Nat.le_of_ble_eq_true rfl⟩) hP hD hK hS hA rfl rfl (fun H locs hw hP hD hS => ?_)
  obtain ⟨hwf, hk9, zr13⟩ := hw
  have hkp := hkp.tr hk9
  refine lv_if_eq (tgt := 14) hx hb d_Reckoner_swap_7 (by decide) (fun c14 => ?_) (fun c14 => ?_)
  · have h := if_t c14 h
    refine lv_aload_n hx hb d_Reckoner_swap_14 rfl (lv_at hl 2 rfl) ?_
    refine lv_ldc2 hx hb hown (hts _ u_1211) d_Reckoner_swap_15 ?_
    obtain ⟨M15, r16, eM15, h⟩ := b2_ob h
    refine me_theni0 (M1 := M15) (me_runV (C := "FilterGuard$Num") (As := [.long 4]) (rest := []) ⟨hx, hb, hml, hown, hts⟩ (c_Num_isExact1 l D ad ca N M12 M15 r16 j2 (4 : Int64) eM15 hwf hj2 _) rfl (by show fg_nm y_Num_isExact1 1; decide +kernel) u_1207 u_1208 u_1209 u_187 u_1210 ⟨Nat.le_of_ble_eq_true rfl, Nat.le_of_ble_eq_true rfl⟩ hX hz hK hP hD hwf hS hA hj2 (by decide) rfl rfl rfl hl.1 (Nat.le_of_ble_eq_true rfl) d_Reckoner_swap_18 ⟨Nat.le_of_ble_eq_true rfl, Nat.le_of_ble_eq_true rfl⟩) hP hD hK hS hA rfl rfl (fun H locs hw hP hD hS => ?_)
    obtain ⟨hwf, hk9, zr16⟩ := hw
    have hkp := hkp.tr hk9
    refine lv_if_eq (tgt := 28) hx hb d_Reckoner_swap_21 (by decide) (fun c17 => ?_) (fun c17 => ?_)
    · have h := if_t c17 h
      refine lv_bipush (v := 8) hx hb d_Reckoner_swap_28 (by decide) ?_
      exact b_30 M15 (8 : Int32) _ _ _ h hwf hkp hP hD hS (lv_sub hl [0, 1] rfl)
    have h := if_f c17 h
    refine lv_iconst (v := 4) hx hb d_Reckoner_swap_24 (by decide) ?_
    refine lv_goto (tgt := 30) hx hb d_Reckoner_swap_25 (by decide) ?_
    exact b_30 M15 (4 : Int32) _ _ _ h hwf hkp hP hD hS (lv_sub hl [0, 1] rfl)
  have h := if_f c14 h
  refine lv_iconst (v := 2) hx hb d_Reckoner_swap_10 (by decide) ?_
  refine lv_goto (tgt := 30) hx hb d_Reckoner_swap_11 (by decide) ?_
  exact b_30 M12 (2 : Int32) _ _ _ h hwf hkp hP hD hS (lv_sub hl [0, 1] rfl)
theorem d_Reckoner_shift_0 : decode prog_9_method_13_code 0 = .ok (.aload_n 3, 1) := by decide +kernel
theorem d_Reckoner_shift_1 : decode prog_9_method_13_code 1 = .ok (.invokevirtual 45, 3) := by decide +kernel
theorem d_Reckoner_shift_4 : decode prog_9_method_13_code 4 = .ok (.ifCond .ne 4, 3) := by decide +kernel
theorem d_Reckoner_shift_8 : decode prog_9_method_13_code 8 = .ok (.aload_n 3, 1) := by decide +kernel
theorem d_Reckoner_shift_9 : decode prog_9_method_13_code 9 = .ok (.getfield 49, 3) := by decide +kernel
theorem d_Reckoner_shift_12 : decode prog_9_method_13_code 12 = .ok (.l2i, 1) := by decide +kernel
theorem d_Reckoner_shift_13 : decode prog_9_method_13_code 13 = .ok (.bipush 63, 2) := by decide +kernel
theorem d_Reckoner_shift_15 : decode prog_9_method_13_code 15 = .ok (.iand, 1) := by decide +kernel
theorem d_Reckoner_shift_16 : decode prog_9_method_13_code 16 = .ok (.istore 4, 2) := by decide +kernel
theorem d_Reckoner_shift_18 : decode prog_9_method_13_code 18 = .ok (.iload_n 1, 1) := by decide +kernel
theorem d_Reckoner_shift_19 : decode prog_9_method_13_code 19 = .ok (.bipush 8, 2) := by decide +kernel
theorem d_Reckoner_shift_21 : decode prog_9_method_13_code 21 = .ok (.if_icmp .ne 66, 3) := by decide +kernel
theorem d_Reckoner_shift_87 : decode prog_9_method_13_code 87 = .ok (.iload_n 1, 1) := by decide +kernel
theorem d_Reckoner_shift_88 : decode prog_9_method_13_code 88 = .ok (.bipush 9, 2) := by decide +kernel
theorem d_Reckoner_shift_90 : decode prog_9_method_13_code 90 = .ok (.if_icmp .ne 48, 3) := by decide +kernel
theorem d_Reckoner_shift_138 : decode prog_9_method_13_code 138 = .ok (.aload_n 0, 1) := by decide +kernel
theorem d_Reckoner_shift_139 : decode prog_9_method_13_code 139 = .ok (.getfield 21, 3) := by decide +kernel
theorem d_Reckoner_shift_142 : decode prog_9_method_13_code 142 = .ok (.aload_n 2, 1) := by decide +kernel
theorem d_Reckoner_shift_143 : decode prog_9_method_13_code 143 = .ok (.getfield 49, 3) := by decide +kernel
theorem d_Reckoner_shift_146 : decode prog_9_method_13_code 146 = .ok (.iload 4, 2) := by decide +kernel
theorem d_Reckoner_shift_148 : decode prog_9_method_13_code 148 = .ok (.lshr, 1) := by decide +kernel
theorem d_Reckoner_shift_149 : decode prog_9_method_13_code 149 = .ok (.aload_n 2, 1) := by decide +kernel
theorem d_Reckoner_shift_150 : decode prog_9_method_13_code 150 = .ok (.getfield 87, 3) := by decide +kernel
theorem d_Reckoner_shift_153 : decode prog_9_method_13_code 153 = .ok (.iload 4, 2) := by decide +kernel
theorem d_Reckoner_shift_155 : decode prog_9_method_13_code 155 = .ok (.lshr, 1) := by decide +kernel
theorem d_Reckoner_shift_156 : decode prog_9_method_13_code 156 = .ok (.invokevirtual 92, 3) := by decide +kernel
theorem d_Reckoner_shift_159 : decode prog_9_method_13_code 159 = .ok (.aload_n 0, 1) := by decide +kernel
theorem d_Reckoner_shift_160 : decode prog_9_method_13_code 160 = .ok (.getfield 21, 3) := by decide +kernel
theorem d_Reckoner_shift_163 : decode prog_9_method_13_code 163 = .ok (.aload_n 2, 1) := by decide +kernel
theorem d_Reckoner_shift_164 : decode prog_9_method_13_code 164 = .ok (.getfield 128, 3) := by decide +kernel
theorem d_Reckoner_shift_167 : decode prog_9_method_13_code 167 = .ok (.iload 4, 2) := by decide +kernel
theorem d_Reckoner_shift_169 : decode prog_9_method_13_code 169 = .ok (.lshr, 1) := by decide +kernel
theorem d_Reckoner_shift_170 : decode prog_9_method_13_code 170 = .ok (.putfield 128, 3) := by decide +kernel
theorem d_Reckoner_shift_173 : decode prog_9_method_13_code 173 = .ok (.aload_n 0, 1) := by decide +kernel
theorem d_Reckoner_shift_174 : decode prog_9_method_13_code 174 = .ok (.getfield 21, 3) := by decide +kernel
theorem d_Reckoner_shift_177 : decode prog_9_method_13_code 177 = .ok (.aload_n 2, 1) := by decide +kernel
theorem d_Reckoner_shift_178 : decode prog_9_method_13_code 178 = .ok (.getfield 131, 3) := by decide +kernel
theorem d_Reckoner_shift_181 : decode prog_9_method_13_code 181 = .ok (.iload 4, 2) := by decide +kernel
theorem d_Reckoner_shift_183 : decode prog_9_method_13_code 183 = .ok (.lshr, 1) := by decide +kernel
theorem d_Reckoner_shift_184 : decode prog_9_method_13_code 184 = .ok (.putfield 131, 3) := by decide +kernel
theorem d_Reckoner_shift_187 : decode prog_9_method_13_code 187 = .ok (.return_, 1) := by decide +kernel
theorem d_Reckoner_shift_93 : decode prog_9_method_13_code 93 = .ok (.aload_n 0, 1) := by decide +kernel
theorem d_Reckoner_shift_94 : decode prog_9_method_13_code 94 = .ok (.getfield 21, 3) := by decide +kernel
theorem d_Reckoner_shift_97 : decode prog_9_method_13_code 97 = .ok (.aload_n 2, 1) := by decide +kernel
theorem d_Reckoner_shift_98 : decode prog_9_method_13_code 98 = .ok (.getfield 49, 3) := by decide +kernel
theorem d_Reckoner_shift_101 : decode prog_9_method_13_code 101 = .ok (.iload 4, 2) := by decide +kernel
theorem d_Reckoner_shift_103 : decode prog_9_method_13_code 103 = .ok (.lushr, 1) := by decide +kernel
theorem d_Reckoner_shift_104 : decode prog_9_method_13_code 104 = .ok (.aload_n 2, 1) := by decide +kernel
theorem d_Reckoner_shift_105 : decode prog_9_method_13_code 105 = .ok (.getfield 87, 3) := by decide +kernel
theorem d_Reckoner_shift_108 : decode prog_9_method_13_code 108 = .ok (.iload 4, 2) := by decide +kernel
theorem d_Reckoner_shift_110 : decode prog_9_method_13_code 110 = .ok (.lushr, 1) := by decide +kernel
theorem d_Reckoner_shift_111 : decode prog_9_method_13_code 111 = .ok (.invokevirtual 92, 3) := by decide +kernel
theorem d_Reckoner_shift_114 : decode prog_9_method_13_code 114 = .ok (.aload_n 0, 1) := by decide +kernel
theorem d_Reckoner_shift_115 : decode prog_9_method_13_code 115 = .ok (.getfield 21, 3) := by decide +kernel
theorem d_Reckoner_shift_118 : decode prog_9_method_13_code 118 = .ok (.aload_n 2, 1) := by decide +kernel
theorem d_Reckoner_shift_119 : decode prog_9_method_13_code 119 = .ok (.getfield 96, 3) := by decide +kernel
theorem d_Reckoner_shift_122 : decode prog_9_method_13_code 122 = .ok (.iload 4, 2) := by decide +kernel
theorem d_Reckoner_shift_124 : decode prog_9_method_13_code 124 = .ok (.lushr, 1) := by decide +kernel
theorem d_Reckoner_shift_125 : decode prog_9_method_13_code 125 = .ok (.aload_n 2, 1) := by decide +kernel
theorem d_Reckoner_shift_126 : decode prog_9_method_13_code 126 = .ok (.getfield 122, 3) := by decide +kernel
theorem d_Reckoner_shift_129 : decode prog_9_method_13_code 129 = .ok (.iload 4, 2) := by decide +kernel
theorem d_Reckoner_shift_131 : decode prog_9_method_13_code 131 = .ok (.lushr, 1) := by decide +kernel
theorem d_Reckoner_shift_132 : decode prog_9_method_13_code 132 = .ok (.invokevirtual 125, 3) := by decide +kernel
theorem d_Reckoner_shift_135 : decode prog_9_method_13_code 135 = .ok (.goto 52, 3) := by decide +kernel
theorem d_Reckoner_shift_24 : decode prog_9_method_13_code 24 = .ok (.aload_n 0, 1) := by decide +kernel
theorem d_Reckoner_shift_25 : decode prog_9_method_13_code 25 = .ok (.getfield 21, 3) := by decide +kernel
theorem d_Reckoner_shift_28 : decode prog_9_method_13_code 28 = .ok (.aload_n 2, 1) := by decide +kernel
theorem d_Reckoner_shift_29 : decode prog_9_method_13_code 29 = .ok (.getfield 49, 3) := by decide +kernel
theorem d_Reckoner_shift_32 : decode prog_9_method_13_code 32 = .ok (.iload 4, 2) := by decide +kernel
theorem d_Reckoner_shift_34 : decode prog_9_method_13_code 34 = .ok (.lshl, 1) := by decide +kernel
theorem d_Reckoner_shift_35 : decode prog_9_method_13_code 35 = .ok (.aload_n 2, 1) := by decide +kernel
theorem d_Reckoner_shift_36 : decode prog_9_method_13_code 36 = .ok (.getfield 87, 3) := by decide +kernel
theorem d_Reckoner_shift_39 : decode prog_9_method_13_code 39 = .ok (.iload 4, 2) := by decide +kernel
theorem d_Reckoner_shift_41 : decode prog_9_method_13_code 41 = .ok (.lshl, 1) := by decide +kernel
theorem d_Reckoner_shift_42 : decode prog_9_method_13_code 42 = .ok (.invokevirtual 92, 3) := by decide +kernel
theorem d_Reckoner_shift_45 : decode prog_9_method_13_code 45 = .ok (.aload_n 2, 1) := by decide +kernel
theorem d_Reckoner_shift_46 : decode prog_9_method_13_code 46 = .ok (.getfield 122, 3) := by decide +kernel
theorem d_Reckoner_shift_49 : decode prog_9_method_13_code 49 = .ok (.iload 4, 2) := by decide +kernel
theorem d_Reckoner_shift_51 : decode prog_9_method_13_code 51 = .ok (.lshl, 1) := by decide +kernel
theorem d_Reckoner_shift_52 : decode prog_9_method_13_code 52 = .ok (.iload 4, 2) := by decide +kernel
theorem d_Reckoner_shift_54 : decode prog_9_method_13_code 54 = .ok (.lushr, 1) := by decide +kernel
theorem d_Reckoner_shift_55 : decode prog_9_method_13_code 55 = .ok (.aload_n 2, 1) := by decide +kernel
theorem d_Reckoner_shift_56 : decode prog_9_method_13_code 56 = .ok (.getfield 122, 3) := by decide +kernel
theorem d_Reckoner_shift_59 : decode prog_9_method_13_code 59 = .ok (.lcmp, 1) := by decide +kernel
theorem d_Reckoner_shift_60 : decode prog_9_method_13_code 60 = .ok (.ifCond .ne 127, 3) := by decide +kernel
theorem d_Reckoner_shift_63 : decode prog_9_method_13_code 63 = .ok (.aload_n 0, 1) := by decide +kernel
theorem d_Reckoner_shift_64 : decode prog_9_method_13_code 64 = .ok (.getfield 21, 3) := by decide +kernel
theorem d_Reckoner_shift_67 : decode prog_9_method_13_code 67 = .ok (.aload_n 2, 1) := by decide +kernel
theorem d_Reckoner_shift_68 : decode prog_9_method_13_code 68 = .ok (.getfield 96, 3) := by decide +kernel
theorem d_Reckoner_shift_71 : decode prog_9_method_13_code 71 = .ok (.iload 4, 2) := by decide +kernel
theorem d_Reckoner_shift_73 : decode prog_9_method_13_code 73 = .ok (.lshl, 1) := by decide +kernel
theorem d_Reckoner_shift_74 : decode prog_9_method_13_code 74 = .ok (.aload_n 2, 1) := by decide +kernel
theorem d_Reckoner_shift_75 : decode prog_9_method_13_code 75 = .ok (.getfield 122, 3) := by decide +kernel
theorem d_Reckoner_shift_78 : decode prog_9_method_13_code 78 = .ok (.iload 4, 2) := by decide +kernel
theorem d_Reckoner_shift_80 : decode prog_9_method_13_code 80 = .ok (.lshl, 1) := by decide +kernel
theorem d_Reckoner_shift_81 : decode prog_9_method_13_code 81 = .ok (.invokevirtual 125, 3) := by decide +kernel
theorem d_Reckoner_shift_84 : decode prog_9_method_13_code 84 = .ok (.goto 103, 3) := by decide +kernel
theorem d_Reckoner_shift_7 : decode prog_9_method_13_code 7 = .ok (.return_, 1) := by decide +kernel
abbrev y_Reckoner_shift : MethodName := ⟨"FilterGuard$Reckoner", "shift", "(ILFilterGuard$Num;LFilterGuard$Num;)V"⟩
def f_Reckoner_shift (M0 : me_M) (j0 : Nat) (x1 : Int32) (j2 : Nat) (j3 : Nat) : Option me_M := b2 (f_Num_isExact0 M0 j3) (fun (M1 : me_M) (r2 : Int32) => (if r2 = 0 then some M1 else st (((mL M1 11 j3 0).toInt32) &&& 63) (fun (v4 : Int32) => (if x1 = 8 then bd (mR M0 8 j0 2) (fun (j16 : Nat) => bd (f_Num_bits M1 j16 (jlshl (mL M1 11 j2 0) v4) (jlshl (mL M1 11 j2 1) v4)) (fun (M18 : me_M) => (if (jlushr (jlshl (mL M18 11 j2 3) v4) v4) = (mL M18 11 j2 3) then bd (f_Num_range M18 j16 (jlshl (mL M18 11 j2 2) v4) (jlshl (mL M18 11 j2 3) v4)) (fun (M20 : me_M) => some M20) else some M18))) else (if x1 = 9 then bd (mR M0 8 j0 2) (fun (j12 : Nat) => bd (f_Num_bits M1 j12 (jlushr (mL M1 11 j2 0) v4) (jlushr (mL M1 11 j2 1) v4)) (fun (M14 : me_M) => bd (f_Num_range M14 j12 (jlushr (mL M14 11 j2 2) v4) (jlushr (mL M14 11 j2 3) v4)) (fun (M15 : me_M) => some M15))) else bd (mR M0 8 j0 2) (fun (j7 : Nat) => bd (f_Num_bits M1 j7 (jlshr (mL M1 11 j2 0) v4) (jlshr (mL M1 11 j2 1) v4)) (fun (M9 : me_M) => st (wL M9 11 j7 4 (jlshr (mL M9 11 j2 4) v4)) (fun (M10 : me_M) => st (wL M10 11 j7 5 (jlshr (mL M10 11 j2 5) v4)) (fun (M11 : me_M) => some M11)))))))))
def rm_Reckoner_shift : Room := { frames := 2, cells := 0, slots := 0, locals := 44 }
abbrev q_Reckoner_shift (D : va_G) (ad : Nat → Nat → Nat) (ca : Nat → ClassId) (N : Nat → Nat) (M0 MZ : me_M) (A : Nat → Prop) : Array Value → Jvm.State → Outcome → Jvm.State → Prop := va_Qv (fun (_ : Unit) => me_wf N MZ ∧ me_kp M0 MZ) (fg_B D A (fun _ => me_W ad ca MZ) (fun _ => [])) A
set_option maxHeartbeats 4000000 in
set_option maxRecDepth 100000 in
theorem c_Reckoner_shift (l : Launch) (D : va_G) (ad : Nat → Nat → Nat) (ca : Nat → ClassId) (N : Nat → Nat) (M0 MZ : me_M) (j0 : Nat) (x1 : Int32) (j2 : Nat) (j3 : Nat) (h : f_Reckoner_shift M0 j0 x1 j2 j3 = (some MZ)) (hwf : me_wf N M0) (hj0 : j0 < N 8) (hj2 : j2 < N 11) (hj3 : j3 < N 11) (sz : Nat) : Met l y_Reckoner_shift (fg_w y_Reckoner_shift prog_9_method_13_code 5 none) rm_Reckoner_shift (va_Pc [.ref (ad 8 j0), .int x1, .ref (ad 11 j2), .ref (ad 11 j3)] (fz_P D (me_T ca) (me_W ad ca M0) sz)) (q_Reckoner_shift D ad ca N M0 MZ (va_A (me_W ad ca M0) sz)) rm_Reckoner_shift.cells rm_Reckoner_shift.slots (va_A (me_W ad ca M0) sz) := by
  refine fz_enter (fun A => q_Reckoner_shift D ad ca N M0 MZ A) (by decide +kernel) (Nat.le_of_ble_eq_true rfl) ?_
  intro p e s m below meth c ls A hx hb hml hown hts hr hlocks hin hP hK hD hS hA hX hl hz
  have hl : lv_has ls 5 [(0, .ref (ad 8 j0)), (1, .int x1), (2, .ref (ad 11 j2)), (3, .ref (ad 11 j3))] := hl
  unfold f_Reckoner_shift at h
  have hkp : me_kp M0 M0 := me_kp.rf
  have hkb := hkp
  refine lv_aload_n hx hb d_Reckoner_shift_0 rfl (lv_at hl 3 rfl) ?_
  obtain ⟨M1, r2, eM1, h⟩ := b2_ob h
  refine me_theni0 (M1 := M1) (me_runV (C := "FilterGuard$Num") (As := []) (rest := []) ⟨hx, hb, hml, hown, hts⟩ (c_Num_isExact0 l D ad ca N M0 M1 r2 j3 eM1 hwf hj3 _) rfl (by show fg_nm y_Num_isExact0 0; decide +kernel) u_1157 u_1158 u_1159 u_187 u_1160 ⟨Nat.le_of_ble_eq_true rfl, Nat.le_of_ble_eq_true rfl⟩ hX hz hK hP hD hwf hS hA hj3 (by decide) rfl rfl rfl hl.1 (Nat.le_of_ble_eq_true rfl) d_Reckoner_shift_1 ⟨Nat.le_of_ble_eq_true rfl, Nat.le_of_ble_eq_true rfl⟩) hP hD hK hS hA rfl rfl (fun H locs hw hP hD hS => ?_)
  obtain ⟨hwf, hk9, zr2⟩ := hw
  have hkp := hkp.tr hk9
  refine lv_if_ne (tgt := 8) hx hb d_Reckoner_shift_4 (by decide) (fun c3 => ?_) (fun c3 => ?_)
  · have h := if_f c3 h
    refine lv_aload_n hx hb d_Reckoner_shift_8 rfl (lv_at hl 3 rfl) ?_
    refine g_Num_0 hx hb hts hown hK hP hwf hj3 (hts _ u_368) d_Reckoner_shift_9 ?_
    refine lv_l2i (v := (mL M1 11 j3 0).toInt32) hx hb d_Reckoner_shift_12 rfl ?_
    refine lv_bipush (v := 63) hx hb d_Reckoner_shift_13 (by decide) ?_
    refine lv_iand hx hb d_Reckoner_shift_15 ?_
    obtain ⟨v4, ev4, h⟩ := st_ob h
    refine fg_topi (y := v4) ev4.symm ?_
    refine lv_istore (lv' := [(4, .int v4), (0, .ref (ad 8 j0)), (1, .int x1), (2, .ref (ad 11 j2)), (3, .ref (ad 11 j3))]) hx hb d_Reckoner_shift_16 hl (by decide) rfl (fun ls hl => ?_)
    refine lv_iload_n hx hb d_Reckoner_shift_18 rfl (lv_at hl 2 rfl) ?_
    refine lv_bipush (v := 8) hx hb d_Reckoner_shift_19 (by decide) ?_
    refine lv_icmp_ne (tgt := 87) hx hb d_Reckoner_shift_21 (by decide) (fun c5 => ?_) (fun c5 => ?_)
    · have h := if_f c5 h
      refine lv_iload_n hx hb d_Reckoner_shift_87 rfl (lv_at hl 2 rfl) ?_
      refine lv_bipush (v := 9) hx hb d_Reckoner_shift_88 (by decide) ?_
      refine lv_icmp_ne (tgt := 138) hx hb d_Reckoner_shift_90 (by decide) (fun c6 => ?_) (fun c6 => ?_)
      · have h := if_f c6 h
        refine lv_aload_n hx hb d_Reckoner_shift_138 rfl (lv_at hl 1 rfl) ?_
        refine g_Reckoner_2 hx hb hts hown hK hP hwf hj0 (hts _ u_398) d_Reckoner_shift_139 ?_
        obtain ⟨j7, e8, h⟩ := bd_ob h
        have hj7 : j7 < N 11 := (hwf.2.1 8 j0 2 _ (kp_r hkb hkp e8) (by decide) hj0)
        refine me_opt (j := j7) (kp_r hkb hkp e8) ?_
        refine lv_aload_n hx hb d_Reckoner_shift_142 rfl (lv_at hl 3 rfl) ?_
        refine g_Num_0 hx hb hts hown hK hP hwf hj2 (hts _ u_368) d_Reckoner_shift_143 ?_
        refine lv_iload hx hb d_Reckoner_shift_146 (lv_at hl 0 rfl) ?_
        refine lv_lshr (v := jlshr (mL M1 11 j2 0) v4) hx hb d_Reckoner_shift_148 rfl ?_
        refine lv_aload_n hx hb d_Reckoner_shift_149 rfl (lv_at hl 3 rfl) ?_
        refine g_Num_1 hx hb hts hown hK hP hwf hj2 (hts _ u_372) d_Reckoner_shift_150 ?_
        refine lv_iload hx hb d_Reckoner_shift_153 (lv_at hl 0 rfl) ?_
        refine lv_lshr (v := jlshr (mL M1 11 j2 1) v4) hx hb d_Reckoner_shift_155 rfl ?_
        obtain ⟨M9, eM9, h⟩ := bd_ob h
        refine me_thenv0 (M1 := M9) (me_runV (C := "FilterGuard$Num") (As := [.long (jlshr (mL M1 11 j2 0) v4), .long (jlshr (mL M1 11 j2 1) v4)]) (rest := []) ⟨hx, hb, hml, hown, hts⟩ (c_Num_bits l D ad ca N M1 M9 j7 (jlshr (mL M1 11 j2 0) v4) (jlshr (mL M1 11 j2 1) v4) eM9 hwf hj7 _) rfl (by show fg_nm y_Num_bits 2; decide +kernel) u_1140 u_1141 u_1142 u_187 u_1143 ⟨Nat.le_of_ble_eq_true rfl, Nat.le_of_ble_eq_true rfl⟩ hX hz hK hP hD hwf hS hA hj7 (by decide) rfl rfl rfl hl.1 (Nat.le_of_ble_eq_true rfl) d_Reckoner_shift_156 ⟨Nat.le_of_ble_eq_true rfl, Nat.le_of_ble_eq_true rfl⟩) hP hD hK hS hA rfl rfl (fun H locs hw hP hD hS => ?_)
        obtain ⟨hwf, hk9⟩ := hw
        have hkp := hkp.tr hk9
        refine lv_aload_n hx hb d_Reckoner_shift_159 rfl (lv_at hl 1 rfl) ?_
        refine g_Reckoner_2 hx hb hts hown hK hP hwf hj0 (hts _ u_398) d_Reckoner_shift_160 ?_
        refine me_opt (j := j7) (kp_r hkb hkp e8) ?_
        refine lv_aload_n hx hb d_Reckoner_shift_163 rfl (lv_at hl 3 rfl) ?_
        refine g_Num_4 hx hb hts hown hK hP hwf hj2 (hts _ u_380) d_Reckoner_shift_164 ?_
        refine lv_iload hx hb d_Reckoner_shift_167 (lv_at hl 0 rfl) ?_
        refine lv_lshr (v := jlshr (mL M9 11 j2 4) v4) hx hb d_Reckoner_shift_169 rfl ?_
        obtain ⟨M10, eM10, h⟩ := st_ob h
        refine p_Num_4 eM10 hx hb hts hown hK hP hD hwf hS hj7 (hts _ u_380) d_Reckoner_shift_170 (fun H locs hP hD hwf hS => ?_)
        have hkp := kp_L eM10 hkp
        refine lv_aload_n hx hb d_Reckoner_shift_173 rfl (lv_at hl 1 rfl) ?_
        refine g_Reckoner_2 hx hb hts hown hK hP hwf hj0 (hts _ u_398) d_Reckoner_shift_174 ?_
        refine me_opt (j := j7) (kp_r hkb hkp e8) ?_
        refine lv_aload_n hx hb d_Reckoner_shift_177 rfl (lv_at hl 3 rfl) ?_
        refine g_Num_5 hx hb hts hown hK hP hwf hj2 (hts _ u_382) d_Reckoner_shift_178 ?_
        refine lv_iload hx hb d_Reckoner_shift_181 (lv_at hl 0 rfl) ?_
        refine lv_lshr (v := jlshr (mL M10 11 j2 5) v4) hx hb d_Reckoner_shift_183 rfl ?_
        obtain ⟨M11, eM11, h⟩ := st_ob h
        refine p_Num_5 eM11 hx hb hts hown hK hP hD hwf hS hj7 (hts _ u_382) d_Reckoner_shift_184 (fun H locs hP hD hwf hS => ?_)
        have hkp := kp_L eM11 hkp
        exact me_retv (me_kp M0) h hx hb hr hlocks hwf hkp hP hK hD hS d_Reckoner_shift_187
      have h := if_t c6 h
      refine lv_aload_n hx hb d_Reckoner_shift_93 rfl (lv_at hl 1 rfl) ?_
      refine g_Reckoner_2 hx hb hts hown hK hP hwf hj0 (hts _ u_398) d_Reckoner_shift_94 ?_
      obtain ⟨j12, e13, h⟩ := bd_ob h
      have hj12 : j12 < N 11 := (hwf.2.1 8 j0 2 _ (kp_r hkb hkp e13) (by decide) hj0)
      refine me_opt (j := j12) (kp_r hkb hkp e13) ?_
      refine lv_aload_n hx hb d_Reckoner_shift_97 rfl (lv_at hl 3 rfl) ?_
      refine g_Num_0 hx hb hts hown hK hP hwf hj2 (hts _ u_368) d_Reckoner_shift_98 ?_
      refine lv_iload hx hb d_Reckoner_shift_101 (lv_at hl 0 rfl) ?_
      refine lv_lushr (v := jlushr (mL M1 11 j2 0) v4) hx hb d_Reckoner_shift_103 rfl ?_
      refine lv_aload_n hx hb d_Reckoner_shift_104 rfl (lv_at hl 3 rfl) ?_
      refine g_Num_1 hx hb hts hown hK hP hwf hj2 (hts _ u_372) d_Reckoner_shift_105 ?_
      refine lv_iload hx hb d_Reckoner_shift_108 (lv_at hl 0 rfl) ?_
      refine lv_lushr (v := jlushr (mL M1 11 j2 1) v4) hx hb d_Reckoner_shift_110 rfl ?_
      obtain ⟨M14, eM14, h⟩ := bd_ob h
      refine me_thenv0 (M1 := M14) (me_runV (C := "FilterGuard$Num") (As := [.long (jlushr (mL M1 11 j2 0) v4), .long (jlushr (mL M1 11 j2 1) v4)]) (rest := []) ⟨hx, hb, hml, hown, hts⟩ (c_Num_bits l D ad ca N M1 M14 j12 (jlushr (mL M1 11 j2 0) v4) (jlushr (mL M1 11 j2 1) v4) eM14 hwf hj12 _) rfl (by show fg_nm y_Num_bits 2; decide +kernel) u_1140 u_1141 u_1142 u_187 u_1143 ⟨Nat.le_of_ble_eq_true rfl, Nat.le_of_ble_eq_true rfl⟩ hX hz hK hP hD hwf hS hA hj12 (by decide) rfl rfl rfl hl.1 (Nat.le_of_ble_eq_true rfl) d_Reckoner_shift_111 ⟨Nat.le_of_ble_eq_true rfl, Nat.le_of_ble_eq_true rfl⟩) hP hD hK hS hA rfl rfl (fun H locs hw hP hD hS => ?_)
      obtain ⟨hwf, hk9⟩ := hw
      have hkp := hkp.tr hk9
      refine lv_aload_n hx hb d_Reckoner_shift_114 rfl (lv_at hl 1 rfl) ?_
      refine g_Reckoner_2 hx hb hts hown hK hP hwf hj0 (hts _ u_398) d_Reckoner_shift_115 ?_
      refine me_opt (j := j12) (kp_r hkb hkp e13) ?_
      refine lv_aload_n hx hb d_Reckoner_shift_118 rfl (lv_at hl 3 rfl) ?_
      refine g_Num_2 hx hb hts hown hK hP hwf hj2 (hts _ u_374) d_Reckoner_shift_119 ?_
      refine lv_iload hx hb d_Reckoner_shift_122 (lv_at hl 0 rfl) ?_
      refine lv_lushr (v := jlushr (mL M14 11 j2 2) v4) hx hb d_Reckoner_shift_124 rfl ?_
      refine lv_aload_n hx hb d_Reckoner_shift_125 rfl (lv_at hl 3 rfl) ?_
      refine g_Num_3 hx hb hts hown hK hP hwf hj2 (hts _ u_377) d_Reckoner_shift_126 ?_
      refine lv_iload hx hb d_Reckoner_shift_129 (lv_at hl 0 rfl) ?_
      refine lv_lushr (v := jlushr (mL M14 11 j2 3) v4) hx hb d_Reckoner_shift_131 rfl ?_
      obtain ⟨M15, eM15, h⟩ := bd_ob h
      refine me_thenv0 (M1 := M15) (me_runV (C := "FilterGuard$Num") (As := [.long (jlushr (mL M14 11 j2 2) v4), .long (jlushr (mL M14 11 j2 3) v4)]) (rest := []) ⟨hx, hb, hml, hown, hts⟩ (c_Num_range l D ad ca N M14 M15 j12 (jlushr (mL M14 11 j2 2) v4) (jlushr (mL M14 11 j2 3) v4) eM15 hwf hj12 _) rfl (by show fg_nm y_Num_range 2; decide +kernel) u_1145 u_1146 u_1147 u_187 u_1148 ⟨Nat.le_of_ble_eq_true rfl, Nat.le_of_ble_eq_true rfl⟩ hX hz hK hP hD hwf hS hA hj12 (by decide) rfl rfl rfl hl.1 (Nat.le_of_ble_eq_true rfl) d_Reckoner_shift_132 ⟨Nat.le_of_ble_eq_true rfl, Nat.le_of_ble_eq_true rfl⟩) hP hD hK hS hA rfl rfl (fun H locs hw hP hD hS => ?_)
      obtain ⟨hwf, hk9⟩ := hw
      have hkp := hkp.tr hk9
      refine lv_goto (tgt := 187) hx hb d_Reckoner_shift_135 (by decide) ?_
      exact me_retv (me_kp M0) h hx hb hr hlocks hwf hkp hP hK hD hS d_Reckoner_shift_187
    have h := if_t c5 h
    refine lv_aload_n hx hb d_Reckoner_shift_24 rfl (lv_at hl 1 rfl) ?_
    refine g_Reckoner_2 hx hb hts hown hK hP hwf hj0 (hts _ u_398) d_Reckoner_shift_25 ?_
    obtain ⟨j16, e17, h⟩ := bd_ob h
    have hj16 : j16 < N 11 := (hwf.2.1 8 j0 2 _ (kp_r hkb hkp e17) (by decide) hj0)
    refine me_opt (j := j16) (kp_r hkb hkp e17) ?_
    refine lv_aload_n hx hb d_Reckoner_shift_28 rfl (lv_at hl 3 rfl) ?_
    refine g_Num_0 hx hb hts hown hK hP hwf hj2 (hts _ u_368) d_Reckoner_shift_29 ?_
    refine lv_iload hx hb d_Reckoner_shift_32 (lv_at hl 0 rfl) ?_
    refine lv_lshl (v := jlshl (mL M1 11 j2 0) v4) hx hb d_Reckoner_shift_34 rfl ?_
    refine lv_aload_n hx hb d_Reckoner_shift_35 rfl (lv_at hl 3 rfl) ?_
    refine g_Num_1 hx hb hts hown hK hP hwf hj2 (hts _ u_372) d_Reckoner_shift_36 ?_
    refine lv_iload hx hb d_Reckoner_shift_39 (lv_at hl 0 rfl) ?_
    refine lv_lshl (v := jlshl (mL M1 11 j2 1) v4) hx hb d_Reckoner_shift_41 rfl ?_
    obtain ⟨M18, eM18, h⟩ := bd_ob h
    refine me_thenv0 (M1 := M18) (me_runV (C := "FilterGuard$Num") (As := [.long (jlshl (mL M1 11 j2 0) v4), .long (jlshl (mL M1 11 j2 1) v4)]) (rest := []) ⟨hx, hb, hml, hown, hts⟩ (c_Num_bits l D ad ca N M1 M18 j16 (jlshl (mL M1 11 j2 0) v4) (jlshl (mL M1 11 j2 1) v4) eM18 hwf hj16 _) rfl (by show fg_nm y_Num_bits 2; decide +kernel) u_1140 u_1141 u_1142 u_187 u_1143 ⟨Nat.le_of_ble_eq_true rfl, Nat.le_of_ble_eq_true rfl⟩ hX hz hK hP hD hwf hS hA hj16 (by decide) rfl rfl rfl hl.1 (Nat.le_of_ble_eq_true rfl) d_Reckoner_shift_42 ⟨Nat.le_of_ble_eq_true rfl, Nat.le_of_ble_eq_true rfl⟩) hP hD hK hS hA rfl rfl (fun H locs hw hP hD hS => ?_)
    obtain ⟨hwf, hk9⟩ := hw
    have hkp := hkp.tr hk9
    refine lv_aload_n hx hb d_Reckoner_shift_45 rfl (lv_at hl 3 rfl) ?_
    refine g_Num_3 hx hb hts hown hK hP hwf hj2 (hts _ u_377) d_Reckoner_shift_46 ?_
    refine lv_iload hx hb d_Reckoner_shift_49 (lv_at hl 0 rfl) ?_
    refine lv_lshl (v := jlshl (mL M18 11 j2 3) v4) hx hb d_Reckoner_shift_51 rfl ?_
    refine lv_iload hx hb d_Reckoner_shift_52 (lv_at hl 0 rfl) ?_
    refine lv_lushr (v := jlushr (jlshl (mL M18 11 j2 3) v4) v4) hx hb d_Reckoner_shift_54 rfl ?_
    refine lv_aload_n hx hb d_Reckoner_shift_55 rfl (lv_at hl 3 rfl) ?_
    refine g_Num_3 hx hb hts hown hK hP hwf hj2 (hts _ u_377) d_Reckoner_shift_56 ?_
    refine W.lcmp hx hb d_Reckoner_shift_59 ?_
    refine lv_if_ne (tgt := 187) hx hb d_Reckoner_shift_60 (by decide) (fun c19 => ?_) (fun c19 => ?_)
    · have h := if_f (fun z => c19 ((lg_cmp_eq _ _).mpr z)) h
      exact me_retv (me_kp M0) h hx hb hr hlocks hwf hkp hP hK hD hS d_Reckoner_shift_187
    have h := if_t ((lg_cmp_eq _ _).mp c19) h
    refine lv_aload_n hx hb d_Reckoner_shift_63 rfl (lv_at hl 1 rfl) ?_
    refine g_Reckoner_2 hx hb hts hown hK hP hwf hj0 (hts _ u_398) d_Reckoner_shift_64 ?_
    refine me_opt (j := j16) (kp_r hkb hkp e17) ?_
    refine lv_aload_n hx hb d_Reckoner_shift_67 rfl (lv_at hl 3 rfl) ?_
    refine g_Num_2 hx hb hts hown hK hP hwf hj2 (hts _ u_374) d_Reckoner_shift_68 ?_
    refine lv_iload hx hb d_Reckoner_shift_71 (lv_at hl 0 rfl) ?_
    refine lv_lshl (v := jlshl (mL M18 11 j2 2) v4) hx hb d_Reckoner_shift_73 rfl ?_
    refine lv_aload_n hx hb d_Reckoner_shift_74 rfl (lv_at hl 3 rfl) ?_
    refine g_Num_3 hx hb hts hown hK hP hwf hj2 (hts _ u_377) d_Reckoner_shift_75 ?_
    refine lv_iload hx hb d_Reckoner_shift_78 (lv_at hl 0 rfl) ?_
    refine lv_lshl (v := jlshl (mL M18 11 j2 3) v4) hx hb d_Reckoner_shift_80 rfl ?_
    obtain ⟨M20, eM20, h⟩ := bd_ob h
    refine me_thenv0 (M1 := M20) (me_runV (C := "FilterGuard$Num") (As := [.long (jlshl (mL M18 11 j2 2) v4), .long (jlshl (mL M18 11 j2 3) v4)]) (rest := []) ⟨hx, hb, hml, hown, hts⟩ (c_Num_range l D ad ca N M18 M20 j16 (jlshl (mL M18 11 j2 2) v4) (jlshl (mL M18 11 j2 3) v4) eM20 hwf hj16 _) rfl (by show fg_nm y_Num_range 2; decide +kernel) u_1145 u_1146 u_1147 u_187 u_1148 ⟨Nat.le_of_ble_eq_true rfl, Nat.le_of_ble_eq_true rfl⟩ hX hz hK hP hD hwf hS hA hj16 (by decide) rfl rfl rfl hl.1 (Nat.le_of_ble_eq_true rfl) d_Reckoner_shift_81 ⟨Nat.le_of_ble_eq_true rfl, Nat.le_of_ble_eq_true rfl⟩) hP hD hK hS hA rfl rfl (fun H locs hw hP hD hS => ?_)
    obtain ⟨hwf, hk9⟩ := hw
    have hkp := hkp.tr hk9
    refine lv_goto (tgt := 187) hx hb d_Reckoner_shift_84 (by decide) ?_
    exact me_retv (me_kp M0) h hx hb hr hlocks hwf hkp hP hK hD hS d_Reckoner_shift_187
  have h := if_t c3 h
  exact me_retv (me_kp M0) h hx hb hr hlocks hwf hkp hP hK hD hS d_Reckoner_shift_7
theorem d_Num_downFromHighest_0 : decode prog_8_method_13_code 0 = .ok (.lload_n 0, 1) := by decide +kernel
theorem d_Num_downFromHighest_1 : decode prog_8_method_13_code 1 = .ok (.lload_n 0, 1) := by decide +kernel
theorem d_Num_downFromHighest_2 : decode prog_8_method_13_code 2 = .ok (.iconst 1, 1) := by decide +kernel
theorem d_Num_downFromHighest_3 : decode prog_8_method_13_code 3 = .ok (.lushr, 1) := by decide +kernel
theorem d_Num_downFromHighest_4 : decode prog_8_method_13_code 4 = .ok (.lor, 1) := by decide +kernel
theorem d_Num_downFromHighest_5 : decode prog_8_method_13_code 5 = .ok (.lstore_n 2, 1) := by decide +kernel
theorem d_Num_downFromHighest_6 : decode prog_8_method_13_code 6 = .ok (.lload_n 2, 1) := by decide +kernel
theorem d_Num_downFromHighest_7 : decode prog_8_method_13_code 7 = .ok (.lload_n 2, 1) := by decide +kernel
theorem d_Num_downFromHighest_8 : decode prog_8_method_13_code 8 = .ok (.iconst 2, 1) := by decide +kernel
theorem d_Num_downFromHighest_9 : decode prog_8_method_13_code 9 = .ok (.lushr, 1) := by decide +kernel
theorem d_Num_downFromHighest_10 : decode prog_8_method_13_code 10 = .ok (.lor, 1) := by decide +kernel
theorem d_Num_downFromHighest_11 : decode prog_8_method_13_code 11 = .ok (.lstore_n 2, 1) := by decide +kernel
theorem d_Num_downFromHighest_12 : decode prog_8_method_13_code 12 = .ok (.lload_n 2, 1) := by decide +kernel
theorem d_Num_downFromHighest_13 : decode prog_8_method_13_code 13 = .ok (.lload_n 2, 1) := by decide +kernel
theorem d_Num_downFromHighest_14 : decode prog_8_method_13_code 14 = .ok (.iconst 4, 1) := by decide +kernel
theorem d_Num_downFromHighest_15 : decode prog_8_method_13_code 15 = .ok (.lushr, 1) := by decide +kernel
theorem d_Num_downFromHighest_16 : decode prog_8_method_13_code 16 = .ok (.lor, 1) := by decide +kernel
theorem d_Num_downFromHighest_17 : decode prog_8_method_13_code 17 = .ok (.lstore_n 2, 1) := by decide +kernel
theorem d_Num_downFromHighest_18 : decode prog_8_method_13_code 18 = .ok (.lload_n 2, 1) := by decide +kernel
theorem d_Num_downFromHighest_19 : decode prog_8_method_13_code 19 = .ok (.lload_n 2, 1) := by decide +kernel
theorem d_Num_downFromHighest_20 : decode prog_8_method_13_code 20 = .ok (.bipush 8, 2) := by decide +kernel
theorem d_Num_downFromHighest_22 : decode prog_8_method_13_code 22 = .ok (.lushr, 1) := by decide +kernel
theorem d_Num_downFromHighest_23 : decode prog_8_method_13_code 23 = .ok (.lor, 1) := by decide +kernel
theorem d_Num_downFromHighest_24 : decode prog_8_method_13_code 24 = .ok (.lstore_n 2, 1) := by decide +kernel
theorem d_Num_downFromHighest_25 : decode prog_8_method_13_code 25 = .ok (.lload_n 2, 1) := by decide +kernel
theorem d_Num_downFromHighest_26 : decode prog_8_method_13_code 26 = .ok (.lload_n 2, 1) := by decide +kernel
theorem d_Num_downFromHighest_27 : decode prog_8_method_13_code 27 = .ok (.bipush 16, 2) := by decide +kernel
theorem d_Num_downFromHighest_29 : decode prog_8_method_13_code 29 = .ok (.lushr, 1) := by decide +kernel
theorem d_Num_downFromHighest_30 : decode prog_8_method_13_code 30 = .ok (.lor, 1) := by decide +kernel
theorem d_Num_downFromHighest_31 : decode prog_8_method_13_code 31 = .ok (.lstore_n 2, 1) := by decide +kernel
theorem d_Num_downFromHighest_32 : decode prog_8_method_13_code 32 = .ok (.lload_n 2, 1) := by decide +kernel
theorem d_Num_downFromHighest_33 : decode prog_8_method_13_code 33 = .ok (.lload_n 2, 1) := by decide +kernel
theorem d_Num_downFromHighest_34 : decode prog_8_method_13_code 34 = .ok (.bipush 32, 2) := by decide +kernel
theorem d_Num_downFromHighest_36 : decode prog_8_method_13_code 36 = .ok (.lushr, 1) := by decide +kernel
theorem d_Num_downFromHighest_37 : decode prog_8_method_13_code 37 = .ok (.lor, 1) := by decide +kernel
theorem d_Num_downFromHighest_38 : decode prog_8_method_13_code 38 = .ok (.lreturn, 1) := by decide +kernel
abbrev y_Num_downFromHighest : MethodName := ⟨"FilterGuard$Num", "downFromHighest", "(J)J"⟩
def f_Num_downFromHighest (x0 : Int64) : Option Int64 := st (x0 ||| (jlushr x0 (1 : Int32))) (fun (v1 : Int64) => st (v1 ||| (jlushr v1 (2 : Int32))) (fun (v2 : Int64) => st (v2 ||| (jlushr v2 (4 : Int32))) (fun (v3 : Int64) => st (v3 ||| (jlushr v3 (8 : Int32))) (fun (v4 : Int64) => st (v4 ||| (jlushr v4 (16 : Int32))) (fun (v5 : Int64) => some (v5 ||| (jlushr v5 (32 : Int32))))))))
def rm_Num_downFromHighest : Room := { frames := 1, cells := 0, slots := 0, locals := 20 }
abbrev q_Num_downFromHighest (D : va_G) (RZ : Int64) (A : Nat → Prop) : Array Value → Jvm.State → Outcome → Jvm.State → Prop := va_Ql (fun r (_ : Unit) => r = RZ ∧ True) (fg_B D A (fun _ => []) (fun _ => [])) A
set_option maxHeartbeats 4000000 in
set_option maxRecDepth 100000 in
theorem c_Num_downFromHighest (l : Launch) (D : va_G) (RZ : Int64) (x0 : Int64) (h : f_Num_downFromHighest x0 = (some RZ)) (sz : Nat) : Met l y_Num_downFromHighest (fg_w y_Num_downFromHighest prog_8_method_13_code 4 (some .long)) rm_Num_downFromHighest (va_Pc [.long x0] (fg_P D [] [] sz)) (q_Num_downFromHighest D RZ (va_A [] sz)) rm_Num_downFromHighest.cells rm_Num_downFromHighest.slots (va_A [] sz) := by
  refine fg_enter (fun A => q_Num_downFromHighest D RZ A) (by decide +kernel) (Nat.le_of_ble_eq_true rfl) ?_
  intro p e s m below meth c ls A hx hb hml hown hts hr hlocks hin hP hK hD hS hA hX hl
  have hl : lv_has ls 4 [(0, .long x0)] := hl
  unfold f_Num_downFromHighest at h
  refine lv_lload_n hx hb d_Num_downFromHighest_0 rfl (lv_at hl 0 rfl) ?_
  refine lv_lload_n hx hb d_Num_downFromHighest_1 rfl (lv_at hl 0 rfl) ?_
  refine lv_iconst (v := 1) hx hb d_Num_downFromHighest_2 (by decide) ?_
  refine lv_lushr (v := jlushr x0 (1 : Int32)) hx hb d_Num_downFromHighest_3 rfl ?_
  refine lv_lor hx hb d_Num_downFromHighest_4 ?_
  obtain ⟨v1, ev1, h⟩ := st_ob h
  refine fg_topl (y := v1) ev1.symm ?_
  refine lv_lstore_n (lv' := [(2, .long v1), (0, .long x0)]) hx hb d_Num_downFromHighest_5 rfl hl (by decide) rfl (fun ls hl => ?_)
  refine lv_lload_n hx hb d_Num_downFromHighest_6 rfl (lv_at hl 0 rfl) ?_
  refine lv_lload_n hx hb d_Num_downFromHighest_7 rfl (lv_at hl 0 rfl) ?_
  refine lv_iconst (v := 2) hx hb d_Num_downFromHighest_8 (by decide) ?_
  refine lv_lushr (v := jlushr v1 (2 : Int32)) hx hb d_Num_downFromHighest_9 rfl ?_
  refine lv_lor hx hb d_Num_downFromHighest_10 ?_
  obtain ⟨v2, ev2, h⟩ := st_ob h
  refine fg_topl (y := v2) ev2.symm ?_
  refine lv_lstore_n (lv' := [(2, .long v2), (0, .long x0)]) hx hb d_Num_downFromHighest_11 rfl hl (by decide) rfl (fun ls hl => ?_)
  refine lv_lload_n hx hb d_Num_downFromHighest_12 rfl (lv_at hl 0 rfl) ?_
  refine lv_lload_n hx hb d_Num_downFromHighest_13 rfl (lv_at hl 0 rfl) ?_
  refine lv_iconst (v := 4) hx hb d_Num_downFromHighest_14 (by decide) ?_
  refine lv_lushr (v := jlushr v2 (4 : Int32)) hx hb d_Num_downFromHighest_15 rfl ?_
  refine lv_lor hx hb d_Num_downFromHighest_16 ?_
  obtain ⟨v3, ev3, h⟩ := st_ob h
  refine fg_topl (y := v3) ev3.symm ?_
  refine lv_lstore_n (lv' := [(2, .long v3), (0, .long x0)]) hx hb d_Num_downFromHighest_17 rfl hl (by decide) rfl (fun ls hl => ?_)
  refine lv_lload_n hx hb d_Num_downFromHighest_18 rfl (lv_at hl 0 rfl) ?_
  refine lv_lload_n hx hb d_Num_downFromHighest_19 rfl (lv_at hl 0 rfl) ?_
  refine lv_bipush (v := 8) hx hb d_Num_downFromHighest_20 (by decide) ?_
  refine lv_lushr (v := jlushr v3 (8 : Int32)) hx hb d_Num_downFromHighest_22 rfl ?_
  refine lv_lor hx hb d_Num_downFromHighest_23 ?_
  obtain ⟨v4, ev4, h⟩ := st_ob h
  refine fg_topl (y := v4) ev4.symm ?_
  refine lv_lstore_n (lv' := [(2, .long v4), (0, .long x0)]) hx hb d_Num_downFromHighest_24 rfl hl (by decide) rfl (fun ls hl => ?_)
  refine lv_lload_n hx hb d_Num_downFromHighest_25 rfl (lv_at hl 0 rfl) ?_
  refine lv_lload_n hx hb d_Num_downFromHighest_26 rfl (lv_at hl 0 rfl) ?_
  refine lv_bipush (v := 16) hx hb d_Num_downFromHighest_27 (by decide) ?_
  refine lv_lushr (v := jlushr v4 (16 : Int32)) hx hb d_Num_downFromHighest_29 rfl ?_
  refine lv_lor hx hb d_Num_downFromHighest_30 ?_
  obtain ⟨v5, ev5, h⟩ := st_ob h
  refine fg_topl (y := v5) ev5.symm ?_
  refine lv_lstore_n (lv' := [(2, .long v5), (0, .long x0)]) hx hb d_Num_downFromHighest_31 rfl hl (by decide) rfl (fun ls hl => ?_)
  refine lv_lload_n hx hb d_Num_downFromHighest_32 rfl (lv_at hl 0 rfl) ?_
  refine lv_lload_n hx hb d_Num_downFromHighest_33 rfl (lv_at hl 0 rfl) ?_
  refine lv_bipush (v := 32) hx hb d_Num_downFromHighest_34 (by decide) ?_
  refine lv_lushr (v := jlushr v5 (32 : Int32)) hx hb d_Num_downFromHighest_36 rfl ?_
  refine lv_lor hx hb d_Num_downFromHighest_37 ?_
  exact me_pretl h hx hb hr hlocks hK hS d_Num_downFromHighest_38
theorem d_Num_settle_102 : decode prog_8_method_12_code 102 = .ok (.aload_n 0, 1) := by decide +kernel
theorem d_Num_settle_103 : decode prog_8_method_12_code 103 = .ok (.getfield 21, 3) := by decide +kernel
theorem d_Num_settle_106 : decode prog_8_method_12_code 106 = .ok (.aload_n 0, 1) := by decide +kernel
theorem d_Num_settle_107 : decode prog_8_method_12_code 107 = .ok (.getfield 18, 3) := by decide +kernel
theorem d_Num_settle_110 : decode prog_8_method_12_code 110 = .ok (.invokestatic 36, 3) := by decide +kernel
theorem d_Num_settle_113 : decode prog_8_method_12_code 113 = .ok (.ifCond .ne 15, 3) := by decide +kernel
theorem d_Num_settle_128 : decode prog_8_method_12_code 128 = .ok (.iconst 0, 1) := by decide +kernel
theorem d_Num_settle_129 : decode prog_8_method_12_code 129 = .ok (.ireturn, 1) := by decide +kernel
theorem d_Num_settle_116 : decode prog_8_method_12_code 116 = .ok (.aload_n 0, 1) := by decide +kernel
theorem d_Num_settle_117 : decode prog_8_method_12_code 117 = .ok (.getfield 24, 3) := by decide +kernel
theorem d_Num_settle_120 : decode prog_8_method_12_code 120 = .ok (.aload_n 0, 1) := by decide +kernel
theorem d_Num_settle_121 : decode prog_8_method_12_code 121 = .ok (.getfield 27, 3) := by decide +kernel
theorem d_Num_settle_124 : decode prog_8_method_12_code 124 = .ok (.lcmp, 1) := by decide +kernel
theorem d_Num_settle_125 : decode prog_8_method_12_code 125 = .ok (.ifCond .le 5, 3) := by decide +kernel
theorem d_Num_settle_130 : decode prog_8_method_12_code 130 = .ok (.aload_n 0, 1) := by decide +kernel
theorem d_Num_settle_131 : decode prog_8_method_12_code 131 = .ok (.getfield 18, 3) := by decide +kernel
theorem d_Num_settle_134 : decode prog_8_method_12_code 134 = .ok (.aload_n 0, 1) := by decide +kernel
theorem d_Num_settle_135 : decode prog_8_method_12_code 135 = .ok (.getfield 21, 3) := by decide +kernel
theorem d_Num_settle_138 : decode prog_8_method_12_code 138 = .ok (.lxor, 1) := by decide +kernel
theorem d_Num_settle_139 : decode prog_8_method_12_code 139 = .ok (.invokestatic 56, 3) := by decide +kernel
theorem u_1233 : Cond.methodLink "FilterGuard$Num" 56 ⟨"FilterGuard$Num", "downFromHighest", "(J)J"⟩ ∈ fg_g := fg_in (List.mem_of_getElem? (i := 1233) (by decide +kernel)) rfl
theorem u_1235 : Cond.code ⟨"FilterGuard$Num", "downFromHighest", "(J)J"⟩ prog_8_method_13_code 4 (some .long) ∈ fg_g := fg_in (List.mem_of_getElem? (i := 1235) (by decide +kernel)) rfl
theorem u_1234 : Cond.static ⟨"FilterGuard$Num", "downFromHighest", "(J)J"⟩ ∈ fg_g := fg_in (List.mem_of_getElem? (i := 1234) (by decide +kernel)) rfl
theorem d_Num_settle_142 : decode prog_8_method_12_code 142 = .ok (.lstore_n 2, 1) := by decide +kernel
theorem d_Num_settle_143 : decode prog_8_method_12_code 143 = .ok (.aload_n 0, 1) := by decide +kernel
theorem d_Num_settle_144 : decode prog_8_method_12_code 144 = .ok (.getfield 9, 3) := by decide +kernel
theorem d_Num_settle_147 : decode prog_8_method_12_code 147 = .ok (.aload_n 0, 1) := by decide +kernel
theorem d_Num_settle_148 : decode prog_8_method_12_code 148 = .ok (.getfield 18, 3) := by decide +kernel
theorem d_Num_settle_151 : decode prog_8_method_12_code 151 = .ok (.lxor, 1) := by decide +kernel
theorem d_Num_settle_152 : decode prog_8_method_12_code 152 = .ok (.aload_n 0, 1) := by decide +kernel
theorem d_Num_settle_153 : decode prog_8_method_12_code 153 = .ok (.getfield 15, 3) := by decide +kernel
theorem d_Num_settle_156 : decode prog_8_method_12_code 156 = .ok (.ldc2_w 30, 3) := by decide +kernel
theorem d_Num_settle_159 : decode prog_8_method_12_code 159 = .ok (.lxor, 1) := by decide +kernel
theorem d_Num_settle_160 : decode prog_8_method_12_code 160 = .ok (.land, 1) := by decide +kernel
theorem d_Num_settle_161 : decode prog_8_method_12_code 161 = .ok (.lload_n 2, 1) := by decide +kernel
theorem d_Num_settle_162 : decode prog_8_method_12_code 162 = .ok (.ldc2_w 30, 3) := by decide +kernel
theorem d_Num_settle_165 : decode prog_8_method_12_code 165 = .ok (.lxor, 1) := by decide +kernel
theorem d_Num_settle_166 : decode prog_8_method_12_code 166 = .ok (.land, 1) := by decide +kernel
theorem d_Num_settle_167 : decode prog_8_method_12_code 167 = .ok (.lconst 0, 1) := by decide +kernel
theorem d_Num_settle_168 : decode prog_8_method_12_code 168 = .ok (.lcmp, 1) := by decide +kernel
theorem d_Num_settle_169 : decode prog_8_method_12_code 169 = .ok (.ifCond .eq 5, 3) := by decide +kernel
theorem d_Num_settle_174 : decode prog_8_method_12_code 174 = .ok (.aload_n 0, 1) := by decide +kernel
theorem d_Num_settle_175 : decode prog_8_method_12_code 175 = .ok (.aload_n 0, 1) := by decide +kernel
theorem d_Num_settle_176 : decode prog_8_method_12_code 176 = .ok (.getfield 9, 3) := by decide +kernel
theorem d_Num_settle_179 : decode prog_8_method_12_code 179 = .ok (.lload_n 2, 1) := by decide +kernel
theorem d_Num_settle_180 : decode prog_8_method_12_code 180 = .ok (.land, 1) := by decide +kernel
theorem d_Num_settle_181 : decode prog_8_method_12_code 181 = .ok (.aload_n 0, 1) := by decide +kernel
theorem d_Num_settle_182 : decode prog_8_method_12_code 182 = .ok (.getfield 18, 3) := by decide +kernel
theorem d_Num_settle_185 : decode prog_8_method_12_code 185 = .ok (.lload_n 2, 1) := by decide +kernel
theorem d_Num_settle_186 : decode prog_8_method_12_code 186 = .ok (.ldc2_w 30, 3) := by decide +kernel
theorem d_Num_settle_189 : decode prog_8_method_12_code 189 = .ok (.lxor, 1) := by decide +kernel
theorem d_Num_settle_190 : decode prog_8_method_12_code 190 = .ok (.land, 1) := by decide +kernel
theorem d_Num_settle_191 : decode prog_8_method_12_code 191 = .ok (.lor, 1) := by decide +kernel
theorem d_Num_settle_192 : decode prog_8_method_12_code 192 = .ok (.putfield 9, 3) := by decide +kernel
theorem d_Num_settle_195 : decode prog_8_method_12_code 195 = .ok (.aload_n 0, 1) := by decide +kernel
theorem d_Num_settle_196 : decode prog_8_method_12_code 196 = .ok (.dup, 1) := by decide +kernel
theorem d_Num_settle_197 : decode prog_8_method_12_code 197 = .ok (.getfield 15, 3) := by decide +kernel
theorem d_Num_settle_200 : decode prog_8_method_12_code 200 = .ok (.lload_n 2, 1) := by decide +kernel
theorem d_Num_settle_201 : decode prog_8_method_12_code 201 = .ok (.land, 1) := by decide +kernel
theorem d_Num_settle_202 : decode prog_8_method_12_code 202 = .ok (.putfield 15, 3) := by decide +kernel
theorem d_Num_settle_205 : decode prog_8_method_12_code 205 = .ok (.iinc 1 1, 3) := by decide +kernel
theorem d_Num_settle_208 : decode prog_8_method_12_code 208 = .ok (.goto (-206), 3) := by decide +kernel
theorem d_Num_settle_172 : decode prog_8_method_12_code 172 = .ok (.iconst 0, 1) := by decide +kernel
theorem d_Num_settle_173 : decode prog_8_method_12_code 173 = .ok (.ireturn, 1) := by decide +kernel
theorem d_Num_settle_72 : decode prog_8_method_12_code 72 = .ok (.aload_n 0, 1) := by decide +kernel
theorem d_Num_settle_73 : decode prog_8_method_12_code 73 = .ok (.getfield 24, 3) := by decide +kernel
theorem d_Num_settle_76 : decode prog_8_method_12_code 76 = .ok (.aload_n 0, 1) := by decide +kernel
theorem d_Num_settle_77 : decode prog_8_method_12_code 77 = .ok (.getfield 27, 3) := by decide +kernel
theorem d_Num_settle_80 : decode prog_8_method_12_code 80 = .ok (.lxor, 1) := by decide +kernel
theorem d_Num_settle_81 : decode prog_8_method_12_code 81 = .ok (.lconst 0, 1) := by decide +kernel
theorem d_Num_settle_82 : decode prog_8_method_12_code 82 = .ok (.lcmp, 1) := by decide +kernel
theorem d_Num_settle_83 : decode prog_8_method_12_code 83 = .ok (.ifCond .lt 19, 3) := by decide +kernel
theorem d_Num_settle_86 : decode prog_8_method_12_code 86 = .ok (.aload_n 0, 1) := by decide +kernel
theorem d_Num_settle_87 : decode prog_8_method_12_code 87 = .ok (.aload_n 0, 1) := by decide +kernel
theorem d_Num_settle_88 : decode prog_8_method_12_code 88 = .ok (.getfield 24, 3) := by decide +kernel
theorem d_Num_settle_91 : decode prog_8_method_12_code 91 = .ok (.invokevirtual 40, 3) := by decide +kernel
theorem u_1225 : Cond.methodLink "FilterGuard$Num" 40 ⟨"FilterGuard$Num", "raiseLeast", "(J)V"⟩ ∈ fg_g := fg_in (List.mem_of_getElem? (i := 1225) (by decide +kernel)) rfl
theorem u_1201 : Cond.code ⟨"FilterGuard$Num", "raiseLeast", "(J)V"⟩ prog_8_method_15_code 3 none ∈ fg_g := fg_in (List.mem_of_getElem? (i := 1201) (by decide +kernel)) rfl
theorem u_1199 : Cond.instanceMethod ⟨"FilterGuard$Num", "raiseLeast", "(J)V"⟩ ∈ fg_g := fg_in (List.mem_of_getElem? (i := 1199) (by decide +kernel)) rfl
theorem u_1200 : Cond.selects "FilterGuard$Num" ⟨"FilterGuard$Num", "raiseLeast", "(J)V"⟩ ⟨"FilterGuard$Num", "raiseLeast", "(J)V"⟩ ∈ fg_g := fg_in (List.mem_of_getElem? (i := 1200) (by decide +kernel)) rfl
theorem d_Num_settle_94 : decode prog_8_method_12_code 94 = .ok (.aload_n 0, 1) := by decide +kernel
theorem d_Num_settle_95 : decode prog_8_method_12_code 95 = .ok (.aload_n 0, 1) := by decide +kernel
theorem d_Num_settle_96 : decode prog_8_method_12_code 96 = .ok (.getfield 27, 3) := by decide +kernel
theorem d_Num_settle_99 : decode prog_8_method_12_code 99 = .ok (.invokevirtual 44, 3) := by decide +kernel
theorem u_1226 : Cond.methodLink "FilterGuard$Num" 44 ⟨"FilterGuard$Num", "lowerGreatest", "(J)V"⟩ ∈ fg_g := fg_in (List.mem_of_getElem? (i := 1226) (by decide +kernel)) rfl
theorem d_Num_settle_2 : decode prog_8_method_12_code 2 = .ok (.iload_n 1, 1) := by decide +kernel
theorem d_Num_settle_3 : decode prog_8_method_12_code 3 = .ok (.iconst 3, 1) := by decide +kernel
theorem d_Num_settle_4 : decode prog_8_method_12_code 4 = .ok (.if_icmp .ge 207, 3) := by decide +kernel
theorem d_Num_settle_211 : decode prog_8_method_12_code 211 = .ok (.iconst 1, 1) := by decide +kernel
theorem d_Num_settle_212 : decode prog_8_method_12_code 212 = .ok (.ireturn, 1) := by decide +kernel
theorem d_Num_settle_7 : decode prog_8_method_12_code 7 = .ok (.aload_n 0, 1) := by decide +kernel
theorem d_Num_settle_8 : decode prog_8_method_12_code 8 = .ok (.aload_n 0, 1) := by decide +kernel
theorem d_Num_settle_9 : decode prog_8_method_12_code 9 = .ok (.getfield 9, 3) := by decide +kernel
theorem d_Num_settle_12 : decode prog_8_method_12_code 12 = .ok (.invokevirtual 40, 3) := by decide +kernel
theorem d_Num_settle_15 : decode prog_8_method_12_code 15 = .ok (.aload_n 0, 1) := by decide +kernel
theorem d_Num_settle_16 : decode prog_8_method_12_code 16 = .ok (.aload_n 0, 1) := by decide +kernel
theorem d_Num_settle_17 : decode prog_8_method_12_code 17 = .ok (.getfield 9, 3) := by decide +kernel
theorem d_Num_settle_20 : decode prog_8_method_12_code 20 = .ok (.aload_n 0, 1) := by decide +kernel
theorem d_Num_settle_21 : decode prog_8_method_12_code 21 = .ok (.getfield 15, 3) := by decide +kernel
theorem d_Num_settle_24 : decode prog_8_method_12_code 24 = .ok (.lor, 1) := by decide +kernel
theorem d_Num_settle_25 : decode prog_8_method_12_code 25 = .ok (.invokevirtual 44, 3) := by decide +kernel
theorem d_Num_settle_28 : decode prog_8_method_12_code 28 = .ok (.aload_n 0, 1) := by decide +kernel
theorem d_Num_settle_29 : decode prog_8_method_12_code 29 = .ok (.getfield 18, 3) := by decide +kernel
theorem d_Num_settle_32 : decode prog_8_method_12_code 32 = .ok (.aload_n 0, 1) := by decide +kernel
theorem d_Num_settle_33 : decode prog_8_method_12_code 33 = .ok (.getfield 21, 3) := by decide +kernel
theorem d_Num_settle_36 : decode prog_8_method_12_code 36 = .ok (.lxor, 1) := by decide +kernel
theorem d_Num_settle_37 : decode prog_8_method_12_code 37 = .ok (.lconst 0, 1) := by decide +kernel
theorem d_Num_settle_38 : decode prog_8_method_12_code 38 = .ok (.lcmp, 1) := by decide +kernel
theorem d_Num_settle_39 : decode prog_8_method_12_code 39 = .ok (.ifCond .lt 33, 3) := by decide +kernel
theorem d_Num_settle_42 : decode prog_8_method_12_code 42 = .ok (.aload_n 0, 1) := by decide +kernel
theorem d_Num_settle_43 : decode prog_8_method_12_code 43 = .ok (.aload_n 0, 1) := by decide +kernel
theorem d_Num_settle_44 : decode prog_8_method_12_code 44 = .ok (.getfield 24, 3) := by decide +kernel
theorem d_Num_settle_47 : decode prog_8_method_12_code 47 = .ok (.aload_n 0, 1) := by decide +kernel
theorem d_Num_settle_48 : decode prog_8_method_12_code 48 = .ok (.getfield 18, 3) := by decide +kernel
theorem d_Num_settle_51 : decode prog_8_method_12_code 51 = .ok (.invokestatic 47, 3) := by decide +kernel
theorem u_1227 : Cond.methodLink "FilterGuard$Num" 47 ⟨"java/lang/Math", "max", "(JJ)J"⟩ ∈ fg_g := fg_in (List.mem_of_getElem? (i := 1227) (by decide +kernel)) rfl
theorem u_1228 : Cond.static ⟨"java/lang/Math", "max", "(JJ)J"⟩ ∈ fg_g := fg_in (List.mem_of_getElem? (i := 1228) (by decide +kernel)) rfl
theorem u_1229 : Cond.code ⟨"java/lang/Math", "max", "(JJ)J"⟩ prog_21_method_66_code 4 (some .long) ∈ fg_g := fg_in (List.mem_of_getElem? (i := 1229) (by decide +kernel)) rfl
theorem d_Num_settle_54 : decode prog_8_method_12_code 54 = .ok (.putfield 24, 3) := by decide +kernel
theorem d_Num_settle_57 : decode prog_8_method_12_code 57 = .ok (.aload_n 0, 1) := by decide +kernel
theorem d_Num_settle_58 : decode prog_8_method_12_code 58 = .ok (.aload_n 0, 1) := by decide +kernel
theorem d_Num_settle_59 : decode prog_8_method_12_code 59 = .ok (.getfield 27, 3) := by decide +kernel
theorem d_Num_settle_62 : decode prog_8_method_12_code 62 = .ok (.aload_n 0, 1) := by decide +kernel
theorem d_Num_settle_63 : decode prog_8_method_12_code 63 = .ok (.getfield 21, 3) := by decide +kernel
theorem d_Num_settle_66 : decode prog_8_method_12_code 66 = .ok (.invokestatic 53, 3) := by decide +kernel
theorem u_1230 : Cond.methodLink "FilterGuard$Num" 53 ⟨"java/lang/Math", "min", "(JJ)J"⟩ ∈ fg_g := fg_in (List.mem_of_getElem? (i := 1230) (by decide +kernel)) rfl
theorem u_1231 : Cond.static ⟨"java/lang/Math", "min", "(JJ)J"⟩ ∈ fg_g := fg_in (List.mem_of_getElem? (i := 1231) (by decide +kernel)) rfl
theorem u_1232 : Cond.code ⟨"java/lang/Math", "min", "(JJ)J"⟩ prog_21_method_70_code 4 (some .long) ∈ fg_g := fg_in (List.mem_of_getElem? (i := 1232) (by decide +kernel)) rfl
theorem d_Num_settle_69 : decode prog_8_method_12_code 69 = .ok (.putfield 27, 3) := by decide +kernel
theorem d_Num_settle_0 : decode prog_8_method_12_code 0 = .ok (.iconst 0, 1) := by decide +kernel
theorem d_Num_settle_1 : decode prog_8_method_12_code 1 = .ok (.istore_n 1, 1) := by decide +kernel
abbrev y_Num_settle : MethodName := ⟨"FilterGuard$Num", "settle", "()Z"⟩
def f_Num_settle_b102 (k2 : me_M → Int32 → Option (me_M × Int32)) (j0 : Nat) (M : me_M) (y1 : Int32) : Option (me_M × Int32) := bd (f_Num_isBelow (mL M 11 j0 3) (mL M 11 j0 2)) (fun (r1 : Int32) => (if r1 = 0 then (if (mL M 11 j0 5) < (mL M 11 j0 4) then some (M, (0 : Int32)) else bd (f_Num_downFromHighest ((mL M 11 j0 2) ^^^ (mL M 11 j0 3))) (fun (r4 : Int64) => st ((((mL M 11 j0 0) ^^^ (mL M 11 j0 2)) &&& ((mL M 11 j0 1) ^^^ (-1))) &&& (r4 ^^^ (-1))) (fun (v5 : Int64) => (if v5 = 0 then st (wL M 11 j0 0 (((mL M 11 j0 0) &&& r4) ||| ((mL M 11 j0 2) &&& (r4 ^^^ (-1))))) (fun (M7 : me_M) => st (wL M7 11 j0 1 ((mL M7 11 j0 1) &&& r4)) (fun (M8 : me_M) => k2 M8 (y1 + 1))) else some (M, (0 : Int32)))))) else some (M, (0 : Int32))))
def f_Num_settle_b72 (k2 : me_M → Int32 → Option (me_M × Int32)) (j0 : Nat) (M : me_M) (y1 : Int32) : Option (me_M × Int32) := (if ((mL M 11 j0 4) ^^^ (mL M 11 j0 5)) < 0 then f_Num_settle_b102 k2 j0 M y1 else bd (f_Num_raiseLeast M j0 (mL M 11 j0 4)) (fun (M10 : me_M) => bd (f_Num_lowerGreatest M10 j0 (mL M10 11 j0 5)) (fun (M11 : me_M) => f_Num_settle_b102 k2 j0 M11 y1)))
def f_Num_settle_l2 (j0 : Nat) : Nat → me_M → Int32 → Option (me_M × Int32)
  | 0, _, _ => none
  | fu + 1, M, y1 => (if 3 ≤ y1 then some (M, (1 : Int32)) else bd (f_Num_raiseLeast M j0 (mL M 11 j0 0)) (fun (M13 : me_M) => bd (f_Num_lowerGreatest M13 j0 ((mL M13 11 j0 0) ||| (mL M13 11 j0 1))) (fun (M14 : me_M) => (if ((mL M14 11 j0 2) ^^^ (mL M14 11 j0 3)) < 0 then f_Num_settle_b72 (f_Num_settle_l2 j0 fu) j0 M14 y1 else st (wL M14 11 j0 4 (jlmax (mL M14 11 j0 4) (mL M14 11 j0 2))) (fun (M16 : me_M) => st (wL M16 11 j0 5 (jlmin (mL M16 11 j0 5) (mL M16 11 j0 3))) (fun (M17 : me_M) => f_Num_settle_b72 (f_Num_settle_l2 j0 fu) j0 M17 y1))))))
def f_Num_settle (M0 : me_M) (j0 : Nat) : Option (me_M × Int32) := f_Num_settle_l2 j0 fuel M0 (0 : Int32)
def rm_Num_settle : Room := { frames := 2, cells := 0, slots := 0, locals := 60 }
abbrev q_Num_settle (D : va_G) (ad : Nat → Nat → Nat) (ca : Nat → ClassId) (N : Nat → Nat) (M0 MZ : me_M) (RZ : Int32) (A : Nat → Prop) : Array Value → Jvm.State → Outcome → Jvm.State → Prop := va_Qi (fun r (_ : Unit) => r = RZ ∧ me_wf N MZ ∧ me_kp M0 MZ ∧ (RZ = 1 ∨ RZ = 0)) (fg_B D A (fun _ => me_W ad ca MZ) (fun _ => [])) A
set_option maxHeartbeats 4000000 in
set_option maxRecDepth 100000 in
theorem c_Num_settle (l : Launch) (D : va_G) (ad : Nat → Nat → Nat) (ca : Nat → ClassId) (N : Nat → Nat) (M0 MZ : me_M) (RZ : Int32) (j0 : Nat) (h : f_Num_settle M0 j0 = (some (MZ, RZ))) (hwf : me_wf N M0) (hj0 : j0 < N 11) (sz : Nat) : Met l y_Num_settle (fg_w y_Num_settle prog_8_method_12_code 4 (some .boolean)) rm_Num_settle (va_Pc [.ref (ad 11 j0)] (fz_P D (me_T ca) (me_W ad ca M0) sz)) (q_Num_settle D ad ca N M0 MZ RZ (va_A (me_W ad ca M0) sz)) rm_Num_settle.cells rm_Num_settle.slots (va_A (me_W ad ca M0) sz) := by
  refine fz_enter (fun A => q_Num_settle D ad ca N M0 MZ RZ A) (by decide +kernel) (Nat.le_of_ble_eq_true rfl) ?_
  intro p e s m below meth c ls A hx hb hml hown hts hr hlocks hin hP hK hD hS hA hX hl hz
  have hl : lv_has ls 4 [(0, .ref (ad 11 j0))] := hl
  unfold f_Num_settle at h
  have hkp : me_kp M0 M0 := me_kp.rf
  have hkb := hkp
  have b_102 : ∀ (k2 : me_M → Int32 → Option (me_M × Int32)) (hk2 : ∀ (M : me_M) (y1 : Int32) (H : Heap) (locs : List Loc) (ls : Array Slot), k2 M y1 = (some (MZ, RZ)) → me_wf N M → me_kp M0 M → va_P D classes (me_W ad ca M) H → va_D A (me_W ad ca M) → va_S A s.heap H locs → lv_has ls 4 [(0, .ref (ad 11 j0)), (1, .int y1)] → W p l e rm_Num_settle s m [.ref (ad 11 j0)].toArray below meth c H locs 0 0 (MQ below (q_Num_settle D ad ca N M0 MZ RZ A) [.ref (ad 11 j0)].toArray s rm_Num_settle.cells rm_Num_settle.slots A) (F0 m 2 ls [])), ∀ (M : me_M) (y1 : Int32) (H : Heap) (locs : List Loc) (ls : Array Slot), f_Num_settle_b102 k2 j0 M y1 = (some (MZ, RZ)) → me_wf N M → me_kp M0 M → va_P D classes (me_W ad ca M) H → va_D A (me_W ad ca M) → va_S A s.heap H locs → lv_has ls 4 [(0, .ref (ad 11 j0)), (1, .int y1)] → W p l e rm_Num_settle s m [.ref (ad 11 j0)].toArray below meth c H locs 0 0 (MQ below (q_Num_settle D ad ca N M0 MZ RZ A) [.ref (ad 11 j0)].toArray s rm_Num_settle.cells rm_Num_settle.slots A) (F0 m 102 ls []) := by
    intro k2 hk2 M y1 H locs ls h hwf hkp hP hD hS hl
    unfold f_Num_settle_b102 at h
    have hkb := hkp
    refine lv_aload_n hx hb d_Num_settle_102 rfl (lv_at hl 0 rfl) ?_
    refine g_Num_3 hx hb hts hown hK hP hwf hj0 (hts _ u_376) d_Num_settle_103 ?_
    refine lv_aload_n hx hb d_Num_settle_106 rfl (lv_at hl 0 rfl) ?_
    refine g_Num_2 hx hb hts hown hK hP hwf hj0 (hts _ u_373) d_Num_settle_107 ?_
    obtain ⟨r1, er1, h⟩ := bd_ob h
    refine me_pani' (r0 := r1) (fg_runS (wc := []) (tc := []) (A2 := A) (As := [.long (mL M 11 j0 3), .long (mL M 11 j0 2)]) (rest := []) ⟨hx, hb, hml, hown, hts⟩ (c_Num_isBelow l D r1 (mL M 11 j0 3) (mL M 11 j0 2) er1 _) (by show fg_nm y_Num_isBelow 2; decide +kernel) u_1062 u_1063 u_187 u_1064 ⟨Nat.le_of_ble_eq_true rfl, Nat.le_of_ble_eq_true rfl⟩ hX me_P0 (hK.sub (tys' := []) [] rfl) me_D0 rfl hl.1 (Nat.le_of_ble_eq_true rfl) d_Num_settle_110 ⟨Nat.le_of_ble_eq_true rfl, Nat.le_of_ble_eq_true rfl⟩) hP hD hK hS hA rfl rfl (fun H locs hw hP hD hS => ?_)
    have zr1 := hw
    refine lv_if_ne (tgt := 128) hx hb d_Num_settle_113 (by decide) (fun c2 => ?_) (fun c2 => ?_)
    · have h := if_f c2 h
      refine lv_iconst (v := 0) hx hb d_Num_settle_128 (by decide) ?_
      exact me_retz (me_kp M0) h (by decide) hx hb hr hlocks hwf hkp hP hK hD hS d_Num_settle_129
    have h := if_t c2 h
    refine lv_aload_n hx hb d_Num_settle_116 rfl (lv_at hl 0 rfl) ?_
    refine g_Num_4 hx hb hts hown hK hP hwf hj0 (hts _ u_379) d_Num_settle_117 ?_
    refine lv_aload_n hx hb d_Num_settle_120 rfl (lv_at hl 0 rfl) ?_
    refine g_Num_5 hx hb hts hown hK hP hwf hj0 (hts _ u_381) d_Num_settle_121 ?_
    refine W.lcmp hx hb d_Num_settle_124 ?_
    refine lv_if_le (tgt := 130) hx hb d_Num_settle_125 (by decide) (fun c3 => ?_) (fun c3 => ?_)
    · have h := if_f (Int64.not_lt.mpr ((lg_cmp_le _ _).mp c3)) h
      refine lv_aload_n hx hb d_Num_settle_130 rfl (lv_at hl 0 rfl) ?_
      refine g_Num_2 hx hb hts hown hK hP hwf hj0 (hts _ u_373) d_Num_settle_131 ?_
      refine lv_aload_n hx hb d_Num_settle_134 rfl (lv_at hl 0 rfl) ?_
      refine g_Num_3 hx hb hts hown hK hP hwf hj0 (hts _ u_376) d_Num_settle_135 ?_
      refine lv_lxor hx hb d_Num_settle_138 ?_
      obtain ⟨r4, er4, h⟩ := bd_ob h
      refine me_panl' (r0 := r4) (fg_runS (wc := []) (tc := []) (A2 := A) (As := [.long ((mL M 11 j0 2) ^^^ (mL M 11 j0 3))]) (rest := []) ⟨hx, hb, hml, hown, hts⟩ (c_Num_downFromHighest l D r4 ((mL M 11 j0 2) ^^^ (mL M 11 j0 3)) er4 _) (by show fg_nm y_Num_downFromHighest 1; decide +kernel) u_1233 u_1234 u_187 u_1235 ⟨Nat.le_of_ble_eq_true rfl, Nat.le_of_ble_eq_true rfl⟩ hX me_P0 (hK.sub (tys' := []) [] rfl) me_D0 rfl hl.1 (Nat.le_of_ble_eq_true rfl) d_Num_settle_139 ⟨Nat.le_of_ble_eq_true rfl, Nat.le_of_ble_eq_true rfl⟩) hP hD hK hS hA rfl rfl (fun H locs hw hP hD hS => ?_)
      refine lv_lstore_n (lv' := [(2, .long r4), (0, .ref (ad 11 j0)), (1, .int y1)]) hx hb d_Num_settle_142 rfl hl (by decide) rfl (fun ls hl => ?_)
      refine lv_aload_n hx hb d_Num_settle_143 rfl (lv_at hl 1 rfl) ?_
      refine g_Num_0 hx hb hts hown hK hP hwf hj0 (hts _ u_367) d_Num_settle_144 ?_
      refine lv_aload_n hx hb d_Num_settle_147 rfl (lv_at hl 1 rfl) ?_
      refine g_Num_2 hx hb hts hown hK hP hwf hj0 (hts _ u_373) d_Num_settle_148 ?_
      refine lv_lxor hx hb d_Num_settle_151 ?_
      refine lv_aload_n hx hb d_Num_settle_152 rfl (lv_at hl 1 rfl) ?_
      refine g_Num_1 hx hb hts hown hK hP hwf hj0 (hts _ u_371) d_Num_settle_153 ?_
      refine lv_ldc2 hx hb hown (hts _ u_1061) d_Num_settle_156 ?_
      refine lv_lxor hx hb d_Num_settle_159 ?_
      refine lv_land hx hb d_Num_settle_160 ?_
      refine lv_lload_n hx hb d_Num_settle_161 rfl (lv_at hl 0 rfl) ?_
      refine lv_ldc2 hx hb hown (hts _ u_1061) d_Num_settle_162 ?_
      refine lv_lxor hx hb d_Num_settle_165 ?_
      refine lv_land hx hb d_Num_settle_166 ?_
      obtain ⟨v5, ev5, h⟩ := st_ob h
      refine fg_topl (y := v5) ev5.symm ?_
      refine lv_lconst (v := 0) hx hb d_Num_settle_167 (by decide) ?_
      refine W.lcmp hx hb d_Num_settle_168 ?_
      refine lv_if_eq (tgt := 174) hx hb d_Num_settle_169 (by decide) (fun c6 => ?_) (fun c6 => ?_)
      · have h := if_t ((lg_cmp_eq _ _).mp c6) h
        refine lv_aload_n hx hb d_Num_settle_174 rfl (lv_at hl 1 rfl) ?_
        refine lv_aload_n hx hb d_Num_settle_175 rfl (lv_at hl 1 rfl) ?_
        refine g_Num_0 hx hb hts hown hK hP hwf hj0 (hts _ u_367) d_Num_settle_176 ?_
        refine lv_lload_n hx hb d_Num_settle_179 rfl (lv_at hl 0 rfl) ?_
        refine lv_land hx hb d_Num_settle_180 ?_
        refine lv_aload_n hx hb d_Num_settle_181 rfl (lv_at hl 1 rfl) ?_
        refine g_Num_2 hx hb hts hown hK hP hwf hj0 (hts _ u_373) d_Num_settle_182 ?_
        refine lv_lload_n hx hb d_Num_settle_185 rfl (lv_at hl 0 rfl) ?_
        refine lv_ldc2 hx hb hown (hts _ u_1061) d_Num_settle_186 ?_
        refine lv_lxor hx hb d_Num_settle_189 ?_
        refine lv_land hx hb d_Num_settle_190 ?_
        refine lv_lor hx hb d_Num_settle_191 ?_
        obtain ⟨M7, eM7, h⟩ := st_ob h
        refine p_Num_0 eM7 hx hb hts hown hK hP hD hwf hS hj0 (hts _ u_367) d_Num_settle_192 (fun H locs hP hD hwf hS => ?_)
        have hkp := kp_L eM7 hkp
        refine lv_aload_n hx hb d_Num_settle_195 rfl (lv_at hl 1 rfl) ?_
        refine lv_dup hx hb d_Num_settle_196 rfl ?_
        refine g_Num_1 hx hb hts hown hK hP hwf hj0 (hts _ u_371) d_Num_settle_197 ?_
        refine lv_lload_n hx hb d_Num_settle_200 rfl (lv_at hl 0 rfl) ?_
        refine lv_land hx hb d_Num_settle_201 ?_
        obtain ⟨M8, eM8, h⟩ := st_ob h
        refine p_Num_1 eM8 hx hb hts hown hK hP hD hwf hS hj0 (hts _ u_371) d_Num_settle_202 (fun H locs hP hD hwf hS => ?_)
        have hkp := kp_L eM8 hkp
        refine lv_iinc (v := y1 + 1) (lv' := [(1, .int (y1 + 1)), (2, .long r4), (0, .ref (ad 11 j0))]) hx hb d_Num_settle_205 hl (k := 2) rfl (by rfl) (by decide) rfl (fun ls hl => ?_)
        refine lv_goto (tgt := 2) hx hb d_Num_settle_208 (by decide) ?_
        exact hk2 M8 (y1 + 1) _ _ _ h hwf hkp hP hD hS (lv_sub hl [2, 0] rfl)
      have h := if_f (fun z => c6 ((lg_cmp_eq _ _).mpr z)) h
      refine lv_iconst (v := 0) hx hb d_Num_settle_172 (by decide) ?_
      exact me_retz (me_kp M0) h (by decide) hx hb hr hlocks hwf hkp hP hK hD hS d_Num_settle_173
    have h := if_t (Int64.not_le.mp (fun z => c3 ((lg_cmp_le _ _).mpr z))) h
    refine lv_iconst (v := 0) hx hb d_Num_settle_128 (by decide) ?_
    exact me_retz (me_kp M0) h (by decide) hx hb hr hlocks hwf hkp hP hK hD hS d_Num_settle_129
  have b_72 : ∀ (k2 : me_M → Int32 → Option (me_M × Int32)) (hk2 : ∀ (M : me_M) (y1 : Int32) (H : Heap) (locs : List Loc) (ls : Array Slot), k2 M y1 = (some (MZ, RZ)) → me_wf N M → me_kp M0 M → va_P D classes (me_W ad ca M) H → va_D A (me_W ad ca M) → va_S A s.heap H locs → lv_has ls 4 [(0, .ref (ad 11 j0)), (1, .int y1)] → W p l e rm_Num_settle s m [.ref (ad 11 j0)].toArray below meth c H locs 0 0 (MQ below (q_Num_settle D ad ca N M0 MZ RZ A) [.ref (ad 11 j0)].toArray s rm_Num_settle.cells rm_Num_settle.slots A) (F0 m 2 ls [])), ∀ (M : me_M) (y1 : Int32) (H : Heap) (locs : List Loc) (ls : Array Slot), f_Num_settle_b72 k2 j0 M y1 = (some (MZ, RZ)) → me_wf N M → me_kp M0 M → va_P D classes (me_W ad ca M) H → va_D A (me_W ad ca M) → va_S A s.heap H locs → lv_has ls 4 [(0, .ref (ad 11 j0)), (1, .int y1)] → W p l e rm_Num_settle s m [.ref (ad 11 j0)].toArray below meth c H locs 0 0 (MQ below (q_Num_settle D ad ca N M0 MZ RZ A) [.ref (ad 11 j0)].toArray s rm_Num_settle.cells rm_Num_settle.slots A) (F0 m 72 ls []) := by
    intro k2 hk2 M y1 H locs ls h hwf hkp hP hD hS hl
    unfold f_Num_settle_b72 at h
    have hkb := hkp
    refine lv_aload_n hx hb d_Num_settle_72 rfl (lv_at hl 0 rfl) ?_
    refine g_Num_4 hx hb hts hown hK hP hwf hj0 (hts _ u_379) d_Num_settle_73 ?_
    refine lv_aload_n hx hb d_Num_settle_76 rfl (lv_at hl 0 rfl) ?_
    refine g_Num_5 hx hb hts hown hK hP hwf hj0 (hts _ u_381) d_Num_settle_77 ?_
    refine lv_lxor hx hb d_Num_settle_80 ?_
    refine lv_lconst (v := 0) hx hb d_Num_settle_81 (by decide) ?_
    refine W.lcmp hx hb d_Num_settle_82 ?_
    refine lv_if_lt (tgt := 102) hx hb d_Num_settle_83 (by decide) (fun c9 => ?_) (fun c9 => ?_)
    · have h := if_t ((lg_cmp_lt _ _).mp c9) h
      exact b_102 _ hk2 M y1 _ _ _ h hwf hkp hP hD hS (lv_sub hl [0, 1] rfl)
    have h := if_f (fun z => c9 ((lg_cmp_lt _ _).mpr z)) h
    refine lv_aload_n hx hb d_Num_settle_86 rfl (lv_at hl 0 rfl) ?_
    refine lv_aload_n hx hb d_Num_settle_87 rfl (lv_at hl 0 rfl) ?_
    refine g_Num_4 hx hb hts hown hK hP hwf hj0 (hts _ u_379) d_Num_settle_88 ?_
    obtain ⟨M10, eM10, h⟩ := bd_ob h
    refine me_thenv0 (M1 := M10) (me_runV (C := "FilterGuard$Num") (As := [.long (mL M 11 j0 4)]) (rest := []) ⟨hx, hb, hml, hown, hts⟩ (c_Num_raiseLeast l D ad ca N M M10 j0 (mL M 11 j0 4) eM10 hwf hj0 _) rfl (by show fg_nm y_Num_raiseLeast 1; decide +kernel) u_1225 u_1199 u_1200 u_187 u_1201 ⟨Nat.le_of_ble_eq_true rfl, Nat.le_of_ble_eq_true rfl⟩ hX hz hK hP hD hwf hS hA hj0 (by decide) rfl rfl rfl hl.1 (Nat.le_of_ble_eq_true rfl) d_Num_settle_91 ⟨Nat.le_of_ble_eq_true rfl, Nat.le_of_ble_eq_true rfl⟩) hP hD hK hS hA rfl rfl (fun H locs hw hP hD hS => ?_)
    obtain ⟨hwf, hk9⟩ := hw
    have hkp := hkp.tr hk9
    refine lv_aload_n hx hb d_Num_settle_94 rfl (lv_at hl 0 rfl) ?_
    refine lv_aload_n hx hb d_Num_settle_95 rfl (lv_at hl 0 rfl) ?_
    refine g_Num_5 hx hb hts hown hK hP hwf hj0 (hts _ u_381) d_Num_settle_96 ?_
    obtain ⟨M11, eM11, h⟩ := bd_ob h
    refine me_thenv0 (M1 := M11) (me_runV (C := "FilterGuard$Num") (As := [.long (mL M10 11 j0 5)]) (rest := []) ⟨hx, hb, hml, hown, hts⟩ (c_Num_lowerGreatest l D ad ca N M10 M11 j0 (mL M10 11 j0 5) eM11 hwf hj0 _) rfl (by show fg_nm y_Num_lowerGreatest 1; decide +kernel) u_1226 u_1195 u_1196 u_187 u_1197 ⟨Nat.le_of_ble_eq_true rfl, Nat.le_of_ble_eq_true rfl⟩ hX hz hK hP hD hwf hS hA hj0 (by decide) rfl rfl rfl hl.1 (Nat.le_of_ble_eq_true rfl) d_Num_settle_99 ⟨Nat.le_of_ble_eq_true rfl, Nat.le_of_ble_eq_true rfl⟩) hP hD hK hS hA rfl rfl (fun H locs hw hP hD hS => ?_)
    obtain ⟨hwf, hk9⟩ := hw
    have hkp := hkp.tr hk9
    exact b_102 _ hk2 M11 y1 _ _ _ h hwf hkp hP hD hS (lv_sub hl [0, 1] rfl)
  have b_2 : ∀ (fu : Nat), ∀ (M : me_M) (y1 : Int32) (H : Heap) (locs : List Loc) (ls : Array Slot), f_Num_settle_l2 j0 fu M y1 = (some (MZ, RZ)) → me_wf N M → me_kp M0 M → va_P D classes (me_W ad ca M) H → va_D A (me_W ad ca M) → va_S A s.heap H locs → lv_has ls 4 [(0, .ref (ad 11 j0)), (1, .int y1)] → W p l e rm_Num_settle s m [.ref (ad 11 j0)].toArray below meth c H locs 0 0 (MQ below (q_Num_settle D ad ca N M0 MZ RZ A) [.ref (ad 11 j0)].toArray s rm_Num_settle.cells rm_Num_settle.slots A) (F0 m 2 ls []) := by
    intro fu
    induction fu with
    | zero =>
      intro M y1 H locs ls h hwf hkp hP hD hS hl
      cases h
    | succ fu ih =>
      intro M y1 H locs ls h hwf hkp hP hD hS hl
      unfold f_Num_settle_l2 at h
      have hkb := hkp
      refine lv_iload_n hx hb d_Num_settle_2 rfl (lv_at hl 1 rfl) ?_
      refine lv_iconst (v := 3) hx hb d_Num_settle_3 (by decide) ?_
      refine lv_icmp_ge (tgt := 211) hx hb d_Num_settle_4 (by decide) (fun c12 => ?_) (fun c12 => ?_)
      · have h := if_t c12 h
        refine lv_iconst (v := 1) hx hb d_Num_settle_211 (by decide) ?_
        exact me_retz (me_kp M0) h (by decide) hx hb hr hlocks hwf hkp hP hK hD hS d_Num_settle_212
      have h := if_f c12 h
      refine lv_aload_n hx hb d_Num_settle_7 rfl (lv_at hl 0 rfl) ?_
      refine lv_aload_n hx hb d_Num_settle_8 rfl (lv_at hl 0 rfl) ?_
      refine g_Num_0 hx hb hts hown hK hP hwf hj0 (hts _ u_367) d_Num_settle_9 ?_
      obtain ⟨M13, eM13, h⟩ := bd_ob h
      refine me_thenv0 (M1 := M13) (me_runV (C := "FilterGuard$Num") (As := [.long (mL M 11 j0 0)]) (rest := []) ⟨hx, hb, hml, hown, hts⟩ (c_Num_raiseLeast l D ad ca N M M13 j0 (mL M 11 j0 0) eM13 hwf hj0 _) rfl (by show fg_nm y_Num_raiseLeast 1; decide +kernel) u_1225 u_1199 u_1200 u_187 u_1201 ⟨Nat.le_of_ble_eq_true rfl, Nat.le_of_ble_eq_true rfl⟩ hX hz hK hP hD hwf hS hA hj0 (by decide) rfl rfl rfl hl.1 (Nat.le_of_ble_eq_true rfl) d_Num_settle_12 ⟨Nat.le_of_ble_eq_true rfl, Nat.le_of_ble_eq_true rfl⟩) hP hD hK hS hA rfl rfl (fun H locs hw hP hD hS => ?_)
      obtain ⟨hwf, hk9⟩ := hw
      have hkp := hkp.tr hk9
      refine lv_aload_n hx hb d_Num_settle_15 rfl (lv_at hl 0 rfl) ?_
      refine lv_aload_n hx hb d_Num_settle_16 rfl (lv_at hl 0 rfl) ?_
      refine g_Num_0 hx hb hts hown hK hP hwf hj0 (hts _ u_367) d_Num_settle_17 ?_
      refine lv_aload_n hx hb d_Num_settle_20 rfl (lv_at hl 0 rfl) ?_
      refine g_Num_1 hx hb hts hown hK hP hwf hj0 (hts _ u_371) d_Num_settle_21 ?_
      refine lv_lor hx hb d_Num_settle_24 ?_
      obtain ⟨M14, eM14, h⟩ := bd_ob h
      refine me_thenv0 (M1 := M14) (me_runV (C := "FilterGuard$Num") (As := [.long ((mL M13 11 j0 0) ||| (mL M13 11 j0 1))]) (rest := []) ⟨hx, hb, hml, hown, hts⟩ (c_Num_lowerGreatest l D ad ca N M13 M14 j0 ((mL M13 11 j0 0) ||| (mL M13 11 j0 1)) eM14 hwf hj0 _) rfl (by show fg_nm y_Num_lowerGreatest 1; decide +kernel) u_1226 u_1195 u_1196 u_187 u_1197 ⟨Nat.le_of_ble_eq_true rfl, Nat.le_of_ble_eq_true rfl⟩ hX hz hK hP hD hwf hS hA hj0 (by decide) rfl rfl rfl hl.1 (Nat.le_of_ble_eq_true rfl) d_Num_settle_25 ⟨Nat.le_of_ble_eq_true rfl, Nat.le_of_ble_eq_true rfl⟩) hP hD hK hS hA rfl rfl (fun H locs hw hP hD hS => ?_)
      obtain ⟨hwf, hk9⟩ := hw
      have hkp := hkp.tr hk9
      refine lv_aload_n hx hb d_Num_settle_28 rfl (lv_at hl 0 rfl) ?_
      refine g_Num_2 hx hb hts hown hK hP hwf hj0 (hts _ u_373) d_Num_settle_29 ?_
      refine lv_aload_n hx hb d_Num_settle_32 rfl (lv_at hl 0 rfl) ?_
      refine g_Num_3 hx hb hts hown hK hP hwf hj0 (hts _ u_376) d_Num_settle_33 ?_
      refine lv_lxor hx hb d_Num_settle_36 ?_
      refine lv_lconst (v := 0) hx hb d_Num_settle_37 (by decide) ?_
      refine W.lcmp hx hb d_Num_settle_38 ?_
      refine lv_if_lt (tgt := 72) hx hb d_Num_settle_39 (by decide) (fun c15 => ?_) (fun c15 => ?_)
      · have h := if_t ((lg_cmp_lt _ _).mp c15) h
        exact b_72 _ ih M14 y1 _ _ _ h hwf hkp hP hD hS (lv_sub hl [0, 1] rfl)
      have h := if_f (fun z => c15 ((lg_cmp_lt _ _).mpr z)) h
      refine lv_aload_n hx hb d_Num_settle_42 rfl (lv_at hl 0 rfl) ?_
      refine lv_aload_n hx hb d_Num_settle_43 rfl (lv_at hl 0 rfl) ?_
      refine g_Num_4 hx hb hts hown hK hP hwf hj0 (hts _ u_379) d_Num_settle_44 ?_
      refine lv_aload_n hx hb d_Num_settle_47 rfl (lv_at hl 0 rfl) ?_
      refine g_Num_2 hx hb hts hown hK hP hwf hj0 (hts _ u_373) d_Num_settle_48 ?_
      refine va_mmax_long hx hb (hml.trans hl.1.symm) hown (hts _ u_1227) (hts _ u_1228) (hts _ u_193) (hts _ u_1229) (Nat.le_of_ble_eq_true rfl) (Nat.le_of_ble_eq_true rfl) (Nat.le_of_ble_eq_true rfl) (Nat.le_of_ble_eq_true rfl) d_Num_settle_51 ?_
      refine fg_topl (y := jlmax (mL M14 11 j0 4) (mL M14 11 j0 2)) rfl ?_
      obtain ⟨M16, eM16, h⟩ := st_ob h
      refine p_Num_4 eM16 hx hb hts hown hK hP hD hwf hS hj0 (hts _ u_379) d_Num_settle_54 (fun H locs hP hD hwf hS => ?_)
      have hkp := kp_L eM16 hkp
      refine lv_aload_n hx hb d_Num_settle_57 rfl (lv_at hl 0 rfl) ?_
      refine lv_aload_n hx hb d_Num_settle_58 rfl (lv_at hl 0 rfl) ?_
      refine g_Num_5 hx hb hts hown hK hP hwf hj0 (hts _ u_381) d_Num_settle_59 ?_
      refine lv_aload_n hx hb d_Num_settle_62 rfl (lv_at hl 0 rfl) ?_
      refine g_Num_3 hx hb hts hown hK hP hwf hj0 (hts _ u_376) d_Num_settle_63 ?_
      refine va_mmin_long hx hb (hml.trans hl.1.symm) hown (hts _ u_1230) (hts _ u_1231) (hts _ u_193) (hts _ u_1232) (Nat.le_of_ble_eq_true rfl) (Nat.le_of_ble_eq_true rfl) (Nat.le_of_ble_eq_true rfl) (Nat.le_of_ble_eq_true rfl) d_Num_settle_66 ?_
      refine fg_topl (y := jlmin (mL M16 11 j0 5) (mL M16 11 j0 3)) rfl ?_
      obtain ⟨M17, eM17, h⟩ := st_ob h
      refine p_Num_5 eM17 hx hb hts hown hK hP hD hwf hS hj0 (hts _ u_381) d_Num_settle_69 (fun H locs hP hD hwf hS => ?_)
      have hkp := kp_L eM17 hkp
      exact b_72 _ ih M17 y1 _ _ _ h hwf hkp hP hD hS (lv_sub hl [0, 1] rfl)
  refine lv_iconst (v := 0) hx hb d_Num_settle_0 (by decide) ?_
  refine lv_istore_n (lv' := [(1, .int 0), (0, .ref (ad 11 j0))]) hx hb d_Num_settle_1 rfl hl (by decide) rfl (fun ls hl => ?_)
  exact b_2 _ M0 (0 : Int32) _ _ _ h hwf hkp hP hD hS (lv_sub hl [1, 0] rfl)
