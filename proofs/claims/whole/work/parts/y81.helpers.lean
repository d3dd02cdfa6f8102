theorem d_Law_map_0 : decode method_3_code 0 = .ok (.aload 5, 2) := by decide +kernel
theorem d_Law_map_2 : decode method_3_code 2 = .ok (.iconst 0, 1) := by decide +kernel
theorem d_Law_map_3 : decode method_3_code 3 = .ok (.aload_n 0, 1) := by decide +kernel
theorem d_Law_map_4 : decode method_3_code 4 = .ok (.iload_n 1, 1) := by decide +kernel
theorem d_Law_map_5 : decode method_3_code 5 = .ok (.iload_n 2, 1) := by decide +kernel
theorem d_Law_map_6 : decode method_3_code 6 = .ok (.iload_n 3, 1) := by decide +kernel
theorem d_Law_map_7 : decode method_3_code 7 = .ok (.iload 4, 2) := by decide +kernel
theorem d_Law_map_9 : decode method_3_code 9 = .ok (.invokevirtual 7, 3) := by decide +kernel
theorem u_808 : Cond.methodLink "FilterGuardLaw" 7 ⟨"FilterGuard", "map", "(IIII)I"⟩ ∈ fg_g := fg_in (List.mem_of_getElem? (i := 808) (by decide +kernel)) rfl
theorem u_811 : Cond.code ⟨"FilterGuard", "map", "(IIII)I"⟩ prog_1_method_4_code 6 (some .int) ∈ fg_g := fg_in (List.mem_of_getElem? (i := 811) (by decide +kernel)) rfl
theorem u_809 : Cond.instanceMethod ⟨"FilterGuard", "map", "(IIII)I"⟩ ∈ fg_g := fg_in (List.mem_of_getElem? (i := 809) (by decide +kernel)) rfl
theorem u_810 : Cond.selects "FilterGuard" ⟨"FilterGuard", "map", "(IIII)I"⟩ ⟨"FilterGuard", "map", "(IIII)I"⟩ ∈ fg_g := fg_in (List.mem_of_getElem? (i := 810) (by decide +kernel)) rfl
theorem d_Law_map_12 : decode method_3_code 12 = .ok (.i2l, 1) := by decide +kernel
theorem d_Law_map_13 : decode method_3_code 13 = .ok (.lastore, 1) := by decide +kernel
theorem d_Law_map_14 : decode method_3_code 14 = .ok (.goto 11, 3) := by decide +kernel
theorem d_Law_map_25 : decode method_3_code 25 = .ok (.iconst 0, 1) := by decide +kernel
theorem d_Law_map_26 : decode method_3_code 26 = .ok (.ireturn, 1) := by decide +kernel
abbrev y_Law_map : MethodName := ⟨"FilterGuardLaw", "map", "(LFilterGuard;IIII[J)I"⟩
theorem u_806 : Cond.classLink "FilterGuardLaw" 13 "java/lang/IllegalArgumentException" ∈ fg_g := fg_in (List.mem_of_getElem? (i := 806) (by decide +kernel)) rfl
theorem d_Law_map_17 : decode method_3_code 17 = .ok (.astore 6, 2) := by decide +kernel
theorem d_Law_map_19 : decode method_3_code 19 = .ok (.iconst 1, 1) := by decide +kernel
theorem d_Law_map_20 : decode method_3_code 20 = .ok (.ireturn, 1) := by decide +kernel
theorem u_807 : Cond.classLink "FilterGuardLaw" 15 "java/lang/IllegalStateException" ∈ fg_g := fg_in (List.mem_of_getElem? (i := 807) (by decide +kernel)) rfl
theorem d_Law_map_21 : decode method_3_code 21 = .ok (.astore 6, 2) := by decide +kernel
theorem d_Law_map_23 : decode method_3_code 23 = .ok (.iconst 2, 1) := by decide +kernel
theorem d_Law_map_24 : decode method_3_code 24 = .ok (.ireturn, 1) := by decide +kernel
def rm_Law_map (N0 : Nat → Nat) : Room := { frames := 3, cells := me_CL - me_cN N0, slots := me_SL - me_sN N0, locals := 80 }
abbrev q_Law_map (D : va_G) (ad0 : Nat → Nat → Nat) (ca : Nat → ClassId) (N0 : Nat → Nat) (MZ : me_M) (RZ : Int32) (A : Nat → Prop) : Array Value → Jvm.State → Outcome → Jvm.State → Prop := va_Qi (fun r (u : Nat → Nat → Nat) => r = RZ ∧ al_P ad0 N0 MZ u ∧ True) (fg_B D A (fun u => me_W u ca MZ) (fun _ => [])) A
set_option maxHeartbeats 4000000 in
set_option maxRecDepth 100000 in
theorem c_Law_map (l : Launch) (D : va_G) (ad0 : Nat → Nat → Nat) (ca : Nat → ClassId) (N0 : Nat → Nat) (M0 MZ : me_M) (RZ : Int32) (j0 : Nat) (x1 : Int32) (x2 : Int32) (x3 : Int32) (x4 : Int32) (j5 : Nat) (h : f_Law_map M0 j0 x1 x2 x3 x4 j5 = (some (MZ, RZ))) (hwf : me_wf N0 M0) (hcl : me_cN N0 ≤ me_CL ∧ me_sN N0 ≤ me_SL) (hj0 : j0 < N0 0) (hj5 : j5 < N0 16) (sz : Nat) : Met l y_Law_map (fg_wh y_Law_map method_3_code 7 (some .int) [(0, 14, 17, 13), (0, 14, 21, 15)]) (rm_Law_map N0) (va_Pc [.ref (ad0 0 j0), .int x1, .int x2, .int x3, .int x4, .ref (ad0 16 j5)] (fg_PZ D (me_T ca) (me_W ad0 ca M0) sz)) (q_Law_map D ad0 ca N0 MZ RZ (va_A (me_W ad0 ca M0) sz)) (me_cN (mN MZ) - me_cN N0) (me_sN (mN MZ) - me_sN N0) (va_A (me_W ad0 ca M0) sz) := by
  refine fg_enterH (fun A => q_Law_map D ad0 ca N0 MZ RZ A) (by decide +kernel) (Nat.le_of_ble_eq_true rfl) ?_
  intro p e s m below meth c ls A hx hb hml hown hts hr hlocks hin hP hK hD hS hA hX hl htab hz hy
  have hz := hz.2
  refine W.widen (k := me_cN N0 - me_cN N0) (n := me_sN N0 - me_sN N0) (Nat.zero_le _) (Nat.zero_le _) ?_
  unfold f_Law_map at h
  have hok : me_ok N0 N0 := me_ok.rf hcl
  obtain ⟨ad, N, hext0, hok, hwf, hP, hD, hN9, had9, hj0, hj5⟩ : ∃ (ad : Nat → Nat → Nat) (N : Nat → Nat), (∀ a b, b < N0 a → ad a b = ad0 a b) ∧ me_ok N0 N ∧ me_wf N M0 ∧ va_P D classes (me_W ad ca M0) s.heap ∧ va_D A (me_W ad ca M0) ∧ N = N0 ∧ ad = ad0 ∧ j0 < N 0 ∧ j5 < N 16 := ⟨ad0, N0, fun _ _ _ => rfl, hok, hwf, hP, hD, rfl, rfl, hj0, hj5⟩
  have hl : lv_has ls 7 [(0, .ref (ad 0 j0)), (1, .int x1), (2, .int x2), (3, .int x3), (4, .int x4), (5, .ref (ad 16 j5))] := by rw [had9]; exact hl
  have hcs : W p l e (rm_Law_map N0) s m [.ref (ad0 0 j0), .int x1, .int x2, .int x3, .int x4, .ref (ad0 16 j5)].toArray below meth c s.heap [] (me_cN N - me_cN N0) (me_sN N - me_sN N0) (MQ below (q_Law_map D ad0 ca N0 MZ RZ A) [.ref (ad0 0 j0), .int x1, .int x2, .int x3, .int x4, .ref (ad0 16 j5)].toArray s (me_cN (mN MZ) - me_cN N0) (me_sN (mN MZ) - me_sN N0) A) (F0 m 0 ls []) := by
    clear had9
    refine lv_aload hx hb d_Law_map_0 (lv_at hl 5 rfl) ?_
    refine lv_iconst (v := 0) hx hb d_Law_map_2 (by decide) ?_
    refine lv_aload_n hx hb d_Law_map_3 rfl (lv_at hl 0 rfl) ?_
    refine lv_iload_n hx hb d_Law_map_4 rfl (lv_at hl 1 rfl) ?_
    refine lv_iload_n hx hb d_Law_map_5 rfl (lv_at hl 2 rfl) ?_
    refine lv_iload_n hx hb d_Law_map_6 rfl (lv_at hl 3 rfl) ?_
    refine lv_iload hx hb d_Law_map_7 (lv_at hl 4 rfl) ?_
    obtain ⟨M1, r2, eM1, h⟩ := b2_ob h
    refine al_theni (M1 := M1) (al_runV (C := "FilterGuard") (As := [.int x1, .int x2, .int x3, .int x4]) (rest := [.int 0, .ref (ad 16 j5)]) ⟨hx, hb, hml, hown, hts⟩ (c_G_map l D ad ca N M0 M1 r2 j0 x1 x2 x3 x4 eM1 hwf ⟨hok.2.2.1, hok.2.2.2.1⟩ hj0 _) rfl (by show fg_nm y_G_map 4; decide +kernel) u_808 u_809 u_810 u_181 u_811 ⟨Nat.le_of_ble_eq_true rfl, Nat.le_of_ble_eq_true rfl⟩ hX hz hK hP hD hwf hS hA hj0 (by decide) rfl rfl rfl hl.1 (Nat.le_of_ble_eq_true rfl) d_Law_map_9 (al_g hok)) hP hD hok hK hS hA (fun ad N H locs hext hNN hwf hok1 heN hq9 hP hD hS => ?_)
    have hext0 := al_ext hext hext0 hok
    have hok := hok1
    have hl : lv_has ls 7 [(0, .ref (ad 0 j0)), (1, .int x1), (2, .int x2), (3, .int x3), (4, .int x4), (5, .ref (ad 16 j5))] := by rw [hext 0 j0 hj0, hext 16 j5 hj5]; exact hl
    refine W.eq (g2 := F0 m 12 ls [.int r2, .int 0, .ref (ad 16 j5)]) (by rw [hext 16 j5 hj5]) ?_
    have hj0 : j0 < N 0 := Nat.lt_of_lt_of_le hj0 (hNN 0)
    have hj5 : j5 < N 16 := Nat.lt_of_lt_of_le hj5 (hNN 16)
    refine lv_i2l (v := r2.toInt64) hx hb d_Law_map_12 rfl ?_
    obtain ⟨g3, h⟩ := gd_ob h
    obtain ⟨M4, eM4, h⟩ := st_ob h
    refine me_last (eM4.trans (by rw [show (0 : Int32).toNatClampNeg = 0 by decide])) hx hb hK hP hD hwf hS hj5 (me_in (i := (0 : Int32)) (k := 0) (by decide) (by decide) g3) d_Law_map_13 (fun H locs hP hD hwf hS => ?_)
    refine lv_goto (tgt := 25) hx hb d_Law_map_14 (by decide) ?_
    refine lv_iconst (v := 0) hx hb d_Law_map_25 (by decide) ?_
    exact al_reti h hx hb hr hlocks hwf hok hext0 hP hK hD hS d_Law_map_26
  rw [hN9] at hcs
  exact hcs
def rmH1_Law_map : Room := { frames := 7, cells := 1, slots := 6, locals := 125 }
abbrev qH1_Law_map (D : va_G) (ad : Nat → Nat → Nat) (ca : Nat → ClassId) (N : Nat → Nat) (MZ : me_M) (A : Nat → Prop) : Array Value → Jvm.State → Outcome → Jvm.State → Prop := va_Qi (fun r (_ : Unit) => r = 1 ∧ me_wf N MZ) (fg_B D A (fun _ => me_W ad ca MZ) (fun _ => [])) A
set_option maxHeartbeats 4000000 in
set_option maxRecDepth 100000 in
theorem cH1_Law_map (l : Launch) (hl9 : l.stackTraces = false) (D : va_G) (ad : Nat → Nat → Nat) (ca : Nat → ClassId) (N : Nat → Nat) (M0 MZ : me_M) (j0 : Nat) (x1 : Int32) (x2 : Int32) (x3 : Int32) (x4 : Int32) (j5 : Nat) (h : fT1_G_map M0 j0 x1 x2 x3 x4 = some MZ) (hwf : me_wf N M0) (hj0 : j0 < N 0) (hj5 : j5 < N 16) (sz : Nat) : Met l y_Law_map (fg_wh y_Law_map method_3_code 7 (some .int) [(0, 14, 17, 13), (0, 14, 21, 15)]) rmH1_Law_map (va_Pc [.ref (ad 0 j0), .int x1, .int x2, .int x3, .int x4, .ref (ad 16 j5)] (fg_PZ D (me_T ca) (me_W ad ca M0) sz)) (qH1_Law_map D ad ca N MZ (va_A (me_W ad ca M0) sz)) rmH1_Law_map.cells rmH1_Law_map.slots (va_A (me_W ad ca M0) sz) := by
  refine fg_enterH (fun A => qH1_Law_map D ad ca N MZ A) (by decide +kernel) (Nat.le_of_ble_eq_true rfl) ?_
  intro p e s m below meth c ls A hx hb hml hown hts hr hlocks hin hP hK hD hS hA hX hl htab hz hy
  have hl : lv_has ls 7 [(0, .ref (ad 0 j0)), (1, .int x1), (2, .int x2), (3, .int x3), (4, .int x4), (5, .ref (ad 16 j5))] := hl
  refine lv_aload hx hb d_Law_map_0 (lv_at hl 5 rfl) ?_
  refine lv_iconst (v := 0) hx hb d_Law_map_2 (by decide) ?_
  refine lv_aload_n hx hb d_Law_map_3 rfl (lv_at hl 0 rfl) ?_
  refine lv_iload_n hx hb d_Law_map_4 rfl (lv_at hl 1 rfl) ?_
  refine lv_iload_n hx hb d_Law_map_5 rfl (lv_at hl 2 rfl) ?_
  refine lv_iload_n hx hb d_Law_map_6 rfl (lv_at hl 3 rfl) ?_
  refine lv_iload hx hb d_Law_map_7 (lv_at hl 4 rfl) ?_
  refine me_thenT (M1 := MZ) (me_runVT (C := "FilterGuard") (As := [.int x1, .int x2, .int x3, .int x4]) (rest := [.int 0, .ref (ad 16 j5)]) ⟨hx, hb, hml, hown, hts⟩ (cT1_G_map l hl9 D ad ca N M0 MZ j0 x1 x2 x3 x4 h hwf hj0 _) rfl (by show fg_nm y_G_map 4; decide +kernel) u_808 u_809 u_810 u_181 u_811 ⟨Nat.le_of_ble_eq_true rfl, Nat.le_of_ble_eq_true rfl⟩ hX hz hy hK hP hD hwf hS hA hj0 (by decide) rfl rfl rfl hl.1 (Nat.le_of_ble_eq_true rfl) d_Law_map_9 ⟨Nat.le_of_ble_eq_true rfl, Nat.le_of_ble_eq_true rfl⟩) hP hD hK hS hA hown hts [(0, 14, 17, 13), (0, 14, 21, 15)] htab 0 17 (fun y hm => absurd hm (by simp)) ⟨0, 14, 13, rfl, by decide, by decide, by decide, u_806⟩ (fun x H locs hw hP hD hS => ?_)
  refine lv_astore (lv' := [(6, .ref x), (0, .ref (ad 0 j0)), (1, .int x1), (2, .int x2), (3, .int x3), (4, .int x4), (5, .ref (ad 16 j5))]) hx hb d_Law_map_17 hl (by decide) rfl (fun ls hl => ?_)
  refine lv_iconst (v := 1) hx hb d_Law_map_19 (by decide) ?_
  exact fg_reti () hx hb hr hlocks ⟨rfl, hw.1⟩ hP (me_K0 hK) hD hS (Nat.le_of_ble_eq_true rfl) (Nat.le_of_ble_eq_true rfl) d_Law_map_20
def rmH2_Law_map : Room := { frames := 7, cells := 1, slots := 6, locals := 125 }
abbrev qH2_Law_map (D : va_G) (ad : Nat → Nat → Nat) (ca : Nat → ClassId) (N : Nat → Nat) (MZ : me_M) (A : Nat → Prop) : Array Value → Jvm.State → Outcome → Jvm.State → Prop := va_Qi (fun r (_ : Unit) => r = 2 ∧ me_wf N MZ) (fg_B D A (fun _ => me_W ad ca MZ) (fun _ => [])) A
set_option maxHeartbeats 4000000 in
set_option maxRecDepth 100000 in
theorem cH2_Law_map (l : Launch) (hl9 : l.stackTraces = false) (D : va_G) (ad : Nat → Nat → Nat) (ca : Nat → ClassId) (N : Nat → Nat) (M0 MZ : me_M) (j0 : Nat) (x1 : Int32) (x2 : Int32) (x3 : Int32) (x4 : Int32) (j5 : Nat) (h : fT2_G_map M0 j0 x1 x2 x3 x4 = some MZ) (hwf : me_wf N M0) (hj0 : j0 < N 0) (hj5 : j5 < N 16) (sz : Nat) : Met l y_Law_map (fg_wh y_Law_map method_3_code 7 (some .int) [(0, 14, 17, 13), (0, 14, 21, 15)]) rmH2_Law_map (va_Pc [.ref (ad 0 j0), .int x1, .int x2, .int x3, .int x4, .ref (ad 16 j5)] (fg_PZ D (me_T ca) (me_W ad ca M0) sz)) (qH2_Law_map D ad ca N MZ (va_A (me_W ad ca M0) sz)) rmH2_Law_map.cells rmH2_Law_map.slots (va_A (me_W ad ca M0) sz) := by
  refine fg_enterH (fun A => qH2_Law_map D ad ca N MZ A) (by decide +kernel) (Nat.le_of_ble_eq_true rfl) ?_
  intro p e s m below meth c ls A hx hb hml hown hts hr hlocks hin hP hK hD hS hA hX hl htab hz hy
  have hl : lv_has ls 7 [(0, .ref (ad 0 j0)), (1, .int x1), (2, .int x2), (3, .int x3), (4, .int x4), (5, .ref (ad 16 j5))] := hl
  refine lv_aload hx hb d_Law_map_0 (lv_at hl 5 rfl) ?_
  refine lv_iconst (v := 0) hx hb d_Law_map_2 (by decide) ?_
  refine lv_aload_n hx hb d_Law_map_3 rfl (lv_at hl 0 rfl) ?_
  refine lv_iload_n hx hb d_Law_map_4 rfl (lv_at hl 1 rfl) ?_
  refine lv_iload_n hx hb d_Law_map_5 rfl (lv_at hl 2 rfl) ?_
  refine lv_iload_n hx hb d_Law_map_6 rfl (lv_at hl 3 rfl) ?_
  refine lv_iload hx hb d_Law_map_7 (lv_at hl 4 rfl) ?_
  refine me_thenT (M1 := MZ) (me_runVT (C := "FilterGuard") (As := [.int x1, .int x2, .int x3, .int x4]) (rest := [.int 0, .ref (ad 16 j5)]) ⟨hx, hb, hml, hown, hts⟩ (cT2_G_map l hl9 D ad ca N M0 MZ j0 x1 x2 x3 x4 h hwf hj0 _) rfl (by show fg_nm y_G_map 4; decide +kernel) u_808 u_809 u_810 u_181 u_811 ⟨Nat.le_of_ble_eq_true rfl, Nat.le_of_ble_eq_true rfl⟩ hX hz hy hK hP hD hwf hS hA hj0 (by decide) rfl rfl rfl hl.1 (Nat.le_of_ble_eq_true rfl) d_Law_map_9 ⟨Nat.le_of_ble_eq_true rfl, Nat.le_of_ble_eq_true rfl⟩) hP hD hK hS hA hown hts [(0, 14, 17, 13), (0, 14, 21, 15)] htab 1 21 (fun y hm => by rw [show List.take 1 [(0, 14, 17, 13), (0, 14, 21, 15)] = [(0, 14, 17, 13)] from rfl, List.mem_singleton] at hm; subst hm; exact ⟨⟨by decide, by decide⟩, by decide, _, u_806, hy.2⟩) ⟨0, 14, 15, rfl, by decide, by decide, by decide, u_807⟩ (fun x H locs hw hP hD hS => ?_)
  refine lv_astore (lv' := [(6, .ref x), (0, .ref (ad 0 j0)), (1, .int x1), (2, .int x2), (3, .int x3), (4, .int x4), (5, .ref (ad 16 j5))]) hx hb d_Law_map_21 hl (by decide) rfl (fun ls hl => ?_)
  refine lv_iconst (v := 2) hx hb d_Law_map_23 (by decide) ?_
  exact fg_reti () hx hb hr hlocks ⟨rfl, hw.1⟩ hP (me_K0 hK) hD hS (Nat.le_of_ble_eq_true rfl) (Nat.le_of_ble_eq_true rfl) d_Law_map_24
theorem d_Law_program_0 : decode method_4_code 0 = .ok (.aload_n 3, 1) := by decide +kernel
theorem d_Law_program_1 : decode method_4_code 1 = .ok (.iconst 0, 1) := by decide +kernel
theorem d_Law_program_2 : decode method_4_code 2 = .ok (.aload_n 0, 1) := by decide +kernel
theorem d_Law_program_3 : decode method_4_code 3 = .ok (.iload_n 1, 1) := by decide +kernel
theorem d_Law_program_4 : decode method_4_code 4 = .ok (.iload_n 2, 1) := by decide +kernel
theorem d_Law_program_5 : decode method_4_code 5 = .ok (.invokevirtual 17, 3) := by decide +kernel
theorem u_936 : Cond.methodLink "FilterGuardLaw" 17 ⟨"FilterGuard", "program", "(II)I"⟩ ∈ fg_g := fg_in (List.mem_of_getElem? (i := 936) (by decide +kernel)) rfl
theorem u_939 : Cond.code ⟨"FilterGuard", "program", "(II)I"⟩ prog_1_method_5_code 4 (some .int) ∈ fg_g := fg_in (List.mem_of_getElem? (i := 939) (by decide +kernel)) rfl
theorem u_937 : Cond.instanceMethod ⟨"FilterGuard", "program", "(II)I"⟩ ∈ fg_g := fg_in (List.mem_of_getElem? (i := 937) (by decide +kernel)) rfl
theorem u_938 : Cond.selects "FilterGuard" ⟨"FilterGuard", "program", "(II)I"⟩ ⟨"FilterGuard", "program", "(II)I"⟩ ∈ fg_g := fg_in (List.mem_of_getElem? (i := 938) (by decide +kernel)) rfl
theorem d_Law_program_8 : decode method_4_code 8 = .ok (.i2l, 1) := by decide +kernel
theorem d_Law_program_9 : decode method_4_code 9 = .ok (.lastore, 1) := by decide +kernel
theorem d_Law_program_10 : decode method_4_code 10 = .ok (.goto 7, 3) := by decide +kernel
theorem d_Law_program_17 : decode method_4_code 17 = .ok (.iconst 0, 1) := by decide +kernel
theorem d_Law_program_18 : decode method_4_code 18 = .ok (.ireturn, 1) := by decide +kernel
abbrev y_Law_program : MethodName := ⟨"FilterGuardLaw", "program", "(LFilterGuard;II[J)I"⟩
theorem d_Law_program_13 : decode method_4_code 13 = .ok (.astore 4, 2) := by decide +kernel
theorem d_Law_program_15 : decode method_4_code 15 = .ok (.iconst 1, 1) := by decide +kernel
theorem d_Law_program_16 : decode method_4_code 16 = .ok (.ireturn, 1) := by decide +kernel
def rm_Law_program (N0 : Nat → Nat) : Room := { frames := 10, cells := me_CL - me_cN N0, slots := me_SL - me_sN N0, locals := 243 }
abbrev q_Law_program (D : va_G) (ad0 : Nat → Nat → Nat) (ca : Nat → ClassId) (N0 : Nat → Nat) (MZ : me_M) (RZ : Int32) (A : Nat → Prop) : Array Value → Jvm.State → Outcome → Jvm.State → Prop := va_Qi (fun r (u : Nat → Nat → Nat) => r = RZ ∧ al_P ad0 N0 MZ u ∧ True) (fg_B D A (fun u => me_W u ca MZ) (fun _ => [])) A
set_option maxHeartbeats 4000000 in
set_option maxRecDepth 100000 in
theorem c_Law_program (l : Launch) (D : va_G) (ad0 : Nat → Nat → Nat) (ca : Nat → ClassId) (N0 : Nat → Nat) (M0 MZ : me_M) (RZ : Int32) (j0 : Nat) (x1 : Int32) (x2 : Int32) (j3 : Nat) (h : f_Law_program M0 j0 x1 x2 j3 = (some (MZ, RZ))) (hwf : me_wf N0 M0) (hcl : me_cN N0 ≤ me_CL ∧ me_sN N0 ≤ me_SL) (hj0 : j0 < N0 0) (hj3 : j3 < N0 16) (sz : Nat) : Met l y_Law_program (fg_wh y_Law_program method_4_code 5 (some .int) [(0, 10, 13, 13)]) (rm_Law_program N0) (va_Pc [.ref (ad0 0 j0), .int x1, .int x2, .ref (ad0 16 j3)] (fg_PZ D (me_T ca) (me_W ad0 ca M0) sz)) (q_Law_program D ad0 ca N0 MZ RZ (va_A (me_W ad0 ca M0) sz)) (me_cN (mN MZ) - me_cN N0) (me_sN (mN MZ) - me_sN N0) (va_A (me_W ad0 ca M0) sz) := by
  refine fg_enterH (fun A => q_Law_program D ad0 ca N0 MZ RZ A) (by decide +kernel) (Nat.le_of_ble_eq_true rfl) ?_
  intro p e s m below meth c ls A hx hb hml hown hts hr hlocks hin hP hK hD hS hA hX hl htab hz hy
  have hz := hz.2
  refine W.widen (k := me_cN N0 - me_cN N0) (n := me_sN N0 - me_sN N0) (Nat.zero_le _) (Nat.zero_le _) ?_
  unfold f_Law_program at h
  have hok : me_ok N0 N0 := me_ok.rf hcl
  obtain ⟨ad, N, hext0, hok, hwf, hP, hD, hN9, had9, hj0, hj3⟩ : ∃ (ad : Nat → Nat → Nat) (N : Nat → Nat), (∀ a b, b < N0 a → ad a b = ad0 a b) ∧ me_ok N0 N ∧ me_wf N M0 ∧ va_P D classes (me_W ad ca M0) s.heap ∧ va_D A (me_W ad ca M0) ∧ N = N0 ∧ ad = ad0 ∧ j0 < N 0 ∧ j3 < N 16 := ⟨ad0, N0, fun _ _ _ => rfl, hok, hwf, hP, hD, rfl, rfl, hj0, hj3⟩
  have hl : lv_has ls 5 [(0, .ref (ad 0 j0)), (1, .int x1), (2, .int x2), (3, .ref (ad 16 j3))] := by rw [had9]; exact hl
  have hcs : W p l e (rm_Law_program N0) s m [.ref (ad0 0 j0), .int x1, .int x2, .ref (ad0 16 j3)].toArray below meth c s.heap [] (me_cN N - me_cN N0) (me_sN N - me_sN N0) (MQ below (q_Law_program D ad0 ca N0 MZ RZ A) [.ref (ad0 0 j0), .int x1, .int x2, .ref (ad0 16 j3)].toArray s (me_cN (mN MZ) - me_cN N0) (me_sN (mN MZ) - me_sN N0) A) (F0 m 0 ls []) := by
    clear had9
    refine lv_aload_n hx hb d_Law_program_0 rfl (lv_at hl 3 rfl) ?_
    refine lv_iconst (v := 0) hx hb d_Law_program_1 (by decide) ?_
    refine lv_aload_n hx hb d_Law_program_2 rfl (lv_at hl 0 rfl) ?_
    refine lv_iload_n hx hb d_Law_program_3 rfl (lv_at hl 1 rfl) ?_
    refine lv_iload_n hx hb d_Law_program_4 rfl (lv_at hl 2 rfl) ?_
    obtain ⟨M1, r2, eM1, h⟩ := b2_ob h
    refine al_theni (M1 := M1) (al_runV (C := "FilterGuard") (As := [.int x1, .int x2]) (rest := [.int 0, .ref (ad 16 j3)]) ⟨hx, hb, hml, hown, hts⟩ (c_G_program l D ad ca N M0 M1 r2 j0 x1 x2 eM1 hwf ⟨hok.2.2.1, hok.2.2.2.1⟩ hj0 _) rfl (by show fg_nm y_G_program 2; decide +kernel) u_936 u_937 u_938 u_181 u_939 ⟨Nat.le_of_ble_eq_true rfl, Nat.le_of_ble_eq_true rfl⟩ hX hz hK hP hD hwf hS hA hj0 (by decide) rfl rfl rfl hl.1 (Nat.le_of_ble_eq_true rfl) d_Law_program_5 (al_g hok)) hP hD hok hK hS hA (fun ad N H locs hext hNN hwf hok1 heN hq9 hP hD hS => ?_)
    have hext0 := al_ext hext hext0 hok
    have hok := hok1
    have hl : lv_has ls 5 [(0, .ref (ad 0 j0)), (1, .int x1), (2, .int x2), (3, .ref (ad 16 j3))] := by rw [hext 0 j0 hj0, hext 16 j3 hj3]; exact hl
    refine W.eq (g2 := F0 m 8 ls [.int r2, .int 0, .ref (ad 16 j3)]) (by rw [hext 16 j3 hj3]) ?_
    have hj0 : j0 < N 0 := Nat.lt_of_lt_of_le hj0 (hNN 0)
    have hj3 : j3 < N 16 := Nat.lt_of_lt_of_le hj3 (hNN 16)
    refine lv_i2l (v := r2.toInt64) hx hb d_Law_program_8 rfl ?_
    obtain ⟨g3, h⟩ := gd_ob h
    obtain ⟨M4, eM4, h⟩ := st_ob h
    refine me_last (eM4.trans (by rw [show (0 : Int32).toNatClampNeg = 0 by decide])) hx hb hK hP hD hwf hS hj3 (me_in (i := (0 : Int32)) (k := 0) (by decide) (by decide) g3) d_Law_program_9 (fun H locs hP hD hwf hS => ?_)
    refine lv_goto (tgt := 17) hx hb d_Law_program_10 (by decide) ?_
    refine lv_iconst (v := 0) hx hb d_Law_program_17 (by decide) ?_
    exact al_reti h hx hb hr hlocks hwf hok hext0 hP hK hD hS d_Law_program_18
  rw [hN9] at hcs
  exact hcs
def rmH1_Law_program : Room := { frames := 7, cells := 1, slots := 6, locals := 140 }
abbrev qH1_Law_program (D : va_G) (ad : Nat → Nat → Nat) (ca : Nat → ClassId) (N : Nat → Nat) (MZ : me_M) (A : Nat → Prop) : Array Value → Jvm.State → Outcome → Jvm.State → Prop := va_Qi (fun r (_ : Unit) => r = 1 ∧ me_wf N MZ) (fg_B D A (fun _ => me_W ad ca MZ) (fun _ => [])) A
set_option maxHeartbeats 4000000 in
set_option maxRecDepth 100000 in
theorem cH1_Law_program (l : Launch) (hl9 : l.stackTraces = false) (D : va_G) (ad : Nat → Nat → Nat) (ca : Nat → ClassId) (N : Nat → Nat) (M0 MZ : me_M) (j0 : Nat) (x1 : Int32) (x2 : Int32) (j3 : Nat) (h : fT1_G_program M0 j0 x1 x2 = some MZ) (hwf : me_wf N M0) (hj0 : j0 < N 0) (hj3 : j3 < N 16) (sz : Nat) : Met l y_Law_program (fg_wh y_Law_program method_4_code 5 (some .int) [(0, 10, 13, 13)]) rmH1_Law_program (va_Pc [.ref (ad 0 j0), .int x1, .int x2, .ref (ad 16 j3)] (fg_PZ D (me_T ca) (me_W ad ca M0) sz)) (qH1_Law_program D ad ca N MZ (va_A (me_W ad ca M0) sz)) rmH1_Law_program.cells rmH1_Law_program.slots (va_A (me_W ad ca M0) sz) := by
  refine fg_enterH (fun A => qH1_Law_program D ad ca N MZ A) (by decide +kernel) (Nat.le_of_ble_eq_true rfl) ?_
  intro p e s m below meth c ls A hx hb hml hown hts hr hlocks hin hP hK hD hS hA hX hl htab hz hy
  have hl : lv_has ls 5 [(0, .ref (ad 0 j0)), (1, .int x1), (2, .int x2), (3, .ref (ad 16 j3))] := hl
  refine lv_aload_n hx hb d_Law_program_0 rfl (lv_at hl 3 rfl) ?_
  refine lv_iconst (v := 0) hx hb d_Law_program_1 (by decide) ?_
  refine lv_aload_n hx hb d_Law_program_2 rfl (lv_at hl 0 rfl) ?_
  refine lv_iload_n hx hb d_Law_program_3 rfl (lv_at hl 1 rfl) ?_
  refine lv_iload_n hx hb d_Law_program_4 rfl (lv_at hl 2 rfl) ?_
  refine me_thenT (M1 := MZ) (me_runVT (C := "FilterGuard") (As := [.int x1, .int x2]) (rest := [.int 0, .ref (ad 16 j3)]) ⟨hx, hb, hml, hown, hts⟩ (cT1_G_program l hl9 D ad ca N M0 MZ j0 x1 x2 h hwf hj0 _) rfl (by show fg_nm y_G_program 2; decide +kernel) u_936 u_937 u_938 u_181 u_939 ⟨Nat.le_of_ble_eq_true rfl, Nat.le_of_ble_eq_true rfl⟩ hX hz hy hK hP hD hwf hS hA hj0 (by decide) rfl rfl rfl hl.1 (Nat.le_of_ble_eq_true rfl) d_Law_program_5 ⟨Nat.le_of_ble_eq_true rfl, Nat.le_of_ble_eq_true rfl⟩) hP hD hK hS hA hown hts [(0, 10, 13, 13)] htab 0 13 (fun y hm => absurd hm (by simp)) ⟨0, 10, 13, rfl, by decide, by decide, by decide, u_806⟩ (fun x H locs hw hP hD hS => ?_)
  refine lv_astore (lv' := [(4, .ref x), (0, .ref (ad 0 j0)), (1, .int x1), (2, .int x2), (3, .ref (ad 16 j3))]) hx hb d_Law_program_13 hl (by decide) rfl (fun ls hl => ?_)
  refine lv_iconst (v := 1) hx hb d_Law_program_15 (by decide) ?_
  exact fg_reti () hx hb hr hlocks ⟨rfl, hw.1⟩ hP (me_K0 hK) hD hS (Nat.le_of_ble_eq_true rfl) (Nat.le_of_ble_eq_true rfl) d_Law_program_16
theorem d_Law_fact_0 : decode method_5_code 0 = .ok (.aload_n 3, 1) := by decide +kernel
theorem d_Law_fact_1 : decode method_5_code 1 = .ok (.iconst 0, 1) := by decide +kernel
theorem d_Law_fact_2 : decode method_5_code 2 = .ok (.aload_n 0, 1) := by decide +kernel
theorem d_Law_fact_3 : decode method_5_code 3 = .ok (.iload_n 1, 1) := by decide +kernel
theorem d_Law_fact_4 : decode method_5_code 4 = .ok (.iload_n 2, 1) := by decide +kernel
theorem d_Law_fact_5 : decode method_5_code 5 = .ok (.invokevirtual 21, 3) := by decide +kernel
theorem u_1482 : Cond.methodLink "FilterGuardLaw" 21 ⟨"FilterGuard", "fact", "(II)J"⟩ ∈ fg_g := fg_in (List.mem_of_getElem? (i := 1482) (by decide +kernel)) rfl
theorem u_1485 : Cond.code ⟨"FilterGuard", "fact", "(II)J"⟩ prog_1_method_7_code 3 (some .long) ∈ fg_g := fg_in (List.mem_of_getElem? (i := 1485) (by decide +kernel)) rfl
theorem u_1483 : Cond.instanceMethod ⟨"FilterGuard", "fact", "(II)J"⟩ ∈ fg_g := fg_in (List.mem_of_getElem? (i := 1483) (by decide +kernel)) rfl
theorem u_1484 : Cond.selects "FilterGuard" ⟨"FilterGuard", "fact", "(II)J"⟩ ⟨"FilterGuard", "fact", "(II)J"⟩ ∈ fg_g := fg_in (List.mem_of_getElem? (i := 1484) (by decide +kernel)) rfl
theorem d_Law_fact_8 : decode method_5_code 8 = .ok (.lastore, 1) := by decide +kernel
theorem d_Law_fact_9 : decode method_5_code 9 = .ok (.goto 7, 3) := by decide +kernel
theorem d_Law_fact_16 : decode method_5_code 16 = .ok (.iconst 0, 1) := by decide +kernel
theorem d_Law_fact_17 : decode method_5_code 17 = .ok (.ireturn, 1) := by decide +kernel
abbrev y_Law_fact : MethodName := ⟨"FilterGuardLaw", "fact", "(LFilterGuard;II[J)I"⟩
theorem u_1481 : Cond.classLink "FilterGuardLaw" 25 "java/lang/IndexOutOfBoundsException" ∈ fg_g := fg_in (List.mem_of_getElem? (i := 1481) (by decide +kernel)) rfl
theorem d_Law_fact_12 : decode method_5_code 12 = .ok (.astore 4, 2) := by decide +kernel
theorem d_Law_fact_14 : decode method_5_code 14 = .ok (.iconst 1, 1) := by decide +kernel
theorem d_Law_fact_15 : decode method_5_code 15 = .ok (.ireturn, 1) := by decide +kernel
def rm_Law_fact : Room := { frames := 3, cells := 0, slots := 0, locals := 65 }
abbrev q_Law_fact (D : va_G) (ad : Nat → Nat → Nat) (ca : Nat → ClassId) (N : Nat → Nat) (M0 MZ : me_M) (RZ : Int32) (A : Nat → Prop) : Array Value → Jvm.State → Outcome → Jvm.State → Prop := va_Qi (fun r (_ : Unit) => r = RZ ∧ me_wf N MZ ∧ me_kp M0 MZ) (fg_B D A (fun _ => me_W ad ca MZ) (fun _ => [])) A
set_option maxHeartbeats 4000000 in
set_option maxRecDepth 100000 in
theorem c_Law_fact (l : Launch) (D : va_G) (ad : Nat → Nat → Nat) (ca : Nat → ClassId) (N : Nat → Nat) (M0 MZ : me_M) (RZ : Int32) (j0 : Nat) (x1 : Int32) (x2 : Int32) (j3 : Nat) (h : f_Law_fact M0 j0 x1 x2 j3 = (some (MZ, RZ))) (hwf : me_wf N M0) (hj0 : j0 < N 0) (hj3 : j3 < N 16) (sz : Nat) : Met l y_Law_fact (fg_wh y_Law_fact method_5_code 5 (some .int) [(0, 9, 12, 25)]) rm_Law_fact (va_Pc [.ref (ad 0 j0), .int x1, .int x2, .ref (ad 16 j3)] (fg_PZ D (me_T ca) (me_W ad ca M0) sz)) (q_Law_fact D ad ca N M0 MZ RZ (va_A (me_W ad ca M0) sz)) rm_Law_fact.cells rm_Law_fact.slots (va_A (me_W ad ca M0) sz) := by
  refine fg_enterH (fun A => q_Law_fact D ad ca N M0 MZ RZ A) (by decide +kernel) (Nat.le_of_ble_eq_true rfl) ?_
  intro p e s m below meth c ls A hx hb hml hown hts hr hlocks hin hP hK hD hS hA hX hl htab hz hy
  have hz := hz.2
  have hl : lv_has ls 5 [(0, .ref (ad 0 j0)), (1, .int x1), (2, .int x2), (3, .ref (ad 16 j3))] := hl
  unfold f_Law_fact at h
  have hkp : me_kp M0 M0 := me_kp.rf
  have hkb := hkp
  refine lv_aload_n hx hb d_Law_fact_0 rfl (lv_at hl 3 rfl) ?_
  refine lv_iconst (v := 0) hx hb d_Law_fact_1 (by decide) ?_
  refine lv_aload_n hx hb d_Law_fact_2 rfl (lv_at hl 0 rfl) ?_
  refine lv_iload_n hx hb d_Law_fact_3 rfl (lv_at hl 1 rfl) ?_
  refine lv_iload_n hx hb d_Law_fact_4 rfl (lv_at hl 2 rfl) ?_
  obtain ⟨M1, r2, eM1, h⟩ := b2_ob h
  refine me_thenl0 (M1 := M1) (me_runV (C := "FilterGuard") (As := [.int x1, .int x2]) (rest := [.int 0, .ref (ad 16 j3)]) ⟨hx, hb, hml, hown, hts⟩ (c_G_fact l D ad ca N M0 M1 r2 j0 x1 x2 eM1 hwf hj0 _) rfl (by show fg_nm y_G_fact 2; decide +kernel) u_1482 u_1483 u_1484 u_181 u_1485 ⟨Nat.le_of_ble_eq_true rfl, Nat.le_of_ble_eq_true rfl⟩ hX hz hK hP hD hwf hS hA hj0 (by decide) rfl rfl rfl hl.1 (Nat.le_of_ble_eq_true rfl) d_Law_fact_5 ⟨Nat.le_of_ble_eq_true rfl, Nat.le_of_ble_eq_true rfl⟩) hP hD hK hS hA rfl rfl (fun H locs hw hP hD hS => ?_)
  obtain ⟨hwf, hk9⟩ := hw
  have hkp := hkp.tr hk9
  obtain ⟨g3, h⟩ := gd_ob h
  obtain ⟨M4, eM4, h⟩ := st_ob h
  refine me_last (eM4.trans (by rw [show (0 : Int32).toNatClampNeg = 0 by decide])) hx hb hK hP hD hwf hS hj3 (me_in (i := (0 : Int32)) (k := 0) (by decide) (by decide) (kp_c hkb.z hkp.z g3)) d_Law_fact_8 (fun H locs hP hD hwf hS => ?_)
  have hkp := kp_L eM4 hkp
  refine lv_goto (tgt := 16) hx hb d_Law_fact_9 (by decide) ?_
  refine lv_iconst (v := 0) hx hb d_Law_fact_16 (by decide) ?_
  exact me_reti (me_kp M0) h hx hb hr hlocks hwf hkp hP hK hD hS d_Law_fact_17
def rmH3_Law_fact : Room := { frames := 7, cells := 1, slots := 6, locals := 122 }
abbrev qH3_Law_fact (D : va_G) (ad : Nat → Nat → Nat) (ca : Nat → ClassId) (N : Nat → Nat) (MZ : me_M) (A : Nat → Prop) : Array Value → Jvm.State → Outcome → Jvm.State → Prop := va_Qi (fun r (_ : Unit) => r = 1 ∧ me_wf N MZ) (fg_B D A (fun _ => me_W ad ca MZ) (fun _ => [])) A
set_option maxHeartbeats 4000000 in
set_option maxRecDepth 100000 in
theorem cH3_Law_fact (l : Launch) (hl9 : l.stackTraces = false) (D : va_G) (ad : Nat → Nat → Nat) (ca : Nat → ClassId) (N : Nat → Nat) (M0 MZ : me_M) (j0 : Nat) (x1 : Int32) (x2 : Int32) (j3 : Nat) (h : fT3_G_fact M0 j0 x1 x2 = some MZ) (hwf : me_wf N M0) (hj0 : j0 < N 0) (hj3 : j3 < N 16) (sz : Nat) : Met l y_Law_fact (fg_wh y_Law_fact method_5_code 5 (some .int) [(0, 9, 12, 25)]) rmH3_Law_fact (va_Pc [.ref (ad 0 j0), .int x1, .int x2, .ref (ad 16 j3)] (fg_PZ D (me_T ca) (me_W ad ca M0) sz)) (qH3_Law_fact D ad ca N MZ (va_A (me_W ad ca M0) sz)) rmH3_Law_fact.cells rmH3_Law_fact.slots (va_A (me_W ad ca M0) sz) := by
  refine fg_enterH (fun A => qH3_Law_fact D ad ca N MZ A) (by decide +kernel) (Nat.le_of_ble_eq_true rfl) ?_
  intro p e s m below meth c ls A hx hb hml hown hts hr hlocks hin hP hK hD hS hA hX hl htab hz hy
  have hl : lv_has ls 5 [(0, .ref (ad 0 j0)), (1, .int x1), (2, .int x2), (3, .ref (ad 16 j3))] := hl
  refine lv_aload_n hx hb d_Law_fact_0 rfl (lv_at hl 3 rfl) ?_
  refine lv_iconst (v := 0) hx hb d_Law_fact_1 (by decide) ?_
  refine lv_aload_n hx hb d_Law_fact_2 rfl (lv_at hl 0 rfl) ?_
  refine lv_iload_n hx hb d_Law_fact_3 rfl (lv_at hl 1 rfl) ?_
  refine lv_iload_n hx hb d_Law_fact_4 rfl (lv_at hl 2 rfl) ?_
  refine me_thenT (M1 := MZ) (me_runVT (C := "FilterGuard") (As := [.int x1, .int x2]) (rest := [.int 0, .ref (ad 16 j3)]) ⟨hx, hb, hml, hown, hts⟩ (cT3_G_fact l hl9 D ad ca N M0 MZ j0 x1 x2 h hwf hj0 _) rfl (by show fg_nm y_G_fact 2; decide +kernel) u_1482 u_1483 u_1484 u_181 u_1485 ⟨Nat.le_of_ble_eq_true rfl, Nat.le_of_ble_eq_true rfl⟩ hX hz hy hK hP hD hwf hS hA hj0 (by decide) rfl rfl rfl hl.1 (Nat.le_of_ble_eq_true rfl) d_Law_fact_5 ⟨Nat.le_of_ble_eq_true rfl, Nat.le_of_ble_eq_true rfl⟩) hP hD hK hS hA hown hts [(0, 9, 12, 25)] htab 0 12 (fun y hm => absurd hm (by simp)) ⟨0, 9, 25, rfl, by decide, by decide, by decide, u_1481⟩ (fun x H locs hw hP hD hS => ?_)
  refine lv_astore (lv' := [(4, .ref x), (0, .ref (ad 0 j0)), (1, .int x1), (2, .int x2), (3, .ref (ad 16 j3))]) hx hb d_Law_fact_12 hl (by decide) rfl (fun ls hl => ?_)
  refine lv_iconst (v := 1) hx hb d_Law_fact_14 (by decide) ?_
  exact fg_reti () hx hb hr hlocks ⟨rfl, hw.1⟩ hP (me_K0 hK) hD hS (Nat.le_of_ble_eq_true rfl) (Nat.le_of_ble_eq_true rfl) d_Law_fact_15
theorem d_Law_code_0 : decode method_6_code 0 = .ok (.aload_n 3, 1) := by decide +kernel
theorem d_Law_code_1 : decode method_6_code 1 = .ok (.iconst 0, 1) := by decide +kernel
theorem d_Law_code_2 : decode method_6_code 2 = .ok (.aload_n 0, 1) := by decide +kernel
theorem d_Law_code_3 : decode method_6_code 3 = .ok (.iload_n 1, 1) := by decide +kernel
theorem d_Law_code_4 : decode method_6_code 4 = .ok (.iload_n 2, 1) := by decide +kernel
theorem d_Law_code_5 : decode method_6_code 5 = .ok (.invokevirtual 27, 3) := by decide +kernel
theorem u_1509 : Cond.methodLink "FilterGuardLaw" 27 ⟨"FilterGuard", "code", "(IZ)J"⟩ ∈ fg_g := fg_in (List.mem_of_getElem? (i := 1509) (by decide +kernel)) rfl
theorem u_1512 : Cond.code ⟨"FilterGuard", "code", "(IZ)J"⟩ prog_1_method_8_code 4 (some .long) ∈ fg_g := fg_in (List.mem_of_getElem? (i := 1512) (by decide +kernel)) rfl
theorem u_1510 : Cond.instanceMethod ⟨"FilterGuard", "code", "(IZ)J"⟩ ∈ fg_g := fg_in (List.mem_of_getElem? (i := 1510) (by decide +kernel)) rfl
theorem u_1511 : Cond.selects "FilterGuard" ⟨"FilterGuard", "code", "(IZ)J"⟩ ⟨"FilterGuard", "code", "(IZ)J"⟩ ∈ fg_g := fg_in (List.mem_of_getElem? (i := 1511) (by decide +kernel)) rfl
theorem d_Law_code_8 : decode method_6_code 8 = .ok (.lastore, 1) := by decide +kernel
theorem d_Law_code_9 : decode method_6_code 9 = .ok (.goto 7, 3) := by decide +kernel
theorem d_Law_code_16 : decode method_6_code 16 = .ok (.iconst 0, 1) := by decide +kernel
theorem d_Law_code_17 : decode method_6_code 17 = .ok (.ireturn, 1) := by decide +kernel
abbrev y_Law_code : MethodName := ⟨"FilterGuardLaw", "code", "(LFilterGuard;IZ[J)I"⟩
theorem d_Law_code_12 : decode method_6_code 12 = .ok (.astore 4, 2) := by decide +kernel
theorem d_Law_code_14 : decode method_6_code 14 = .ok (.iconst 1, 1) := by decide +kernel
theorem d_Law_code_15 : decode method_6_code 15 = .ok (.ireturn, 1) := by decide +kernel
def rm_Law_code : Room := { frames := 2, cells := 0, slots := 0, locals := 43 }
abbrev q_Law_code (D : va_G) (ad : Nat → Nat → Nat) (ca : Nat → ClassId) (N : Nat → Nat) (M0 MZ : me_M) (RZ : Int32) (A : Nat → Prop) : Array Value → Jvm.State → Outcome → Jvm.State → Prop := va_Qi (fun r (_ : Unit) => r = RZ ∧ me_wf N MZ ∧ me_kp M0 MZ) (fg_B D A (fun _ => me_W ad ca MZ) (fun _ => [])) A
set_option maxHeartbeats 4000000 in
set_option maxRecDepth 100000 in
theorem c_Law_code (l : Launch) (D : va_G) (ad : Nat → Nat → Nat) (ca : Nat → ClassId) (N : Nat → Nat) (M0 MZ : me_M) (RZ : Int32) (j0 : Nat) (x1 : Int32) (x2 : Int32) (j3 : Nat) (h : f_Law_code M0 j0 x1 x2 j3 = (some (MZ, RZ))) (hwf : me_wf N M0) (hj0 : j0 < N 0) (zx2 : x2 = 1 ∨ x2 = 0) (hj3 : j3 < N 16) (sz : Nat) : Met l y_Law_code (fg_wh y_Law_code method_6_code 5 (some .int) [(0, 9, 12, 25)]) rm_Law_code (va_Pc [.ref (ad 0 j0), .int x1, .int x2, .ref (ad 16 j3)] (fg_PZ D (me_T ca) (me_W ad ca M0) sz)) (q_Law_code D ad ca N M0 MZ RZ (va_A (me_W ad ca M0) sz)) rm_Law_code.cells rm_Law_code.slots (va_A (me_W ad ca M0) sz) := by
  refine fg_enterH (fun A => q_Law_code D ad ca N M0 MZ RZ A) (by decide +kernel) (Nat.le_of_ble_eq_true rfl) ?_
  intro p e s m below meth c ls A hx hb hml hown hts hr hlocks hin hP hK hD hS hA hX hl htab hz hy
  have hz := hz.2
  have hl : lv_has ls 5 [(0, .ref (ad 0 j0)), (1, .int x1), (2, .int x2), (3, .ref (ad 16 j3))] := hl
  unfold f_Law_code at h
  have hkp : me_kp M0 M0 := me_kp.rf
  have hkb := hkp
  refine lv_aload_n hx hb d_Law_code_0 rfl (lv_at hl 3 rfl) ?_
  refine lv_iconst (v := 0) hx hb d_Law_code_1 (by decide) ?_
  refine lv_aload_n hx hb d_Law_code_2 rfl (lv_at hl 0 rfl) ?_
  refine lv_iload_n hx hb d_Law_code_3 rfl (lv_at hl 1 rfl) ?_
  refine lv_iload_n hx hb d_Law_code_4 rfl (lv_at hl 2 rfl) ?_
  obtain ⟨M1, r2, eM1, h⟩ := b2_ob h
  refine me_thenl0 (M1 := M1) (me_runV (C := "FilterGuard") (As := [.int x1, .int x2]) (rest := [.int 0, .ref (ad 16 j3)]) ⟨hx, hb, hml, hown, hts⟩ (c_G_code l D ad ca N M0 M1 r2 j0 x1 x2 eM1 hwf hj0 zx2 _) rfl (by show fg_nm y_G_code 2; decide +kernel) u_1509 u_1510 u_1511 u_181 u_1512 ⟨Nat.le_of_ble_eq_true rfl, Nat.le_of_ble_eq_true rfl⟩ hX hz hK hP hD hwf hS hA hj0 (by decide) rfl rfl rfl hl.1 (Nat.le_of_ble_eq_true rfl) d_Law_code_5 ⟨Nat.le_of_ble_eq_true rfl, Nat.le_of_ble_eq_true rfl⟩) hP hD hK hS hA rfl rfl (fun H locs hw hP hD hS => ?_)
  obtain ⟨hwf, hk9⟩ := hw
  have hkp := hkp.tr hk9
  obtain ⟨g3, h⟩ := gd_ob h
  obtain ⟨M4, eM4, h⟩ := st_ob h
  refine me_last (eM4.trans (by rw [show (0 : Int32).toNatClampNeg = 0 by decide])) hx hb hK hP hD hwf hS hj3 (me_in (i := (0 : Int32)) (k := 0) (by decide) (by decide) (kp_c hkb.z hkp.z g3)) d_Law_code_8 (fun H locs hP hD hwf hS => ?_)
  have hkp := kp_L eM4 hkp
  refine lv_goto (tgt := 16) hx hb d_Law_code_9 (by decide) ?_
  refine lv_iconst (v := 0) hx hb d_Law_code_16 (by decide) ?_
  exact me_reti (me_kp M0) h hx hb hr hlocks hwf hkp hP hK hD hS d_Law_code_17
def rmH3_Law_code : Room := { frames := 7, cells := 1, slots := 6, locals := 123 }
abbrev qH3_Law_code (D : va_G) (ad : Nat → Nat → Nat) (ca : Nat → ClassId) (N : Nat → Nat) (MZ : me_M) (A : Nat → Prop) : Array Value → Jvm.State → Outcome → Jvm.State → Prop := va_Qi (fun r (_ : Unit) => r = 1 ∧ me_wf N MZ) (fg_B D A (fun _ => me_W ad ca MZ) (fun _ => [])) A
set_option maxHeartbeats 4000000 in
set_option maxRecDepth 100000 in
theorem cH3_Law_code (l : Launch) (hl9 : l.stackTraces = false) (D : va_G) (ad : Nat → Nat → Nat) (ca : Nat → ClassId) (N : Nat → Nat) (M0 MZ : me_M) (j0 : Nat) (x1 : Int32) (x2 : Int32) (j3 : Nat) (h : fT3_G_code M0 j0 x1 x2 = some MZ) (hwf : me_wf N M0) (hj0 : j0 < N 0) (zx2 : x2 = 1 ∨ x2 = 0) (hj3 : j3 < N 16) (sz : Nat) : Met l y_Law_code (fg_wh y_Law_code method_6_code 5 (some .int) [(0, 9, 12, 25)]) rmH3_Law_code (va_Pc [.ref (ad 0 j0), .int x1, .int x2, .ref (ad 16 j3)] (fg_PZ D (me_T ca) (me_W ad ca M0) sz)) (qH3_Law_code D ad ca N MZ (va_A (me_W ad ca M0) sz)) rmH3_Law_code.cells rmH3_Law_code.slots (va_A (me_W ad ca M0) sz) := by
  refine fg_enterH (fun A => qH3_Law_code D ad ca N MZ A) (by decide +kernel) (Nat.le_of_ble_eq_true rfl) ?_
  intro p e s m below meth c ls A hx hb hml hown hts hr hlocks hin hP hK hD hS hA hX hl htab hz hy
  have hl : lv_has ls 5 [(0, .ref (ad 0 j0)), (1, .int x1), (2, .int x2), (3, .ref (ad 16 j3))] := hl
  refine lv_aload_n hx hb d_Law_code_0 rfl (lv_at hl 3 rfl) ?_
  refine lv_iconst (v := 0) hx hb d_Law_code_1 (by decide) ?_
  refine lv_aload_n hx hb d_Law_code_2 rfl (lv_at hl 0 rfl) ?_
  refine lv_iload_n hx hb d_Law_code_3 rfl (lv_at hl 1 rfl) ?_
  refine lv_iload_n hx hb d_Law_code_4 rfl (lv_at hl 2 rfl) ?_
  refine me_thenT (M1 := MZ) (me_runVT (C := "FilterGuard") (As := [.int x1, .int x2]) (rest := [.int 0, .ref (ad 16 j3)]) ⟨hx, hb, hml, hown, hts⟩ (cT3_G_code l hl9 D ad ca N M0 MZ j0 x1 x2 h hwf hj0 zx2 _) rfl (by show fg_nm y_G_code 2; decide +kernel) u_1509 u_1510 u_1511 u_181 u_1512 ⟨Nat.le_of_ble_eq_true rfl, Nat.le_of_ble_eq_true rfl⟩ hX hz hy hK hP hD hwf hS hA hj0 (by decide) rfl rfl rfl hl.1 (Nat.le_of_ble_eq_true rfl) d_Law_code_5 ⟨Nat.le_of_ble_eq_true rfl, Nat.le_of_ble_eq_true rfl⟩) hP hD hK hS hA hown hts [(0, 9, 12, 25)] htab 0 12 (fun y hm => absurd hm (by simp)) ⟨0, 9, 25, rfl, by decide, by decide, by decide, u_1481⟩ (fun x H locs hw hP hD hS => ?_)
  refine lv_astore (lv' := [(4, .ref x), (0, .ref (ad 0 j0)), (1, .int x1), (2, .int x2), (3, .ref (ad 16 j3))]) hx hb d_Law_code_12 hl (by decide) rfl (fun ls hl => ?_)
  refine lv_iconst (v := 1) hx hb d_Law_code_14 (by decide) ?_
  exact fg_reti () hx hb hr hlocks ⟨rfl, hw.1⟩ hP (me_K0 hK) hD hS (Nat.le_of_ble_eq_true rfl) (Nat.le_of_ble_eq_true rfl) d_Law_code_15
theorem d_Law_put_0 : decode method_7_code 0 = .ok (.aload_n 2, 1) := by decide +kernel
theorem d_Law_put_1 : decode method_7_code 1 = .ok (.iconst 0, 1) := by decide +kernel
theorem d_Law_put_2 : decode method_7_code 2 = .ok (.aload_n 0, 1) := by decide +kernel
theorem d_Law_put_3 : decode method_7_code 3 = .ok (.iload_n 1, 1) := by decide +kernel
theorem d_Law_put_4 : decode method_7_code 4 = .ok (.invokevirtual 31, 3) := by decide +kernel
theorem u_1517 : Cond.methodLink "FilterGuardLaw" 31 ⟨"FilterGuard", "put", "(I)I"⟩ ∈ fg_g := fg_in (List.mem_of_getElem? (i := 1517) (by decide +kernel)) rfl
theorem u_1520 : Cond.code ⟨"FilterGuard", "put", "(I)I"⟩ prog_1_method_11_code 3 (some .int) ∈ fg_g := fg_in (List.mem_of_getElem? (i := 1520) (by decide +kernel)) rfl
theorem u_1518 : Cond.instanceMethod ⟨"FilterGuard", "put", "(I)I"⟩ ∈ fg_g := fg_in (List.mem_of_getElem? (i := 1518) (by decide +kernel)) rfl
theorem u_1519 : Cond.selects "FilterGuard" ⟨"FilterGuard", "put", "(I)I"⟩ ⟨"FilterGuard", "put", "(I)I"⟩ ∈ fg_g := fg_in (List.mem_of_getElem? (i := 1519) (by decide +kernel)) rfl
theorem d_Law_put_7 : decode method_7_code 7 = .ok (.i2l, 1) := by decide +kernel
theorem d_Law_put_8 : decode method_7_code 8 = .ok (.lastore, 1) := by decide +kernel
theorem d_Law_put_9 : decode method_7_code 9 = .ok (.goto 6, 3) := by decide +kernel
theorem d_Law_put_15 : decode method_7_code 15 = .ok (.iconst 0, 1) := by decide +kernel
theorem d_Law_put_16 : decode method_7_code 16 = .ok (.ireturn, 1) := by decide +kernel
abbrev y_Law_put : MethodName := ⟨"FilterGuardLaw", "put", "(LFilterGuard;I[J)I"⟩
theorem d_Law_put_12 : decode method_7_code 12 = .ok (.astore_n 3, 1) := by decide +kernel
theorem d_Law_put_13 : decode method_7_code 13 = .ok (.iconst 1, 1) := by decide +kernel
theorem d_Law_put_14 : decode method_7_code 14 = .ok (.ireturn, 1) := by decide +kernel
def rm_Law_put : Room := { frames := 5, cells := 0, slots := 0, locals := 116 }
abbrev q_Law_put (D : va_G) (ad : Nat → Nat → Nat) (ca : Nat → ClassId) (N : Nat → Nat) (M0 MZ : me_M) (RZ : Int32) (A : Nat → Prop) : Array Value → Jvm.State → Outcome → Jvm.State → Prop := va_Qi (fun r (_ : Unit) => r = RZ ∧ me_wf N MZ ∧ me_kp M0 MZ) (fg_B D A (fun _ => me_W ad ca MZ) (fun _ => [])) A
set_option maxHeartbeats 4000000 in
set_option maxRecDepth 100000 in
theorem c_Law_put (l : Launch) (D : va_G) (ad : Nat → Nat → Nat) (ca : Nat → ClassId) (N : Nat → Nat) (M0 MZ : me_M) (RZ : Int32) (j0 : Nat) (x1 : Int32) (j2 : Nat) (h : f_Law_put M0 j0 x1 j2 = (some (MZ, RZ))) (hwf : me_wf N M0) (hj0 : j0 < N 0) (hj2 : j2 < N 16) (sz : Nat) : Met l y_Law_put (fg_wh y_Law_put method_7_code 4 (some .int) [(0, 9, 12, 13)]) rm_Law_put (va_Pc [.ref (ad 0 j0), .int x1, .ref (ad 16 j2)] (fg_PZ D (me_T ca) (me_W ad ca M0) sz)) (q_Law_put D ad ca N M0 MZ RZ (va_A (me_W ad ca M0) sz)) rm_Law_put.cells rm_Law_put.slots (va_A (me_W ad ca M0) sz) := by
  refine fg_enterH (fun A => q_Law_put D ad ca N M0 MZ RZ A) (by decide +kernel) (Nat.le_of_ble_eq_true rfl) ?_
  intro p e s m below meth c ls A hx hb hml hown hts hr hlocks hin hP hK hD hS hA hX hl htab hz hy
  have hz := hz.2
  have hl : lv_has ls 4 [(0, .ref (ad 0 j0)), (1, .int x1), (2, .ref (ad 16 j2))] := hl
  unfold f_Law_put at h
  have hkp : me_kp M0 M0 := me_kp.rf
  have hkb := hkp
  refine lv_aload_n hx hb d_Law_put_0 rfl (lv_at hl 2 rfl) ?_
  refine lv_iconst (v := 0) hx hb d_Law_put_1 (by decide) ?_
  refine lv_aload_n hx hb d_Law_put_2 rfl (lv_at hl 0 rfl) ?_
  refine lv_iload_n hx hb d_Law_put_3 rfl (lv_at hl 1 rfl) ?_
  obtain ⟨M1, r2, eM1, h⟩ := b2_ob h
  refine me_theni0 (M1 := M1) (me_runV (C := "FilterGuard") (As := [.int x1]) (rest := [.int 0, .ref (ad 16 j2)]) ⟨hx, hb, hml, hown, hts⟩ (c_G_put l D ad ca N M0 M1 r2 j0 x1 eM1 hwf hj0 _) rfl (by show fg_nm y_G_put 1; decide +kernel) u_1517 u_1518 u_1519 u_181 u_1520 ⟨Nat.le_of_ble_eq_true rfl, Nat.le_of_ble_eq_true rfl⟩ hX hz hK hP hD hwf hS hA hj0 (by decide) rfl rfl rfl hl.1 (Nat.le_of_ble_eq_true rfl) d_Law_put_4 ⟨Nat.le_of_ble_eq_true rfl, Nat.le_of_ble_eq_true rfl⟩) hP hD hK hS hA rfl rfl (fun H locs hw hP hD hS => ?_)
  obtain ⟨hwf, hk9⟩ := hw
  have hkp := hkp.tr hk9
  refine lv_i2l (v := r2.toInt64) hx hb d_Law_put_7 rfl ?_
  obtain ⟨g3, h⟩ := gd_ob h
  obtain ⟨M4, eM4, h⟩ := st_ob h
  refine me_last (eM4.trans (by rw [show (0 : Int32).toNatClampNeg = 0 by decide])) hx hb hK hP hD hwf hS hj2 (me_in (i := (0 : Int32)) (k := 0) (by decide) (by decide) (kp_c hkb.z hkp.z g3)) d_Law_put_8 (fun H locs hP hD hwf hS => ?_)
  have hkp := kp_L eM4 hkp
  refine lv_goto (tgt := 15) hx hb d_Law_put_9 (by decide) ?_
  refine lv_iconst (v := 0) hx hb d_Law_put_15 (by decide) ?_
  exact me_reti (me_kp M0) h hx hb hr hlocks hwf hkp hP hK hD hS d_Law_put_16
def rmH1_Law_put : Room := { frames := 7, cells := 1, slots := 6, locals := 122 }
abbrev qH1_Law_put (D : va_G) (ad : Nat → Nat → Nat) (ca : Nat → ClassId) (N : Nat → Nat) (MZ : me_M) (A : Nat → Prop) : Array Value → Jvm.State → Outcome → Jvm.State → Prop := va_Qi (fun r (_ : Unit) => r = 1 ∧ me_wf N MZ) (fg_B D A (fun _ => me_W ad ca MZ) (fun _ => [])) A
set_option maxHeartbeats 4000000 in
set_option maxRecDepth 100000 in
theorem cH1_Law_put (l : Launch) (hl9 : l.stackTraces = false) (D : va_G) (ad : Nat → Nat → Nat) (ca : Nat → ClassId) (N : Nat → Nat) (M0 MZ : me_M) (j0 : Nat) (x1 : Int32) (j2 : Nat) (h : fT1_G_put M0 j0 x1 = some MZ) (hwf : me_wf N M0) (hj0 : j0 < N 0) (hj2 : j2 < N 16) (sz : Nat) : Met l y_Law_put (fg_wh y_Law_put method_7_code 4 (some .int) [(0, 9, 12, 13)]) rmH1_Law_put (va_Pc [.ref (ad 0 j0), .int x1, .ref (ad 16 j2)] (fg_PZ D (me_T ca) (me_W ad ca M0) sz)) (qH1_Law_put D ad ca N MZ (va_A (me_W ad ca M0) sz)) rmH1_Law_put.cells rmH1_Law_put.slots (va_A (me_W ad ca M0) sz) := by
  refine fg_enterH (fun A => qH1_Law_put D ad ca N MZ A) (by decide +kernel) (Nat.le_of_ble_eq_true rfl) ?_
  intro p e s m below meth c ls A hx hb hml hown hts hr hlocks hin hP hK hD hS hA hX hl htab hz hy
  have hl : lv_has ls 4 [(0, .ref (ad 0 j0)), (1, .int x1), (2, .ref (ad 16 j2))] := hl
  refine lv_aload_n hx hb d_Law_put_0 rfl (lv_at hl 2 rfl) ?_
  refine lv_iconst (v := 0) hx hb d_Law_put_1 (by decide) ?_
  refine lv_aload_n hx hb d_Law_put_2 rfl (lv_at hl 0 rfl) ?_
  refine lv_iload_n hx hb d_Law_put_3 rfl (lv_at hl 1 rfl) ?_
  refine me_thenT (M1 := MZ) (me_runVT (C := "FilterGuard") (As := [.int x1]) (rest := [.int 0, .ref (ad 16 j2)]) ⟨hx, hb, hml, hown, hts⟩ (cT1_G_put l hl9 D ad ca N M0 MZ j0 x1 h hwf hj0 _) rfl (by show fg_nm y_G_put 1; decide +kernel) u_1517 u_1518 u_1519 u_181 u_1520 ⟨Nat.le_of_ble_eq_true rfl, Nat.le_of_ble_eq_true rfl⟩ hX hz hy hK hP hD hwf hS hA hj0 (by decide) rfl rfl rfl hl.1 (Nat.le_of_ble_eq_true rfl) d_Law_put_4 ⟨Nat.le_of_ble_eq_true rfl, Nat.le_of_ble_eq_true rfl⟩) hP hD hK hS hA hown hts [(0, 9, 12, 13)] htab 0 12 (fun y hm => absurd hm (by simp)) ⟨0, 9, 13, rfl, by decide, by decide, by decide, u_806⟩ (fun x H locs hw hP hD hS => ?_)
  refine lv_astore_n (lv' := [(3, .ref x), (0, .ref (ad 0 j0)), (1, .int x1), (2, .ref (ad 16 j2))]) hx hb d_Law_put_12 rfl hl (by decide) rfl (fun ls hl => ?_)
  refine lv_iconst (v := 1) hx hb d_Law_put_13 (by decide) ?_
  exact fg_reti () hx hb hr hlocks ⟨rfl, hw.1⟩ hP (me_K0 hK) hD hS (Nat.le_of_ble_eq_true rfl) (Nat.le_of_ble_eq_true rfl) d_Law_put_14
theorem d_Law_entry_0 : decode method_8_code 0 = .ok (.aload 4, 2) := by decide +kernel
theorem d_Law_entry_2 : decode method_8_code 2 = .ok (.iconst 0, 1) := by decide +kernel
theorem d_Law_entry_3 : decode method_8_code 3 = .ok (.aload_n 0, 1) := by decide +kernel
theorem d_Law_entry_4 : decode method_8_code 4 = .ok (.iload_n 1, 1) := by decide +kernel
theorem d_Law_entry_5 : decode method_8_code 5 = .ok (.iload_n 2, 1) := by decide +kernel
theorem d_Law_entry_6 : decode method_8_code 6 = .ok (.iload_n 3, 1) := by decide +kernel
theorem d_Law_entry_7 : decode method_8_code 7 = .ok (.invokevirtual 35, 3) := by decide +kernel
theorem u_1542 : Cond.methodLink "FilterGuardLaw" 35 ⟨"FilterGuard", "entry", "(III)I"⟩ ∈ fg_g := fg_in (List.mem_of_getElem? (i := 1542) (by decide +kernel)) rfl
theorem u_1545 : Cond.code ⟨"FilterGuard", "entry", "(III)I"⟩ prog_1_method_12_code 4 (some .int) ∈ fg_g := fg_in (List.mem_of_getElem? (i := 1545) (by decide +kernel)) rfl
theorem u_1543 : Cond.instanceMethod ⟨"FilterGuard", "entry", "(III)I"⟩ ∈ fg_g := fg_in (List.mem_of_getElem? (i := 1543) (by decide +kernel)) rfl
theorem u_1544 : Cond.selects "FilterGuard" ⟨"FilterGuard", "entry", "(III)I"⟩ ⟨"FilterGuard", "entry", "(III)I"⟩ ∈ fg_g := fg_in (List.mem_of_getElem? (i := 1544) (by decide +kernel)) rfl
theorem d_Law_entry_10 : decode method_8_code 10 = .ok (.i2l, 1) := by decide +kernel
theorem d_Law_entry_11 : decode method_8_code 11 = .ok (.lastore, 1) := by decide +kernel
theorem d_Law_entry_12 : decode method_8_code 12 = .ok (.goto 7, 3) := by decide +kernel
theorem d_Law_entry_19 : decode method_8_code 19 = .ok (.iconst 0, 1) := by decide +kernel
theorem d_Law_entry_20 : decode method_8_code 20 = .ok (.ireturn, 1) := by decide +kernel
abbrev y_Law_entry : MethodName := ⟨"FilterGuardLaw", "entry", "(LFilterGuard;III[J)I"⟩
theorem d_Law_entry_15 : decode method_8_code 15 = .ok (.astore 5, 2) := by decide +kernel
theorem d_Law_entry_17 : decode method_8_code 17 = .ok (.iconst 1, 1) := by decide +kernel
theorem d_Law_entry_18 : decode method_8_code 18 = .ok (.ireturn, 1) := by decide +kernel
def rm_Law_entry : Room := { frames := 3, cells := 0, slots := 0, locals := 66 }
abbrev q_Law_entry (D : va_G) (ad : Nat → Nat → Nat) (ca : Nat → ClassId) (N : Nat → Nat) (M0 MZ : me_M) (RZ : Int32) (A : Nat → Prop) : Array Value → Jvm.State → Outcome → Jvm.State → Prop := va_Qi (fun r (_ : Unit) => r = RZ ∧ me_wf N MZ ∧ me_kp M0 MZ) (fg_B D A (fun _ => me_W ad ca MZ) (fun _ => [])) A
set_option maxHeartbeats 4000000 in
set_option maxRecDepth 100000 in
theorem c_Law_entry (l : Launch) (D : va_G) (ad : Nat → Nat → Nat) (ca : Nat → ClassId) (N : Nat → Nat) (M0 MZ : me_M) (RZ : Int32) (j0 : Nat) (x1 : Int32) (x2 : Int32) (x3 : Int32) (j4 : Nat) (h : f_Law_entry M0 j0 x1 x2 x3 j4 = (some (MZ, RZ))) (hwf : me_wf N M0) (hj0 : j0 < N 0) (hj4 : j4 < N 16) (sz : Nat) : Met l y_Law_entry (fg_wh y_Law_entry method_8_code 6 (some .int) [(0, 12, 15, 25)]) rm_Law_entry (va_Pc [.ref (ad 0 j0), .int x1, .int x2, .int x3, .ref (ad 16 j4)] (fg_PZ D (me_T ca) (me_W ad ca M0) sz)) (q_Law_entry D ad ca N M0 MZ RZ (va_A (me_W ad ca M0) sz)) rm_Law_entry.cells rm_Law_entry.slots (va_A (me_W ad ca M0) sz) := by
  refine fg_enterH (fun A => q_Law_entry D ad ca N M0 MZ RZ A) (by decide +kernel) (Nat.le_of_ble_eq_true rfl) ?_
  intro p e s m below meth c ls A hx hb hml hown hts hr hlocks hin hP hK hD hS hA hX hl htab hz hy
  have hz := hz.2
  have hl : lv_has ls 6 [(0, .ref (ad 0 j0)), (1, .int x1), (2, .int x2), (3, .int x3), (4, .ref (ad 16 j4))] := hl
  unfold f_Law_entry at h
  have hkp : me_kp M0 M0 := me_kp.rf
  have hkb := hkp
  refine lv_aload hx hb d_Law_entry_0 (lv_at hl 4 rfl) ?_
  refine lv_iconst (v := 0) hx hb d_Law_entry_2 (by decide) ?_
  refine lv_aload_n hx hb d_Law_entry_3 rfl (lv_at hl 0 rfl) ?_
  refine lv_iload_n hx hb d_Law_entry_4 rfl (lv_at hl 1 rfl) ?_
  refine lv_iload_n hx hb d_Law_entry_5 rfl (lv_at hl 2 rfl) ?_
  refine lv_iload_n hx hb d_Law_entry_6 rfl (lv_at hl 3 rfl) ?_
  obtain ⟨M1, r2, eM1, h⟩ := b2_ob h
  refine me_theni0 (M1 := M1) (me_runV (C := "FilterGuard") (As := [.int x1, .int x2, .int x3]) (rest := [.int 0, .ref (ad 16 j4)]) ⟨hx, hb, hml, hown, hts⟩ (c_G_entry l D ad ca N M0 M1 r2 j0 x1 x2 x3 eM1 hwf hj0 _) rfl (by show fg_nm y_G_entry 3; decide +kernel) u_1542 u_1543 u_1544 u_181 u_1545 ⟨Nat.le_of_ble_eq_true rfl, Nat.le_of_ble_eq_true rfl⟩ hX hz hK hP hD hwf hS hA hj0 (by decide) rfl rfl rfl hl.1 (Nat.le_of_ble_eq_true rfl) d_Law_entry_7 ⟨Nat.le_of_ble_eq_true rfl, Nat.le_of_ble_eq_true rfl⟩) hP hD hK hS hA rfl rfl (fun H locs hw hP hD hS => ?_)
  obtain ⟨hwf, hk9⟩ := hw
  have hkp := hkp.tr hk9
  refine lv_i2l (v := r2.toInt64) hx hb d_Law_entry_10 rfl ?_
  obtain ⟨g3, h⟩ := gd_ob h
  obtain ⟨M4, eM4, h⟩ := st_ob h
  refine me_last (eM4.trans (by rw [show (0 : Int32).toNatClampNeg = 0 by decide])) hx hb hK hP hD hwf hS hj4 (me_in (i := (0 : Int32)) (k := 0) (by decide) (by decide) (kp_c hkb.z hkp.z g3)) d_Law_entry_11 (fun H locs hP hD hwf hS => ?_)
  have hkp := kp_L eM4 hkp
  refine lv_goto (tgt := 19) hx hb d_Law_entry_12 (by decide) ?_
  refine lv_iconst (v := 0) hx hb d_Law_entry_19 (by decide) ?_
  exact me_reti (me_kp M0) h hx hb hr hlocks hwf hkp hP hK hD hS d_Law_entry_20
def rmH3_Law_entry : Room := { frames := 7, cells := 1, slots := 6, locals := 123 }
abbrev qH3_Law_entry (D : va_G) (ad : Nat → Nat → Nat) (ca : Nat → ClassId) (N : Nat → Nat) (MZ : me_M) (A : Nat → Prop) : Array Value → Jvm.State → Outcome → Jvm.State → Prop := va_Qi (fun r (_ : Unit) => r = 1 ∧ me_wf N MZ) (fg_B D A (fun _ => me_W ad ca MZ) (fun _ => [])) A
set_option maxHeartbeats 4000000 in
set_option maxRecDepth 100000 in
theorem cH3_Law_entry (l : Launch) (hl9 : l.stackTraces = false) (D : va_G) (ad : Nat → Nat → Nat) (ca : Nat → ClassId) (N : Nat → Nat) (M0 MZ : me_M) (j0 : Nat) (x1 : Int32) (x2 : Int32) (x3 : Int32) (j4 : Nat) (h : fT3_G_entry M0 j0 x1 x2 x3 = some MZ) (hwf : me_wf N M0) (hj0 : j0 < N 0) (hj4 : j4 < N 16) (sz : Nat) : Met l y_Law_entry (fg_wh y_Law_entry method_8_code 6 (some .int) [(0, 12, 15, 25)]) rmH3_Law_entry (va_Pc [.ref (ad 0 j0), .int x1, .int x2, .int x3, .ref (ad 16 j4)] (fg_PZ D (me_T ca) (me_W ad ca M0) sz)) (qH3_Law_entry D ad ca N MZ (va_A (me_W ad ca M0) sz)) rmH3_Law_entry.cells rmH3_Law_entry.slots (va_A (me_W ad ca M0) sz) := by
  refine fg_enterH (fun A => qH3_Law_entry D ad ca N MZ A) (by decide +kernel) (Nat.le_of_ble_eq_true rfl) ?_
  intro p e s m below meth c ls A hx hb hml hown hts hr hlocks hin hP hK hD hS hA hX hl htab hz hy
  have hl : lv_has ls 6 [(0, .ref (ad 0 j0)), (1, .int x1), (2, .int x2), (3, .int x3), (4, .ref (ad 16 j4))] := hl
  refine lv_aload hx hb d_Law_entry_0 (lv_at hl 4 rfl) ?_
  refine lv_iconst (v := 0) hx hb d_Law_entry_2 (by decide) ?_
  refine lv_aload_n hx hb d_Law_entry_3 rfl (lv_at hl 0 rfl) ?_
  refine lv_iload_n hx hb d_Law_entry_4 rfl (lv_at hl 1 rfl) ?_
  refine lv_iload_n hx hb d_Law_entry_5 rfl (lv_at hl 2 rfl) ?_
  refine lv_iload_n hx hb d_Law_entry_6 rfl (lv_at hl 3 rfl) ?_
  refine me_thenT (M1 := MZ) (me_runVT (C := "FilterGuard") (As := [.int x1, .int x2, .int x3]) (rest := [.int 0, .ref (ad 16 j4)]) ⟨hx, hb, hml, hown, hts⟩ (cT3_G_entry l hl9 D ad ca N M0 MZ j0 x1 x2 x3 h hwf hj0 _) rfl (by show fg_nm y_G_entry 3; decide +kernel) u_1542 u_1543 u_1544 u_181 u_1545 ⟨Nat.le_of_ble_eq_true rfl, Nat.le_of_ble_eq_true rfl⟩ hX hz hy hK hP hD hwf hS hA hj0 (by decide) rfl rfl rfl hl.1 (Nat.le_of_ble_eq_true rfl) d_Law_entry_7 ⟨Nat.le_of_ble_eq_true rfl, Nat.le_of_ble_eq_true rfl⟩) hP hD hK hS hA hown hts [(0, 12, 15, 25)] htab 0 15 (fun y hm => absurd hm (by simp)) ⟨0, 12, 25, rfl, by decide, by decide, by decide, u_1481⟩ (fun x H locs hw hP hD hS => ?_)
  refine lv_astore (lv' := [(5, .ref x), (0, .ref (ad 0 j0)), (1, .int x1), (2, .int x2), (3, .int x3), (4, .ref (ad 16 j4))]) hx hb d_Law_entry_15 hl (by decide) rfl (fun ls hl => ?_)
  refine lv_iconst (v := 1) hx hb d_Law_entry_17 (by decide) ?_
  exact fg_reti () hx hb hr hlocks ⟨rfl, hw.1⟩ hP (me_K0 hK) hD hS (Nat.le_of_ble_eq_true rfl) (Nat.le_of_ble_eq_true rfl) d_Law_entry_18
theorem d_Law_packetAt_0 : decode method_9_code 0 = .ok (.aload_n 2, 1) := by decide +kernel
theorem d_Law_packetAt_1 : decode method_9_code 1 = .ok (.iconst 0, 1) := by decide +kernel
theorem d_Law_packetAt_2 : decode method_9_code 2 = .ok (.aload_n 0, 1) := by decide +kernel
theorem d_Law_packetAt_3 : decode method_9_code 3 = .ok (.iload_n 1, 1) := by decide +kernel
theorem d_Law_packetAt_4 : decode method_9_code 4 = .ok (.invokevirtual 39, 3) := by decide +kernel
theorem u_1558 : Cond.methodLink "FilterGuardLaw" 39 ⟨"FilterGuard", "packetAt", "(I)I"⟩ ∈ fg_g := fg_in (List.mem_of_getElem? (i := 1558) (by decide +kernel)) rfl
theorem u_1561 : Cond.code ⟨"FilterGuard", "packetAt", "(I)I"⟩ prog_1_method_13_code 2 (some .int) ∈ fg_g := fg_in (List.mem_of_getElem? (i := 1561) (by decide +kernel)) rfl
theorem u_1559 : Cond.instanceMethod ⟨"FilterGuard", "packetAt", "(I)I"⟩ ∈ fg_g := fg_in (List.mem_of_getElem? (i := 1559) (by decide +kernel)) rfl
theorem u_1560 : Cond.selects "FilterGuard" ⟨"FilterGuard", "packetAt", "(I)I"⟩ ⟨"FilterGuard", "packetAt", "(I)I"⟩ ∈ fg_g := fg_in (List.mem_of_getElem? (i := 1560) (by decide +kernel)) rfl
theorem d_Law_packetAt_7 : decode method_9_code 7 = .ok (.i2l, 1) := by decide +kernel
theorem d_Law_packetAt_8 : decode method_9_code 8 = .ok (.lastore, 1) := by decide +kernel
theorem d_Law_packetAt_9 : decode method_9_code 9 = .ok (.goto 6, 3) := by decide +kernel
theorem d_Law_packetAt_15 : decode method_9_code 15 = .ok (.iconst 0, 1) := by decide +kernel
theorem d_Law_packetAt_16 : decode method_9_code 16 = .ok (.ireturn, 1) := by decide +kernel
abbrev y_Law_packetAt : MethodName := ⟨"FilterGuardLaw", "packetAt", "(LFilterGuard;I[J)I"⟩
theorem d_Law_packetAt_12 : decode method_9_code 12 = .ok (.astore_n 3, 1) := by decide +kernel
theorem d_Law_packetAt_13 : decode method_9_code 13 = .ok (.iconst 1, 1) := by decide +kernel
theorem d_Law_packetAt_14 : decode method_9_code 14 = .ok (.ireturn, 1) := by decide +kernel
def rm_Law_packetAt : Room := { frames := 2, cells := 0, slots := 0, locals := 41 }
abbrev q_Law_packetAt (D : va_G) (ad : Nat → Nat → Nat) (ca : Nat → ClassId) (N : Nat → Nat) (M0 MZ : me_M) (RZ : Int32) (A : Nat → Prop) : Array Value → Jvm.State → Outcome → Jvm.State → Prop := va_Qi (fun r (_ : Unit) => r = RZ ∧ me_wf N MZ ∧ me_kp M0 MZ) (fg_B D A (fun _ => me_W ad ca MZ) (fun _ => [])) A
set_option maxHeartbeats 4000000 in
set_option maxRecDepth 100000 in
theorem c_Law_packetAt (l : Launch) (D : va_G) (ad : Nat → Nat → Nat) (ca : Nat → ClassId) (N : Nat → Nat) (M0 MZ : me_M) (RZ : Int32) (j0 : Nat) (x1 : Int32) (j2 : Nat) (h : f_Law_packetAt M0 j0 x1 j2 = (some (MZ, RZ))) (hwf : me_wf N M0) (hj0 : j0 < N 0) (hj2 : j2 < N 16) (sz : Nat) : Met l y_Law_packetAt (fg_wh y_Law_packetAt method_9_code 4 (some .int) [(0, 9, 12, 25)]) rm_Law_packetAt (va_Pc [.ref (ad 0 j0), .int x1, .ref (ad 16 j2)] (fg_PZ D (me_T ca) (me_W ad ca M0) sz)) (q_Law_packetAt D ad ca N M0 MZ RZ (va_A (me_W ad ca M0) sz)) rm_Law_packetAt.cells rm_Law_packetAt.slots (va_A (me_W ad ca M0) sz) := by
  refine fg_enterH (fun A => q_Law_packetAt D ad ca N M0 MZ RZ A) (by decide +kernel) (Nat.le_of_ble_eq_true rfl) ?_
  intro p e s m below meth c ls A hx hb hml hown hts hr hlocks hin hP hK hD hS hA hX hl htab hz hy
  have hz := hz.2
  have hl : lv_has ls 4 [(0, .ref (ad 0 j0)), (1, .int x1), (2, .ref (ad 16 j2))] := hl
  unfold f_Law_packetAt at h
  have hkp : me_kp M0 M0 := me_kp.rf
  have hkb := hkp
  refine lv_aload_n hx hb d_Law_packetAt_0 rfl (lv_at hl 2 rfl) ?_
  refine lv_iconst (v := 0) hx hb d_Law_packetAt_1 (by decide) ?_
  refine lv_aload_n hx hb d_Law_packetAt_2 rfl (lv_at hl 0 rfl) ?_
  refine lv_iload_n hx hb d_Law_packetAt_3 rfl (lv_at hl 1 rfl) ?_
  obtain ⟨M1, r2, eM1, h⟩ := b2_ob h
  refine me_theni0 (M1 := M1) (me_runV (C := "FilterGuard") (As := [.int x1]) (rest := [.int 0, .ref (ad 16 j2)]) ⟨hx, hb, hml, hown, hts⟩ (c_G_packetAt l D ad ca N M0 M1 r2 j0 x1 eM1 hwf hj0 _) rfl (by show fg_nm y_G_packetAt 1; decide +kernel) u_1558 u_1559 u_1560 u_181 u_1561 ⟨Nat.le_of_ble_eq_true rfl, Nat.le_of_ble_eq_true rfl⟩ hX hz hK hP hD hwf hS hA hj0 (by decide) rfl rfl rfl hl.1 (Nat.le_of_ble_eq_true rfl) d_Law_packetAt_4 ⟨Nat.le_of_ble_eq_true rfl, Nat.le_of_ble_eq_true rfl⟩) hP hD hK hS hA rfl rfl (fun H locs hw hP hD hS => ?_)
  obtain ⟨hwf, hk9⟩ := hw
  have hkp := hkp.tr hk9
  refine lv_i2l (v := r2.toInt64) hx hb d_Law_packetAt_7 rfl ?_
  obtain ⟨g3, h⟩ := gd_ob h
  obtain ⟨M4, eM4, h⟩ := st_ob h
  refine me_last (eM4.trans (by rw [show (0 : Int32).toNatClampNeg = 0 by decide])) hx hb hK hP hD hwf hS hj2 (me_in (i := (0 : Int32)) (k := 0) (by decide) (by decide) (kp_c hkb.z hkp.z g3)) d_Law_packetAt_8 (fun H locs hP hD hwf hS => ?_)
  have hkp := kp_L eM4 hkp
  refine lv_goto (tgt := 15) hx hb d_Law_packetAt_9 (by decide) ?_
  refine lv_iconst (v := 0) hx hb d_Law_packetAt_15 (by decide) ?_
  exact me_reti (me_kp M0) h hx hb hr hlocks hwf hkp hP hK hD hS d_Law_packetAt_16
def rmH3_Law_packetAt : Room := { frames := 7, cells := 1, slots := 6, locals := 121 }
abbrev qH3_Law_packetAt (D : va_G) (ad : Nat → Nat → Nat) (ca : Nat → ClassId) (N : Nat → Nat) (MZ : me_M) (A : Nat → Prop) : Array Value → Jvm.State → Outcome → Jvm.State → Prop := va_Qi (fun r (_ : Unit) => r = 1 ∧ me_wf N MZ) (fg_B D A (fun _ => me_W ad ca MZ) (fun _ => [])) A
set_option maxHeartbeats 4000000 in
set_option maxRecDepth 100000 in
theorem cH3_Law_packetAt (l : Launch) (hl9 : l.stackTraces = false) (D : va_G) (ad : Nat → Nat → Nat) (ca : Nat → ClassId) (N : Nat → Nat) (M0 MZ : me_M) (j0 : Nat) (x1 : Int32) (j2 : Nat) (h : fT3_G_packetAt M0 j0 x1 = some MZ) (hwf : me_wf N M0) (hj0 : j0 < N 0) (hj2 : j2 < N 16) (sz : Nat) : Met l y_Law_packetAt (fg_wh y_Law_packetAt method_9_code 4 (some .int) [(0, 9, 12, 25)]) rmH3_Law_packetAt (va_Pc [.ref (ad 0 j0), .int x1, .ref (ad 16 j2)] (fg_PZ D (me_T ca) (me_W ad ca M0) sz)) (qH3_Law_packetAt D ad ca N MZ (va_A (me_W ad ca M0) sz)) rmH3_Law_packetAt.cells rmH3_Law_packetAt.slots (va_A (me_W ad ca M0) sz) := by
  refine fg_enterH (fun A => qH3_Law_packetAt D ad ca N MZ A) (by decide +kernel) (Nat.le_of_ble_eq_true rfl) ?_
  intro p e s m below meth c ls A hx hb hml hown hts hr hlocks hin hP hK hD hS hA hX hl htab hz hy
  have hl : lv_has ls 4 [(0, .ref (ad 0 j0)), (1, .int x1), (2, .ref (ad 16 j2))] := hl
  refine lv_aload_n hx hb d_Law_packetAt_0 rfl (lv_at hl 2 rfl) ?_
  refine lv_iconst (v := 0) hx hb d_Law_packetAt_1 (by decide) ?_
  refine lv_aload_n hx hb d_Law_packetAt_2 rfl (lv_at hl 0 rfl) ?_
  refine lv_iload_n hx hb d_Law_packetAt_3 rfl (lv_at hl 1 rfl) ?_
  refine me_thenT (M1 := MZ) (me_runVT (C := "FilterGuard") (As := [.int x1]) (rest := [.int 0, .ref (ad 16 j2)]) ⟨hx, hb, hml, hown, hts⟩ (cT3_G_packetAt l hl9 D ad ca N M0 MZ j0 x1 h hwf hj0 _) rfl (by show fg_nm y_G_packetAt 1; decide +kernel) u_1558 u_1559 u_1560 u_181 u_1561 ⟨Nat.le_of_ble_eq_true rfl, Nat.le_of_ble_eq_true rfl⟩ hX hz hy hK hP hD hwf hS hA hj0 (by decide) rfl rfl rfl hl.1 (Nat.le_of_ble_eq_true rfl) d_Law_packetAt_4 ⟨Nat.le_of_ble_eq_true rfl, Nat.le_of_ble_eq_true rfl⟩) hP hD hK hS hA hown hts [(0, 9, 12, 25)] htab 0 12 (fun y hm => absurd hm (by simp)) ⟨0, 9, 25, rfl, by decide, by decide, by decide, u_1481⟩ (fun x H locs hw hP hD hS => ?_)
  refine lv_astore_n (lv' := [(3, .ref x), (0, .ref (ad 0 j0)), (1, .int x1), (2, .ref (ad 16 j2))]) hx hb d_Law_packetAt_12 rfl hl (by decide) rfl (fun ls hl => ?_)
  refine lv_iconst (v := 1) hx hb d_Law_packetAt_13 (by decide) ?_
  exact fg_reti () hx hb hr hlocks ⟨rfl, hw.1⟩ hP (me_K0 hK) hD hS (Nat.le_of_ble_eq_true rfl) (Nat.le_of_ble_eq_true rfl) d_Law_packetAt_14
theorem d_Law_run_0 : decode method_10_code 0 = .ok (.aload_n 2, 1) := by decide +kernel
theorem d_Law_run_1 : decode method_10_code 1 = .ok (.iconst 0, 1) := by decide +kernel
theorem d_Law_run_2 : decode method_10_code 2 = .ok (.aload_n 0, 1) := by decide +kernel
theorem d_Law_run_3 : decode method_10_code 3 = .ok (.iload_n 1, 1) := by decide +kernel
theorem d_Law_run_4 : decode method_10_code 4 = .ok (.invokevirtual 42, 3) := by decide +kernel
theorem u_1566 : Cond.methodLink "FilterGuardLaw" 42 ⟨"FilterGuard", "run", "(I)J"⟩ ∈ fg_g := fg_in (List.mem_of_getElem? (i := 1566) (by decide +kernel)) rfl
theorem u_1569 : Cond.code ⟨"FilterGuard", "run", "(I)J"⟩ prog_1_method_15_code 2 (some .long) ∈ fg_g := fg_in (List.mem_of_getElem? (i := 1569) (by decide +kernel)) rfl
theorem u_1567 : Cond.instanceMethod ⟨"FilterGuard", "run", "(I)J"⟩ ∈ fg_g := fg_in (List.mem_of_getElem? (i := 1567) (by decide +kernel)) rfl
theorem u_1568 : Cond.selects "FilterGuard" ⟨"FilterGuard", "run", "(I)J"⟩ ⟨"FilterGuard", "run", "(I)J"⟩ ∈ fg_g := fg_in (List.mem_of_getElem? (i := 1568) (by decide +kernel)) rfl
theorem d_Law_run_7 : decode method_10_code 7 = .ok (.lastore, 1) := by decide +kernel
theorem d_Law_run_8 : decode method_10_code 8 = .ok (.goto 9, 3) := by decide +kernel
theorem d_Law_run_17 : decode method_10_code 17 = .ok (.iconst 0, 1) := by decide +kernel
theorem d_Law_run_18 : decode method_10_code 18 = .ok (.ireturn, 1) := by decide +kernel
abbrev y_Law_run : MethodName := ⟨"FilterGuardLaw", "run", "(LFilterGuard;I[J)I"⟩
theorem d_Law_run_11 : decode method_10_code 11 = .ok (.astore_n 3, 1) := by decide +kernel
theorem d_Law_run_12 : decode method_10_code 12 = .ok (.iconst 1, 1) := by decide +kernel
theorem d_Law_run_13 : decode method_10_code 13 = .ok (.ireturn, 1) := by decide +kernel
theorem d_Law_run_14 : decode method_10_code 14 = .ok (.astore_n 3, 1) := by decide +kernel
theorem d_Law_run_15 : decode method_10_code 15 = .ok (.iconst 2, 1) := by decide +kernel
theorem d_Law_run_16 : decode method_10_code 16 = .ok (.ireturn, 1) := by decide +kernel
def rm_Law_run : Room := { frames := 9, cells := 0, slots := 0, locals := 224 }
abbrev q_Law_run (D : va_G) (ad : Nat → Nat → Nat) (ca : Nat → ClassId) (N : Nat → Nat) (M0 MZ : me_M) (RZ : Int32) (A : Nat → Prop) : Array Value → Jvm.State → Outcome → Jvm.State → Prop := va_Qi (fun r (_ : Unit) => r = RZ ∧ me_wf N MZ ∧ me_kz M0 MZ) (fg_B D A (fun _ => me_W ad ca MZ) (fun _ => [])) A
set_option maxHeartbeats 4000000 in
set_option maxRecDepth 100000 in
theorem c_Law_run (l : Launch) (D : va_G) (ad : Nat → Nat → Nat) (ca : Nat → ClassId) (N : Nat → Nat) (M0 MZ : me_M) (RZ : Int32) (j0 : Nat) (x1 : Int32) (j2 : Nat) (h : f_Law_run M0 j0 x1 j2 = (some (MZ, RZ))) (hwf : me_wf N M0) (hj0 : j0 < N 0) (hj2 : j2 < N 16) (sz : Nat) : Met l y_Law_run (fg_wh y_Law_run method_10_code 4 (some .int) [(0, 8, 11, 13), (0, 8, 14, 15)]) rm_Law_run (va_Pc [.ref (ad 0 j0), .int x1, .ref (ad 16 j2)] (fg_PZ D (me_T ca) (me_W ad ca M0) sz)) (q_Law_run D ad ca N M0 MZ RZ (va_A (me_W ad ca M0) sz)) rm_Law_run.cells rm_Law_run.slots (va_A (me_W ad ca M0) sz) := by
  refine fg_enterH (fun A => q_Law_run D ad ca N M0 MZ RZ A) (by decide +kernel) (Nat.le_of_ble_eq_true rfl) ?_
  intro p e s m below meth c ls A hx hb hml hown hts hr hlocks hin hP hK hD hS hA hX hl htab hz hy
  have hz := hz.2
  have hl : lv_has ls 4 [(0, .ref (ad 0 j0)), (1, .int x1), (2, .ref (ad 16 j2))] := hl
  unfold f_Law_run at h
  have hkp : me_kz M0 M0 := me_kz.rf
  have hkb := hkp
  refine lv_aload_n hx hb d_Law_run_0 rfl (lv_at hl 2 rfl) ?_
  refine lv_iconst (v := 0) hx hb d_Law_run_1 (by decide) ?_
  refine lv_aload_n hx hb d_Law_run_2 rfl (lv_at hl 0 rfl) ?_
  refine lv_iload_n hx hb d_Law_run_3 rfl (lv_at hl 1 rfl) ?_
  obtain ⟨M1, r2, eM1, h⟩ := b2_ob h
  refine me_thenl0 (M1 := M1) (me_runV (C := "FilterGuard") (As := [.int x1]) (rest := [.int 0, .ref (ad 16 j2)]) ⟨hx, hb, hml, hown, hts⟩ (c_G_run l D ad ca N M0 M1 r2 j0 x1 eM1 hwf hj0 _) rfl (by show fg_nm y_G_run 1; decide +kernel) u_1566 u_1567 u_1568 u_181 u_1569 ⟨Nat.le_of_ble_eq_true rfl, Nat.le_of_ble_eq_true rfl⟩ hX hz hK hP hD hwf hS hA hj0 (by decide) rfl rfl rfl hl.1 (Nat.le_of_ble_eq_true rfl) d_Law_run_4 ⟨Nat.le_of_ble_eq_true rfl, Nat.le_of_ble_eq_true rfl⟩) hP hD hK hS hA rfl rfl (fun H locs hw hP hD hS => ?_)
  obtain ⟨hwf, hk9⟩ := hw
  have hkp := hkp.tr hk9
  obtain ⟨g3, h⟩ := gd_ob h
  obtain ⟨M4, eM4, h⟩ := st_ob h
  refine me_last (eM4.trans (by rw [show (0 : Int32).toNatClampNeg = 0 by decide])) hx hb hK hP hD hwf hS hj2 (me_in (i := (0 : Int32)) (k := 0) (by decide) (by decide) (kp_c hkb hkp g3)) d_Law_run_7 (fun H locs hP hD hwf hS => ?_)
  have hkp := kz_L eM4 hkp
  refine lv_goto (tgt := 17) hx hb d_Law_run_8 (by decide) ?_
  refine lv_iconst (v := 0) hx hb d_Law_run_17 (by decide) ?_
  exact me_reti (me_kz M0) h hx hb hr hlocks hwf hkp hP hK hD hS d_Law_run_18
def rmH1_Law_run : Room := { frames := 9, cells := 1, slots := 6, locals := 224 }
abbrev qH1_Law_run (D : va_G) (ad : Nat → Nat → Nat) (ca : Nat → ClassId) (N : Nat → Nat) (MZ : me_M) (A : Nat → Prop) : Array Value → Jvm.State → Outcome → Jvm.State → Prop := va_Qi (fun r (_ : Unit) => r = 1 ∧ me_wf N MZ) (fg_B D A (fun _ => me_W ad ca MZ) (fun _ => [])) A
set_option maxHeartbeats 4000000 in
set_option maxRecDepth 100000 in
theorem cH1_Law_run (l : Launch) (hl9 : l.stackTraces = false) (D : va_G) (ad : Nat → Nat → Nat) (ca : Nat → ClassId) (N : Nat → Nat) (M0 MZ : me_M) (j0 : Nat) (x1 : Int32) (j2 : Nat) (h : fT1_G_run M0 j0 x1 = some MZ) (hwf : me_wf N M0) (hj0 : j0 < N 0) (hj2 : j2 < N 16) (sz : Nat) : Met l y_Law_run (fg_wh y_Law_run method_10_code 4 (some .int) [(0, 8, 11, 13), (0, 8, 14, 15)]) rmH1_Law_run (va_Pc [.ref (ad 0 j0), .int x1, .ref (ad 16 j2)] (fg_PZ D (me_T ca) (me_W ad ca M0) sz)) (qH1_Law_run D ad ca N MZ (va_A (me_W ad ca M0) sz)) rmH1_Law_run.cells rmH1_Law_run.slots (va_A (me_W ad ca M0) sz) := by
  refine fg_enterH (fun A => qH1_Law_run D ad ca N MZ A) (by decide +kernel) (Nat.le_of_ble_eq_true rfl) ?_
  intro p e s m below meth c ls A hx hb hml hown hts hr hlocks hin hP hK hD hS hA hX hl htab hz hy
  have hl : lv_has ls 4 [(0, .ref (ad 0 j0)), (1, .int x1), (2, .ref (ad 16 j2))] := hl
  refine lv_aload_n hx hb d_Law_run_0 rfl (lv_at hl 2 rfl) ?_
  refine lv_iconst (v := 0) hx hb d_Law_run_1 (by decide) ?_
  refine lv_aload_n hx hb d_Law_run_2 rfl (lv_at hl 0 rfl) ?_
  refine lv_iload_n hx hb d_Law_run_3 rfl (lv_at hl 1 rfl) ?_
  refine me_thenT (M1 := MZ) (me_runVT (C := "FilterGuard") (As := [.int x1]) (rest := [.int 0, .ref (ad 16 j2)]) ⟨hx, hb, hml, hown, hts⟩ (cT1_G_run l hl9 D ad ca N M0 MZ j0 x1 h hwf hj0 _) rfl (by show fg_nm y_G_run 1; decide +kernel) u_1566 u_1567 u_1568 u_181 u_1569 ⟨Nat.le_of_ble_eq_true rfl, Nat.le_of_ble_eq_true rfl⟩ hX hz hy hK hP hD hwf hS hA hj0 (by decide) rfl rfl rfl hl.1 (Nat.le_of_ble_eq_true rfl) d_Law_run_4 ⟨Nat.le_of_ble_eq_true rfl, Nat.le_of_ble_eq_true rfl⟩) hP hD hK hS hA hown hts [(0, 8, 11, 13), (0, 8, 14, 15)] htab 0 11 (fun y hm => absurd hm (by simp)) ⟨0, 8, 13, rfl, by decide, by decide, by decide, u_806⟩ (fun x H locs hw hP hD hS => ?_)
  refine lv_astore_n (lv' := [(3, .ref x), (0, .ref (ad 0 j0)), (1, .int x1), (2, .ref (ad 16 j2))]) hx hb d_Law_run_11 rfl hl (by decide) rfl (fun ls hl => ?_)
  refine lv_iconst (v := 1) hx hb d_Law_run_12 (by decide) ?_
  exact fg_reti () hx hb hr hlocks ⟨rfl, hw.1⟩ hP (me_K0 hK) hD hS (Nat.le_of_ble_eq_true rfl) (Nat.le_of_ble_eq_true rfl) d_Law_run_13
def rmH2_Law_run : Room := { frames := 9, cells := 1, slots := 6, locals := 224 }
abbrev qH2_Law_run (D : va_G) (ad : Nat → Nat → Nat) (ca : Nat → ClassId) (N : Nat → Nat) (MZ : me_M) (A : Nat → Prop) : Array Value → Jvm.State → Outcome → Jvm.State → Prop := va_Qi (fun r (_ : Unit) => r = 2 ∧ me_wf N MZ) (fg_B D A (fun _ => me_W ad ca MZ) (fun _ => [])) A
set_option maxHeartbeats 4000000 in
set_option maxRecDepth 100000 in
theorem cH2_Law_run (l : Launch) (hl9 : l.stackTraces = false) (D : va_G) (ad : Nat → Nat → Nat) (ca : Nat → ClassId) (N : Nat → Nat) (M0 MZ : me_M) (j0 : Nat) (x1 : Int32) (j2 : Nat) (h : fT2_G_run M0 j0 x1 = some MZ) (hwf : me_wf N M0) (hj0 : j0 < N 0) (hj2 : j2 < N 16) (sz : Nat) : Met l y_Law_run (fg_wh y_Law_run method_10_code 4 (some .int) [(0, 8, 11, 13), (0, 8, 14, 15)]) rmH2_Law_run (va_Pc [.ref (ad 0 j0), .int x1, .ref (ad 16 j2)] (fg_PZ D (me_T ca) (me_W ad ca M0) sz)) (qH2_Law_run D ad ca N MZ (va_A (me_W ad ca M0) sz)) rmH2_Law_run.cells rmH2_Law_run.slots (va_A (me_W ad ca M0) sz) := by
  refine fg_enterH (fun A => qH2_Law_run D ad ca N MZ A) (by decide +kernel) (Nat.le_of_ble_eq_true rfl) ?_
  intro p e s m below meth c ls A hx hb hml hown hts hr hlocks hin hP hK hD hS hA hX hl htab hz hy
  have hl : lv_has ls 4 [(0, .ref (ad 0 j0)), (1, .int x1), (2, .ref (ad 16 j2))] := hl
  refine lv_aload_n hx hb d_Law_run_0 rfl (lv_at hl 2 rfl) ?_
  refine lv_iconst (v := 0) hx hb d_Law_run_1 (by decide) ?_
  refine lv_aload_n hx hb d_Law_run_2 rfl (lv_at hl 0 rfl) ?_
  refine lv_iload_n hx hb d_Law_run_3 rfl (lv_at hl 1 rfl) ?_
  refine me_thenT (M1 := MZ) (me_runVT (C := "FilterGuard") (As := [.int x1]) (rest := [.int 0, .ref (ad 16 j2)]) ⟨hx, hb, hml, hown, hts⟩ (cT2_G_run l hl9 D ad ca N M0 MZ j0 x1 h hwf hj0 _) rfl (by show fg_nm y_G_run 1; decide +kernel) u_1566 u_1567 u_1568 u_181 u_1569 ⟨Nat.le_of_ble_eq_true rfl, Nat.le_of_ble_eq_true rfl⟩ hX hz hy hK hP hD hwf hS hA hj0 (by decide) rfl rfl rfl hl.1 (Nat.le_of_ble_eq_true rfl) d_Law_run_4 ⟨Nat.le_of_ble_eq_true rfl, Nat.le_of_ble_eq_true rfl⟩) hP hD hK hS hA hown hts [(0, 8, 11, 13), (0, 8, 14, 15)] htab 1 14 (fun y hm => by rw [show List.take 1 [(0, 8, 11, 13), (0, 8, 14, 15)] = [(0, 8, 11, 13)] from rfl, List.mem_singleton] at hm; subst hm; exact ⟨⟨by decide, by decide⟩, by decide, _, u_806, hy.2⟩) ⟨0, 8, 15, rfl, by decide, by decide, by decide, u_807⟩ (fun x H locs hw hP hD hS => ?_)
  refine lv_astore_n (lv' := [(3, .ref x), (0, .ref (ad 0 j0)), (1, .int x1), (2, .ref (ad 16 j2))]) hx hb d_Law_run_14 rfl hl (by decide) rfl (fun ls hl => ?_)
  refine lv_iconst (v := 2) hx hb d_Law_run_15 (by decide) ?_
  exact fg_reti () hx hb hr hlocks ⟨rfl, hw.1⟩ hP (me_K0 hK) hD hS (Nat.le_of_ble_eq_true rfl) (Nat.le_of_ble_eq_true rfl) d_Law_run_16
theorem d_Law_told_0 : decode method_11_code 0 = .ok (.aload_n 2, 1) := by decide +kernel
theorem d_Law_told_1 : decode method_11_code 1 = .ok (.iconst 0, 1) := by decide +kernel
theorem d_Law_told_2 : decode method_11_code 2 = .ok (.aload_n 0, 1) := by decide +kernel
theorem d_Law_told_3 : decode method_11_code 3 = .ok (.iload_n 1, 1) := by decide +kernel
theorem d_Law_told_4 : decode method_11_code 4 = .ok (.invokevirtual 46, 3) := by decide +kernel
theorem u_1729 : Cond.methodLink "FilterGuardLaw" 46 ⟨"FilterGuard", "told", "(I)J"⟩ ∈ fg_g := fg_in (List.mem_of_getElem? (i := 1729) (by decide +kernel)) rfl
theorem u_1732 : Cond.code ⟨"FilterGuard", "told", "(I)J"⟩ prog_1_method_17_code 2 (some .long) ∈ fg_g := fg_in (List.mem_of_getElem? (i := 1732) (by decide +kernel)) rfl
theorem u_1730 : Cond.instanceMethod ⟨"FilterGuard", "told", "(I)J"⟩ ∈ fg_g := fg_in (List.mem_of_getElem? (i := 1730) (by decide +kernel)) rfl
theorem u_1731 : Cond.selects "FilterGuard" ⟨"FilterGuard", "told", "(I)J"⟩ ⟨"FilterGuard", "told", "(I)J"⟩ ∈ fg_g := fg_in (List.mem_of_getElem? (i := 1731) (by decide +kernel)) rfl
theorem d_Law_told_7 : decode method_11_code 7 = .ok (.lastore, 1) := by decide +kernel
theorem d_Law_told_8 : decode method_11_code 8 = .ok (.goto 6, 3) := by decide +kernel
theorem d_Law_told_14 : decode method_11_code 14 = .ok (.iconst 0, 1) := by decide +kernel
theorem d_Law_told_15 : decode method_11_code 15 = .ok (.ireturn, 1) := by decide +kernel
abbrev y_Law_told : MethodName := ⟨"FilterGuardLaw", "told", "(LFilterGuard;I[J)I"⟩
theorem d_Law_told_11 : decode method_11_code 11 = .ok (.astore_n 3, 1) := by decide +kernel
theorem d_Law_told_12 : decode method_11_code 12 = .ok (.iconst 1, 1) := by decide +kernel
theorem d_Law_told_13 : decode method_11_code 13 = .ok (.ireturn, 1) := by decide +kernel
def rm_Law_told : Room := { frames := 2, cells := 0, slots := 0, locals := 41 }
abbrev q_Law_told (D : va_G) (ad : Nat → Nat → Nat) (ca : Nat → ClassId) (N : Nat → Nat) (M0 MZ : me_M) (RZ : Int32) (A : Nat → Prop) : Array Value → Jvm.State → Outcome → Jvm.State → Prop := va_Qi (fun r (_ : Unit) => r = RZ ∧ me_wf N MZ ∧ me_kp M0 MZ) (fg_B D A (fun _ => me_W ad ca MZ) (fun _ => [])) A
set_option maxHeartbeats 4000000 in
set_option maxRecDepth 100000 in
theorem c_Law_told (l : Launch) (D : va_G) (ad : Nat → Nat → Nat) (ca : Nat → ClassId) (N : Nat → Nat) (M0 MZ : me_M) (RZ : Int32) (j0 : Nat) (x1 : Int32) (j2 : Nat) (h : f_Law_told M0 j0 x1 j2 = (some (MZ, RZ))) (hwf : me_wf N M0) (hj0 : j0 < N 0) (hj2 : j2 < N 16) (sz : Nat) : Met l y_Law_told (fg_wh y_Law_told method_11_code 4 (some .int) [(0, 8, 11, 25)]) rm_Law_told (va_Pc [.ref (ad 0 j0), .int x1, .ref (ad 16 j2)] (fg_PZ D (me_T ca) (me_W ad ca M0) sz)) (q_Law_told D ad ca N M0 MZ RZ (va_A (me_W ad ca M0) sz)) rm_Law_told.cells rm_Law_told.slots (va_A (me_W ad ca M0) sz) := by
  refine fg_enterH (fun A => q_Law_told D ad ca N M0 MZ RZ A) (by decide +kernel) (Nat.le_of_ble_eq_true rfl) ?_
  intro p e s m below meth c ls A hx hb hml hown hts hr hlocks hin hP hK hD hS hA hX hl htab hz hy
  have hz := hz.2
  have hl : lv_has ls 4 [(0, .ref (ad 0 j0)), (1, .int x1), (2, .ref (ad 16 j2))] := hl
  unfold f_Law_told at h
  have hkp : me_kp M0 M0 := me_kp.rf
  have hkb := hkp
  refine lv_aload_n hx hb d_Law_told_0 rfl (lv_at hl 2 rfl) ?_
  refine lv_iconst (v := 0) hx hb d_Law_told_1 (by decide) ?_
  refine lv_aload_n hx hb d_Law_told_2 rfl (lv_at hl 0 rfl) ?_
  refine lv_iload_n hx hb d_Law_told_3 rfl (lv_at hl 1 rfl) ?_
  obtain ⟨M1, r2, eM1, h⟩ := b2_ob h
  refine me_thenl0 (M1 := M1) (me_runV (C := "FilterGuard") (As := [.int x1]) (rest := [.int 0, .ref (ad 16 j2)]) ⟨hx, hb, hml, hown, hts⟩ (c_G_told l D ad ca N M0 M1 r2 j0 x1 eM1 hwf hj0 _) rfl (by show fg_nm y_G_told 1; decide +kernel) u_1729 u_1730 u_1731 u_181 u_1732 ⟨Nat.le_of_ble_eq_true rfl, Nat.le_of_ble_eq_true rfl⟩ hX hz hK hP hD hwf hS hA hj0 (by decide) rfl rfl rfl hl.1 (Nat.le_of_ble_eq_true rfl) d_Law_told_4 ⟨Nat.le_of_ble_eq_true rfl, Nat.le_of_ble_eq_true rfl⟩) hP hD hK hS hA rfl rfl (fun H locs hw hP hD hS => ?_)
  obtain ⟨hwf, hk9⟩ := hw
  have hkp := hkp.tr hk9
  obtain ⟨g3, h⟩ := gd_ob h
  obtain ⟨M4, eM4, h⟩ := st_ob h
  refine me_last (eM4.trans (by rw [show (0 : Int32).toNatClampNeg = 0 by decide])) hx hb hK hP hD hwf hS hj2 (me_in (i := (0 : Int32)) (k := 0) (by decide) (by decide) (kp_c hkb.z hkp.z g3)) d_Law_told_7 (fun H locs hP hD hwf hS => ?_)
  have hkp := kp_L eM4 hkp
  refine lv_goto (tgt := 14) hx hb d_Law_told_8 (by decide) ?_
  refine lv_iconst (v := 0) hx hb d_Law_told_14 (by decide) ?_
  exact me_reti (me_kp M0) h hx hb hr hlocks hwf hkp hP hK hD hS d_Law_told_15
def rmH3_Law_told : Room := { frames := 7, cells := 1, slots := 6, locals := 121 }
abbrev qH3_Law_told (D : va_G) (ad : Nat → Nat → Nat) (ca : Nat → ClassId) (N : Nat → Nat) (MZ : me_M) (A : Nat → Prop) : Array Value → Jvm.State → Outcome → Jvm.State → Prop := va_Qi (fun r (_ : Unit) => r = 1 ∧ me_wf N MZ) (fg_B D A (fun _ => me_W ad ca MZ) (fun _ => [])) A
set_option maxHeartbeats 4000000 in
set_option maxRecDepth 100000 in
theorem cH3_Law_told (l : Launch) (hl9 : l.stackTraces = false) (D : va_G) (ad : Nat → Nat → Nat) (ca : Nat → ClassId) (N : Nat → Nat) (M0 MZ : me_M) (j0 : Nat) (x1 : Int32) (j2 : Nat) (h : fT3_G_told M0 j0 x1 = some MZ) (hwf : me_wf N M0) (hj0 : j0 < N 0) (hj2 : j2 < N 16) (sz : Nat) : Met l y_Law_told (fg_wh y_Law_told method_11_code 4 (some .int) [(0, 8, 11, 25)]) rmH3_Law_told (va_Pc [.ref (ad 0 j0), .int x1, .ref (ad 16 j2)] (fg_PZ D (me_T ca) (me_W ad ca M0) sz)) (qH3_Law_told D ad ca N MZ (va_A (me_W ad ca M0) sz)) rmH3_Law_told.cells rmH3_Law_told.slots (va_A (me_W ad ca M0) sz) := by
  refine fg_enterH (fun A => qH3_Law_told D ad ca N MZ A) (by decide +kernel) (Nat.le_of_ble_eq_true rfl) ?_
  intro p e s m below meth c ls A hx hb hml hown hts hr hlocks hin hP hK hD hS hA hX hl htab hz hy
  have hl : lv_has ls 4 [(0, .ref (ad 0 j0)), (1, .int x1), (2, .ref (ad 16 j2))] := hl
  refine lv_aload_n hx hb d_Law_told_0 rfl (lv_at hl 2 rfl) ?_
  refine lv_iconst (v := 0) hx hb d_Law_told_1 (by decide) ?_
  refine lv_aload_n hx hb d_Law_told_2 rfl (lv_at hl 0 rfl) ?_
  refine lv_iload_n hx hb d_Law_told_3 rfl (lv_at hl 1 rfl) ?_
  refine me_thenT (M1 := MZ) (me_runVT (C := "FilterGuard") (As := [.int x1]) (rest := [.int 0, .ref (ad 16 j2)]) ⟨hx, hb, hml, hown, hts⟩ (cT3_G_told l hl9 D ad ca N M0 MZ j0 x1 h hwf hj0 _) rfl (by show fg_nm y_G_told 1; decide +kernel) u_1729 u_1730 u_1731 u_181 u_1732 ⟨Nat.le_of_ble_eq_true rfl, Nat.le_of_ble_eq_true rfl⟩ hX hz hy hK hP hD hwf hS hA hj0 (by decide) rfl rfl rfl hl.1 (Nat.le_of_ble_eq_true rfl) d_Law_told_4 ⟨Nat.le_of_ble_eq_true rfl, Nat.le_of_ble_eq_true rfl⟩) hP hD hK hS hA hown hts [(0, 8, 11, 25)] htab 0 11 (fun y hm => absurd hm (by simp)) ⟨0, 8, 25, rfl, by decide, by decide, by decide, u_1481⟩ (fun x H locs hw hP hD hS => ?_)
  refine lv_astore_n (lv' := [(3, .ref x), (0, .ref (ad 0 j0)), (1, .int x1), (2, .ref (ad 16 j2))]) hx hb d_Law_told_11 rfl hl (by decide) rfl (fun ls hl => ?_)
  refine lv_iconst (v := 1) hx hb d_Law_told_12 (by decide) ?_
  exact fg_reti () hx hb hr hlocks ⟨rfl, hw.1⟩ hP (me_K0 hK) hD hS (Nat.le_of_ble_eq_true rfl) (Nat.le_of_ble_eq_true rfl) d_Law_told_13
