theorem d_M_goes_99 : decode prog_14_method_132_code 99 = .ok (.istore 9, 2) := by decide +kernel
theorem d_M_goes_101 : decode prog_14_method_132_code 101 = .ok (.iload 9, 2) := by decide +kernel
theorem d_M_goes_103 : decode prog_14_method_132_code 103 = .ok (.ifCond .eq 19, 3) := by decide +kernel
theorem d_M_goes_122 : decode prog_14_method_132_code 122 = .ok (.iload 4, 2) := by decide +kernel
theorem d_M_goes_124 : decode prog_14_method_132_code 124 = .ok (.lload 5, 2) := by decide +kernel
theorem d_M_goes_126 : decode prog_14_method_132_code 126 = .ok (.ldc2_w 203, 3) := by decide +kernel
theorem d_M_goes_129 : decode prog_14_method_132_code 129 = .ok (.land, 1) := by decide +kernel
theorem d_M_goes_130 : decode prog_14_method_132_code 130 = .ok (.lload 7, 2) := by decide +kernel
theorem d_M_goes_132 : decode prog_14_method_132_code 132 = .ok (.ldc2_w 203, 3) := by decide +kernel
theorem d_M_goes_135 : decode prog_14_method_132_code 135 = .ok (.land, 1) := by decide +kernel
theorem d_M_goes_136 : decode prog_14_method_132_code 136 = .ok (.invokestatic 648, 3) := by decide +kernel
theorem u_2493 : Cond.methodLink "FilterGuardModel" 648 ⟨"FilterGuardModel", "related", "(IJJ)Z"⟩ ∈ fg_g := fg_in (List.mem_of_getElem? (i := 2493) (by decide +kernel)) rfl
theorem u_2495 : Cond.code ⟨"FilterGuardModel", "related", "(IJJ)Z"⟩ prog_14_method_131_code 5 (some .boolean) ∈ fg_g := fg_in (List.mem_of_getElem? (i := 2495) (by decide +kernel)) rfl
theorem u_2494 : Cond.static ⟨"FilterGuardModel", "related", "(IJJ)Z"⟩ ∈ fg_g := fg_in (List.mem_of_getElem? (i := 2494) (by decide +kernel)) rfl
theorem d_M_goes_139 : decode prog_14_method_132_code 139 = .ok (.ireturn, 1) := by decide +kernel
theorem d_M_goes_106 : decode prog_14_method_132_code 106 = .ok (.iload 4, 2) := by decide +kernel
theorem d_M_goes_108 : decode prog_14_method_132_code 108 = .ok (.lload 5, 2) := by decide +kernel
theorem d_M_goes_110 : decode prog_14_method_132_code 110 = .ok (.l2i, 1) := by decide +kernel
theorem d_M_goes_111 : decode prog_14_method_132_code 111 = .ok (.i2l, 1) := by decide +kernel
theorem d_M_goes_112 : decode prog_14_method_132_code 112 = .ok (.lload 7, 2) := by decide +kernel
theorem d_M_goes_114 : decode prog_14_method_132_code 114 = .ok (.l2i, 1) := by decide +kernel
theorem d_M_goes_115 : decode prog_14_method_132_code 115 = .ok (.i2l, 1) := by decide +kernel
theorem d_M_goes_116 : decode prog_14_method_132_code 116 = .ok (.invokestatic 648, 3) := by decide +kernel
theorem d_M_goes_119 : decode prog_14_method_132_code 119 = .ok (.goto 20, 3) := by decide +kernel
theorem d_M_goes_94 : decode prog_14_method_132_code 94 = .ok (.iconst 1, 1) := by decide +kernel
theorem d_M_goes_95 : decode prog_14_method_132_code 95 = .ok (.goto 4, 3) := by decide +kernel
theorem d_M_goes_48 : decode prog_14_method_132_code 48 = .ok (.lstore 7, 2) := by decide +kernel
theorem d_M_goes_50 : decode prog_14_method_132_code 50 = .ok (.iload_n 3, 1) := by decide +kernel
theorem d_M_goes_51 : decode prog_14_method_132_code 51 = .ok (.invokestatic 339, 3) := by decide +kernel
theorem d_M_goes_54 : decode prog_14_method_132_code 54 = .ok (.ifCond .ne 13, 3) := by decide +kernel
theorem d_M_goes_67 : decode prog_14_method_132_code 67 = .ok (.iload 4, 2) := by decide +kernel
theorem d_M_goes_69 : decode prog_14_method_132_code 69 = .ok (.iconst 5, 1) := by decide +kernel
theorem d_M_goes_70 : decode prog_14_method_132_code 70 = .ok (.if_icmp .eq 24, 3) := by decide +kernel
theorem d_M_goes_73 : decode prog_14_method_132_code 73 = .ok (.iload 4, 2) := by decide +kernel
theorem d_M_goes_75 : decode prog_14_method_132_code 75 = .ok (.bipush 6, 2) := by decide +kernel
theorem d_M_goes_77 : decode prog_14_method_132_code 77 = .ok (.if_icmp .eq 17, 3) := by decide +kernel
theorem d_M_goes_80 : decode prog_14_method_132_code 80 = .ok (.iload 4, 2) := by decide +kernel
theorem d_M_goes_82 : decode prog_14_method_132_code 82 = .ok (.bipush 9, 2) := by decide +kernel
theorem d_M_goes_84 : decode prog_14_method_132_code 84 = .ok (.if_icmp .eq 10, 3) := by decide +kernel
theorem d_M_goes_87 : decode prog_14_method_132_code 87 = .ok (.iload 4, 2) := by decide +kernel
theorem d_M_goes_89 : decode prog_14_method_132_code 89 = .ok (.bipush 10, 2) := by decide +kernel
theorem d_M_goes_91 : decode prog_14_method_132_code 91 = .ok (.if_icmp .ne 7, 3) := by decide +kernel
theorem d_M_goes_98 : decode prog_14_method_132_code 98 = .ok (.iconst 0, 1) := by decide +kernel
theorem d_M_goes_57 : decode prog_14_method_132_code 57 = .ok (.iload 4, 2) := by decide +kernel
theorem d_M_goes_59 : decode prog_14_method_132_code 59 = .ok (.lload 5, 2) := by decide +kernel
theorem d_M_goes_61 : decode prog_14_method_132_code 61 = .ok (.lload 7, 2) := by decide +kernel
theorem d_M_goes_63 : decode prog_14_method_132_code 63 = .ok (.invokestatic 648, 3) := by decide +kernel
theorem d_M_goes_66 : decode prog_14_method_132_code 66 = .ok (.ireturn, 1) := by decide +kernel
theorem d_M_goes_0 : decode prog_14_method_132_code 0 = .ok (.lload_n 1, 1) := by decide +kernel
theorem d_M_goes_1 : decode prog_14_method_132_code 1 = .ok (.invokestatic 308, 3) := by decide +kernel
theorem d_M_goes_4 : decode prog_14_method_132_code 4 = .ok (.istore_n 3, 1) := by decide +kernel
theorem d_M_goes_5 : decode prog_14_method_132_code 5 = .ok (.iload_n 3, 1) := by decide +kernel
theorem d_M_goes_6 : decode prog_14_method_132_code 6 = .ok (.iconst 4, 1) := by decide +kernel
theorem d_M_goes_7 : decode prog_14_method_132_code 7 = .ok (.ishr, 1) := by decide +kernel
theorem d_M_goes_8 : decode prog_14_method_132_code 8 = .ok (.invokestatic 451, 3) := by decide +kernel
theorem d_M_goes_11 : decode prog_14_method_132_code 11 = .ok (.istore 4, 2) := by decide +kernel
theorem d_M_goes_13 : decode prog_14_method_132_code 13 = .ok (.aload_n 0, 1) := by decide +kernel
theorem d_M_goes_14 : decode prog_14_method_132_code 14 = .ok (.getfield 77, 3) := by decide +kernel
theorem g_M_43 {p : Program} {l : Launch} {e : Env} {R : Room} {s : Jvm.State} {m : MethodId} {args : Array Value} {below : List Frame} {meth : Method} {c : Code} {H : Heap} {locs : List Loc} {cells slots : Nat} {Q : Jvm.State → Prop} {cc : ByteArray} {pc : Nat} {ls : Array Slot} {rest : List Value} {D : va_G} {ad : Nat → Nat → Nat} {ca : Nat → ClassId} {M : me_M} {N : Nat → Nat} {own : String} {index j : Nat} (hexec : p.tables.exec = Jvm.exec) (hb : c.code = cc) (hts : ∀ w ∈ fg_g, w.before args s = true) (hown : s.vm.findClass own = some m.cls) (hK : va_K D classes (me_T ca) s) (hP : va_P D classes (me_W ad ca M) H) (hwf : me_wf N M) (hj : j < N 1) (hlink : (Cond.fieldLink own index "FilterGuardModel" "reg" "[J").before args s = true) (hdg : decode cc pc = .ok (.getfield index, 3)) (kk : W p l e R s m args below meth c H locs cells slots Q (F0 m (pc + 3) ls (va_rf ((mR M 1 j 43).map (ad 16)) :: rest))) : W p l e R s m args below meth c H locs cells slots Q (F0 m pc ls (.ref (ad 1 j) :: rest)) := me_get (k := 1) (f := 43) (C := "FilterGuardModel") (T := F_M) (Nf := 75) hexec hb hts i_M hown hK hP hwf hj (by decide) rfl (by decide) (by decide) hlink (fun _ h9 => h9) hdg kk
theorem d_M_goes_17 : decode prog_14_method_132_code 17 = .ok (.lload_n 1, 1) := by decide +kernel
theorem d_M_goes_18 : decode prog_14_method_132_code 18 = .ok (.invokestatic 315, 3) := by decide +kernel
theorem d_M_goes_21 : decode prog_14_method_132_code 21 = .ok (.laload, 1) := by decide +kernel
theorem d_M_goes_22 : decode prog_14_method_132_code 22 = .ok (.lstore 5, 2) := by decide +kernel
theorem d_M_goes_24 : decode prog_14_method_132_code 24 = .ok (.iload_n 3, 1) := by decide +kernel
theorem d_M_goes_25 : decode prog_14_method_132_code 25 = .ok (.invokestatic 330, 3) := by decide +kernel
theorem d_M_goes_28 : decode prog_14_method_132_code 28 = .ok (.ifCond .eq 15, 3) := by decide +kernel
theorem d_M_goes_43 : decode prog_14_method_132_code 43 = .ok (.lload_n 1, 1) := by decide +kernel
theorem d_M_goes_44 : decode prog_14_method_132_code 44 = .ok (.invokestatic 324, 3) := by decide +kernel
theorem d_M_goes_47 : decode prog_14_method_132_code 47 = .ok (.i2l, 1) := by decide +kernel
theorem d_M_goes_31 : decode prog_14_method_132_code 31 = .ok (.aload_n 0, 1) := by decide +kernel
theorem d_M_goes_32 : decode prog_14_method_132_code 32 = .ok (.getfield 77, 3) := by decide +kernel
theorem d_M_goes_35 : decode prog_14_method_132_code 35 = .ok (.lload_n 1, 1) := by decide +kernel
theorem d_M_goes_36 : decode prog_14_method_132_code 36 = .ok (.invokestatic 318, 3) := by decide +kernel
theorem d_M_goes_39 : decode prog_14_method_132_code 39 = .ok (.laload, 1) := by decide +kernel
theorem d_M_goes_40 : decode prog_14_method_132_code 40 = .ok (.goto 8, 3) := by decide +kernel
abbrev y_M_goes : MethodName := ⟨"FilterGuardModel", "goes", "(J)Z"⟩
def rm_M_goes : Room := { frames := 3, cells := 0, slots := 0, locals := 67 }
abbrev q_M_goes (D : va_G) (ad : Nat → Nat → Nat) (ca : Nat → ClassId) (N : Nat → Nat) (M0 MZ : me_M) (RZ : Int32) (A : Nat → Prop) : Array Value → Jvm.State → Outcome → Jvm.State → Prop := va_Qi (fun r (_ : Unit) => r = RZ ∧ me_wf N MZ ∧ me_kp M0 MZ ∧ (RZ = 1 ∨ RZ = 0)) (fg_B D A (fun _ => me_W ad ca MZ) (fun _ => [])) A
set_option maxHeartbeats 4000000 in
set_option maxRecDepth 100000 in
theorem c_M_goes (l : Launch) (D : va_G) (ad : Nat → Nat → Nat) (ca : Nat → ClassId) (N : Nat → Nat) (M0 MZ : me_M) (RZ : Int32) (j0 : Nat) (x1 : Int64) (h : f_M_goes M0 j0 x1 = (some (MZ, RZ))) (hwf : me_wf N M0) (hj0 : j0 < N 1) (sz : Nat) : Met l y_M_goes (fg_w y_M_goes prog_14_method_132_code 10 (some .boolean)) rm_M_goes (va_Pc [.ref (ad 1 j0), .long x1] (fz_P D (me_T ca) (me_W ad ca M0) sz)) (q_M_goes D ad ca N M0 MZ RZ (va_A (me_W ad ca M0) sz)) rm_M_goes.cells rm_M_goes.slots (va_A (me_W ad ca M0) sz) := by
  refine fz_enter (fun A => q_M_goes D ad ca N M0 MZ RZ A) (by decide +kernel) (Nat.le_of_ble_eq_true rfl) ?_
  intro p e s m below meth c ls A hx hb hml hown hts hr hlocks hin hP hK hD hS hA hX hl hz
  have hl : lv_has ls 10 [(0, .ref (ad 1 j0)), (1, .long x1)] := hl
  unfold f_M_goes at h
  have hkp : me_kp M0 M0 := me_kp.rf
  have hkb := hkp
  have b_99 : ∀ (M : me_M) (y4 : Int32) (y5 : Int64) (y7 : Int64) (s0 : Int32) (H : Heap) (locs : List Loc) (ls : Array Slot), f_M_goes_b99 M y4 y5 y7 s0 = (some (MZ, RZ)) → (s0 = 1 ∨ s0 = 0) → me_wf N M → me_kp M0 M → va_P D classes (me_W ad ca M) H → va_D A (me_W ad ca M) → va_S A s.heap H locs → lv_has ls 10 [(4, .int y4), (5, .long y5), (7, .long y7)] → W p l e rm_M_goes s m [.ref (ad 1 j0), .long x1].toArray below meth c H locs 0 0 (MQ below (q_M_goes D ad ca N M0 MZ RZ A) [.ref (ad 1 j0), .long x1].toArray s rm_M_goes.cells rm_M_goes.slots A) (F0 m 99 ls [.int s0]) := by
    intro M y4 y5 y7 s0 H locs ls h zs0 hwf hkp hP hD hS hl
    unfold f_M_goes_b99 at h
    have hkb := hkp
    refine lv_istore (lv' := [(9, .int s0), (4, .int y4), (5, .long y5), (7, .long y7)]) hx hb d_M_goes_99 hl (by decide) rfl (fun ls hl => ?_)
    refine lv_iload hx hb d_M_goes_101 (lv_at hl 0 rfl) ?_
    refine lv_if_eq (tgt := 122) hx hb d_M_goes_103 (by decide) (fun c1 => ?_) (fun c1 => ?_)
    · have h := if_t c1 h
      refine lv_iload hx hb d_M_goes_122 (lv_at hl 1 rfl) ?_
      refine lv_lload hx hb d_M_goes_124 (lv_at hl 2 rfl) ?_
      refine lv_ldc2 hx hb hown (hts _ u_2019) d_M_goes_126 ?_
      refine lv_land hx hb d_M_goes_129 ?_
      refine lv_lload hx hb d_M_goes_130 (lv_at hl 3 rfl) ?_
      refine lv_ldc2 hx hb hown (hts _ u_2019) d_M_goes_132 ?_
      refine lv_land hx hb d_M_goes_135 ?_
      obtain ⟨r2, er2, h⟩ := bd_ob h
      refine me_pani' (r0 := r2) (fg_runS (wc := []) (tc := []) (A2 := A) (As := [.int y4, .long (y5 &&& 4294967295), .long (y7 &&& 4294967295)]) (rest := []) ⟨hx, hb, hml, hown, hts⟩ (c_M_related l D r2 y4 (y5 &&& 4294967295) (y7 &&& 4294967295) er2 _) (by show fg_nm y_M_related 3; decide +kernel) u_2493 u_2494 u_192 u_2495 ⟨Nat.le_of_ble_eq_true rfl, Nat.le_of_ble_eq_true rfl⟩ hX me_P0 (hK.sub (tys' := []) [] rfl) me_D0 rfl hl.1 (Nat.le_of_ble_eq_true rfl) d_M_goes_136 ⟨Nat.le_of_ble_eq_true rfl, Nat.le_of_ble_eq_true rfl⟩) hP hD hK hS hA rfl rfl (fun H locs hw hP hD hS => ?_)
      have zr2 := hw
      exact me_retz (me_kp M0) h zr2 hx hb hr hlocks hwf hkp hP hK hD hS d_M_goes_139
    have h := if_f c1 h
    refine lv_iload hx hb d_M_goes_106 (lv_at hl 1 rfl) ?_
    refine lv_lload hx hb d_M_goes_108 (lv_at hl 2 rfl) ?_
    refine lv_l2i (v := y5.toInt32) hx hb d_M_goes_110 rfl ?_
    refine lv_i2l (v := y5.toInt32.toInt64) hx hb d_M_goes_111 rfl ?_
    refine lv_lload hx hb d_M_goes_112 (lv_at hl 3 rfl) ?_
    refine lv_l2i (v := y7.toInt32) hx hb d_M_goes_114 rfl ?_
    refine lv_i2l (v := y7.toInt32.toInt64) hx hb d_M_goes_115 rfl ?_
    obtain ⟨r3, er3, h⟩ := bd_ob h
    refine me_pani' (r0 := r3) (fg_runS (wc := []) (tc := []) (A2 := A) (As := [.int y4, .long y5.toInt32.toInt64, .long y7.toInt32.toInt64]) (rest := []) ⟨hx, hb, hml, hown, hts⟩ (c_M_related l D r3 y4 y5.toInt32.toInt64 y7.toInt32.toInt64 er3 _) (by show fg_nm y_M_related 3; decide +kernel) u_2493 u_2494 u_192 u_2495 ⟨Nat.le_of_ble_eq_true rfl, Nat.le_of_ble_eq_true rfl⟩ hX me_P0 (hK.sub (tys' := []) [] rfl) me_D0 rfl hl.1 (Nat.le_of_ble_eq_true rfl) d_M_goes_116 ⟨Nat.le_of_ble_eq_true rfl, Nat.le_of_ble_eq_true rfl⟩) hP hD hK hS hA rfl rfl (fun H locs hw hP hD hS => ?_)
    have zr3 := hw
    refine lv_goto (tgt := 139) hx hb d_M_goes_119 (by decide) ?_
    exact me_retz (me_kp M0) h zr3 hx hb hr hlocks hwf hkp hP hK hD hS d_M_goes_139
  have b_94 : ∀ (M : me_M) (y4 : Int32) (y5 : Int64) (y7 : Int64) (H : Heap) (locs : List Loc) (ls : Array Slot), f_M_goes_b94 M y4 y5 y7 = (some (MZ, RZ)) → me_wf N M → me_kp M0 M → va_P D classes (me_W ad ca M) H → va_D A (me_W ad ca M) → va_S A s.heap H locs → lv_has ls 10 [(4, .int y4), (5, .long y5), (7, .long y7)] → W p l e rm_M_goes s m [.ref (ad 1 j0), .long x1].toArray below meth c H locs 0 0 (MQ below (q_M_goes D ad ca N M0 MZ RZ A) [.ref (ad 1 j0), .long x1].toArray s rm_M_goes.cells rm_M_goes.slots A) (F0 m 94 ls []) := by
    intro M y4 y5 y7 H locs ls h hwf hkp hP hD hS hl
    unfold f_M_goes_b94 at h
    have hkb := hkp
    refine lv_iconst (v := 1) hx hb d_M_goes_94 (by decide) ?_
    refine lv_goto (tgt := 99) hx hb d_M_goes_95 (by decide) ?_
    exact b_99 M y4 y5 y7 (1 : Int32) _ _ _ h (by decide) hwf hkp hP hD hS (lv_sub hl [0, 1, 2] rfl)
  have b_48 : ∀ (M : me_M) (y3 : Int32) (y4 : Int32) (y5 : Int64) (s0 : Int64) (H : Heap) (locs : List Loc) (ls : Array Slot), f_M_goes_b48 M y3 y4 y5 s0 = (some (MZ, RZ)) → me_wf N M → me_kp M0 M → va_P D classes (me_W ad ca M) H → va_D A (me_W ad ca M) → va_S A s.heap H locs → lv_has ls 10 [(3, .int y3), (4, .int y4), (5, .long y5)] → W p l e rm_M_goes s m [.ref (ad 1 j0), .long x1].toArray below meth c H locs 0 0 (MQ below (q_M_goes D ad ca N M0 MZ RZ A) [.ref (ad 1 j0), .long x1].toArray s rm_M_goes.cells rm_M_goes.slots A) (F0 m 48 ls [.long s0]) := by
    intro M y3 y4 y5 s0 H locs ls h hwf hkp hP hD hS hl
    unfold f_M_goes_b48 at h
    have hkb := hkp
    refine lv_lstore (lv' := [(7, .long s0), (3, .int y3), (4, .int y4), (5, .long y5)]) hx hb d_M_goes_48 hl (by decide) rfl (fun ls hl => ?_)
    refine lv_iload_n hx hb d_M_goes_50 rfl (lv_at hl 1 rfl) ?_
    obtain ⟨r4, er4, h⟩ := bd_ob h
    refine me_pani' (r0 := r4) (fg_runS (wc := []) (tc := []) (A2 := A) (As := [.int y3]) (rest := []) ⟨hx, hb, hml, hown, hts⟩ (c_M_isNarrow l D r4 y3 er4 _) (by show fg_nm y_M_isNarrow 1; decide +kernel) u_2026 u_2027 u_192 u_2028 ⟨Nat.le_of_ble_eq_true rfl, Nat.le_of_ble_eq_true rfl⟩ hX me_P0 (hK.sub (tys' := []) [] rfl) me_D0 rfl hl.1 (Nat.le_of_ble_eq_true rfl) d_M_goes_51 ⟨Nat.le_of_ble_eq_true rfl, Nat.le_of_ble_eq_true rfl⟩) hP hD hK hS hA rfl rfl (fun H locs hw hP hD hS => ?_)
    have zr4 := hw
    refine lv_if_ne (tgt := 67) hx hb d_M_goes_54 (by decide) (fun c5 => ?_) (fun c5 => ?_)
    · have h := if_f c5 h
      refine lv_iload hx hb d_M_goes_67 (lv_at hl 2 rfl) ?_
      refine lv_iconst (v := 5) hx hb d_M_goes_69 (by decide) ?_
      refine lv_icmp_eq (tgt := 94) hx hb d_M_goes_70 (by decide) (fun c6 => ?_) (fun c6 => ?_)
      · have h := if_t c6 h
        exact b_94 M y4 y5 s0 _ _ _ h hwf hkp hP hD hS (lv_sub hl [2, 3, 0] rfl)
      have h := if_f c6 h
      refine lv_iload hx hb d_M_goes_73 (lv_at hl 2 rfl) ?_
      refine lv_bipush (v := 6) hx hb d_M_goes_75 (by decide) ?_
      refine lv_icmp_eq (tgt := 94) hx hb d_M_goes_77 (by decide) (fun c7 => ?_) (fun c7 => ?_)
      · have h := if_t c7 h
        exact b_94 M y4 y5 s0 _ _ _ h hwf hkp hP hD hS (lv_sub hl [2, 3, 0] rfl)
      have h := if_f c7 h
      refine lv_iload hx hb d_M_goes_80 (lv_at hl 2 rfl) ?_
      refine lv_bipush (v := 9) hx hb d_M_goes_82 (by decide) ?_
      refine lv_icmp_eq (tgt := 94) hx hb d_M_goes_84 (by decide) (fun c8 => ?_) (fun c8 => ?_)
      · have h := if_t c8 h
        exact b_94 M y4 y5 s0 _ _ _ h hwf hkp hP hD hS (lv_sub hl [2, 3, 0] rfl)
      have h := if_f c8 h
      refine lv_iload hx hb d_M_goes_87 (lv_at hl 2 rfl) ?_
      refine lv_bipush (v := 10) hx hb d_M_goes_89 (by decide) ?_
      refine lv_icmp_ne (tgt := 98) hx hb d_M_goes_91 (by decide) (fun c9 => ?_) (fun c9 => ?_)
      · have h := if_f c9 h
        refine lv_iconst (v := 0) hx hb d_M_goes_98 (by decide) ?_
        exact b_99 M y4 y5 s0 (0 : Int32) _ _ _ h (by decide) hwf hkp hP hD hS (lv_sub hl [2, 3, 0] rfl)
      have h := if_t c9 h
      exact b_94 M y4 y5 s0 _ _ _ h hwf hkp hP hD hS (lv_sub hl [2, 3, 0] rfl)
    have h := if_t c5 h
    refine lv_iload hx hb d_M_goes_57 (lv_at hl 2 rfl) ?_
    refine lv_lload hx hb d_M_goes_59 (lv_at hl 3 rfl) ?_
    refine lv_lload hx hb d_M_goes_61 (lv_at hl 0 rfl) ?_
    obtain ⟨r10, er10, h⟩ := bd_ob h
    refine me_pani' (r0 := r10) (fg_runS (wc := []) (tc := []) (A2 := A) (As := [.int y4, .long y5, .long s0]) (rest := []) ⟨hx, hb, hml, hown, hts⟩ (c_M_related l D r10 y4 y5 s0 er10 _) (by show fg_nm y_M_related 3; decide +kernel) u_2493 u_2494 u_192 u_2495 ⟨Nat.le_of_ble_eq_true rfl, Nat.le_of_ble_eq_true rfl⟩ hX me_P0 (hK.sub (tys' := []) [] rfl) me_D0 rfl hl.1 (Nat.le_of_ble_eq_true rfl) d_M_goes_63 ⟨Nat.le_of_ble_eq_true rfl, Nat.le_of_ble_eq_true rfl⟩) hP hD hK hS hA rfl rfl (fun H locs hw hP hD hS => ?_)
    have zr10 := hw
    exact me_retz (me_kp M0) h zr10 hx hb hr hlocks hwf hkp hP hK hD hS d_M_goes_66
  refine lv_lload_n hx hb d_M_goes_0 rfl (lv_at hl 1 rfl) ?_
  obtain ⟨r11, er11, h⟩ := bd_ob h
  refine me_pani' (r0 := r11) (fg_runS (wc := []) (tc := []) (A2 := A) (As := [.long x1]) (rest := []) ⟨hx, hb, hml, hown, hts⟩ (c_M_opOf l D r11 x1 er11 _) (by show fg_nm y_M_opOf 1; decide +kernel) u_1997 u_1998 u_192 u_1999 ⟨Nat.le_of_ble_eq_true rfl, Nat.le_of_ble_eq_true rfl⟩ hX me_P0 (hK.sub (tys' := []) [] rfl) me_D0 rfl hl.1 (Nat.le_of_ble_eq_true rfl) d_M_goes_1 ⟨Nat.le_of_ble_eq_true rfl, Nat.le_of_ble_eq_true rfl⟩) hP hD hK hS hA rfl rfl (fun H locs hw hP hD hS => ?_)
  refine lv_istore_n (lv' := [(3, .int r11), (0, .ref (ad 1 j0)), (1, .long x1)]) hx hb d_M_goes_4 rfl hl (by decide) rfl (fun ls hl => ?_)
  refine lv_iload_n hx hb d_M_goes_5 rfl (lv_at hl 0 rfl) ?_
  refine lv_iconst (v := 4) hx hb d_M_goes_6 (by decide) ?_
  refine lv_ishr hx hb d_M_goes_7 ?_
  refine fg_topi (y := jishr r11 4) rfl ?_
  obtain ⟨r12, er12, h⟩ := bd_ob h
  refine me_pani' (r0 := r12) (fg_runS (wc := []) (tc := []) (A2 := A) (As := [.int (jishr r11 4)]) (rest := []) ⟨hx, hb, hml, hown, hts⟩ (c_M_relationOf l D r12 (jishr r11 4) er12 _) (by show fg_nm y_M_relationOf 1; decide +kernel) u_2219 u_2220 u_192 u_2221 ⟨Nat.le_of_ble_eq_true rfl, Nat.le_of_ble_eq_true rfl⟩ hX me_P0 (hK.sub (tys' := []) [] rfl) me_D0 rfl hl.1 (Nat.le_of_ble_eq_true rfl) d_M_goes_8 ⟨Nat.le_of_ble_eq_true rfl, Nat.le_of_ble_eq_true rfl⟩) hP hD hK hS hA rfl rfl (fun H locs hw hP hD hS => ?_)
  refine lv_istore (lv' := [(4, .int r12), (3, .int r11), (0, .ref (ad 1 j0)), (1, .long x1)]) hx hb d_M_goes_11 hl (by decide) rfl (fun ls hl => ?_)
  refine lv_aload_n hx hb d_M_goes_13 rfl (lv_at hl 2 rfl) ?_
  refine g_M_43 hx hb hts hown hK hP hwf hj0 (hts _ u_1784) d_M_goes_14 ?_
  obtain ⟨j13, e14, h⟩ := bd_ob h
  have hj13 : j13 < N 16 := (hwf.2.1 1 j0 43 _ e14 (by decide) hj0)
  refine me_opt (j := j13) e14 ?_
  refine lv_lload_n hx hb d_M_goes_17 rfl (lv_at hl 3 rfl) ?_
  obtain ⟨r15, er15, h⟩ := bd_ob h
  refine me_pani' (r0 := r15) (fg_runS (wc := []) (tc := []) (A2 := A) (As := [.long x1]) (rest := [.ref (ad 16 j13)]) ⟨hx, hb, hml, hown, hts⟩ (c_M_toOf l D r15 x1 er15 _) (by show fg_nm y_M_toOf 1; decide +kernel) u_2006 u_2007 u_192 u_2008 ⟨Nat.le_of_ble_eq_true rfl, Nat.le_of_ble_eq_true rfl⟩ hX me_P0 (hK.sub (tys' := []) [] rfl) me_D0 rfl hl.1 (Nat.le_of_ble_eq_true rfl) d_M_goes_18 ⟨Nat.le_of_ble_eq_true rfl, Nat.le_of_ble_eq_true rfl⟩) hP hD hK hS hA rfl rfl (fun H locs hw hP hD hS => ?_)
  obtain ⟨g16, h⟩ := gd_ob h
  refine me_lald hx hb hK hP hwf hj13 g16 d_M_goes_21 ?_
  obtain ⟨v17, ev17, h⟩ := st_ob h
  refine fg_topl (y := v17) ev17.symm ?_
  refine lv_lstore (lv' := [(5, .long v17), (4, .int r12), (3, .int r11), (0, .ref (ad 1 j0)), (1, .long x1)]) hx hb d_M_goes_22 hl (by decide) rfl (fun ls hl => ?_)
  refine lv_iload_n hx hb d_M_goes_24 rfl (lv_at hl 2 rfl) ?_
  obtain ⟨r18, er18, h⟩ := bd_ob h
  refine me_pani' (r0 := r18) (fg_runS (wc := []) (tc := []) (A2 := A) (As := [.int r11]) (rest := []) ⟨hx, hb, hml, hown, hts⟩ (c_M_hasFrom l D r18 r11 er18 _) (by show fg_nm y_M_hasFrom 1; decide +kernel) u_2020 u_2021 u_192 u_2022 ⟨Nat.le_of_ble_eq_true rfl, Nat.le_of_ble_eq_true rfl⟩ hX me_P0 (hK.sub (tys' := []) [] rfl) me_D0 rfl hl.1 (Nat.le_of_ble_eq_true rfl) d_M_goes_25 ⟨Nat.le_of_ble_eq_true rfl, Nat.le_of_ble_eq_true rfl⟩) hP hD hK hS hA rfl rfl (fun H locs hw hP hD hS => ?_)
  have zr18 := hw
  refine lv_if_eq (tgt := 43) hx hb d_M_goes_28 (by decide) (fun c19 => ?_) (fun c19 => ?_)
  · have h := if_t c19 h
    refine lv_lload_n hx hb d_M_goes_43 rfl (lv_at hl 4 rfl) ?_
    obtain ⟨r20, er20, h⟩ := bd_ob h
    refine me_pani' (r0 := r20) (fg_runS (wc := []) (tc := []) (A2 := A) (As := [.long x1]) (rest := []) ⟨hx, hb, hml, hown, hts⟩ (c_M_fieldOf l D r20 x1 er20 _) (by show fg_nm y_M_fieldOf 1; decide +kernel) u_2016 u_2017 u_192 u_2018 ⟨Nat.le_of_ble_eq_true rfl, Nat.le_of_ble_eq_true rfl⟩ hX me_P0 (hK.sub (tys' := []) [] rfl) me_D0 rfl hl.1 (Nat.le_of_ble_eq_true rfl) d_M_goes_44 ⟨Nat.le_of_ble_eq_true rfl, Nat.le_of_ble_eq_true rfl⟩) hP hD hK hS hA rfl rfl (fun H locs hw hP hD hS => ?_)
    refine lv_i2l (v := r20.toInt64) hx hb d_M_goes_47 rfl ?_
    exact b_48 M0 r11 r12 v17 r20.toInt64 _ _ _ h hwf hkp hP hD hS (lv_sub hl [2, 1, 0] rfl)
  have h := if_f c19 h
  refine lv_aload_n hx hb d_M_goes_31 rfl (lv_at hl 3 rfl) ?_
  refine g_M_43 hx hb hts hown hK hP hwf hj0 (hts _ u_1784) d_M_goes_32 ?_
  refine me_opt (j := j13) e14 ?_
  refine lv_lload_n hx hb d_M_goes_35 rfl (lv_at hl 4 rfl) ?_
  obtain ⟨r21, er21, h⟩ := bd_ob h
  refine me_pani' (r0 := r21) (fg_runS (wc := []) (tc := []) (A2 := A) (As := [.long x1]) (rest := [.ref (ad 16 j13)]) ⟨hx, hb, hml, hown, hts⟩ (c_M_fromOf l D r21 x1 er21 _) (by show fg_nm y_M_fromOf 1; decide +kernel) u_2010 u_2011 u_192 u_2012 ⟨Nat.le_of_ble_eq_true rfl, Nat.le_of_ble_eq_true rfl⟩ hX me_P0 (hK.sub (tys' := []) [] rfl) me_D0 rfl hl.1 (Nat.le_of_ble_eq_true rfl) d_M_goes_36 ⟨Nat.le_of_ble_eq_true rfl, Nat.le_of_ble_eq_true rfl⟩) hP hD hK hS hA rfl rfl (fun H locs hw hP hD hS => ?_)
  obtain ⟨g22, h⟩ := gd_ob h
  refine me_lald hx hb hK hP hwf hj13 g22 d_M_goes_39 ?_
  refine lv_goto (tgt := 48) hx hb d_M_goes_40 (by decide) ?_
  exact b_48 M0 r11 r12 v17 (mL M0 16 j13 r21.toNatClampNeg) _ _ _ h hwf hkp hP hD hS (lv_sub hl [2, 1, 0] rfl)
theorem d_M_runArithmetic_137 : decode prog_14_method_133_code 137 = .ok (.iload 9, 2) := by decide +kernel
theorem d_M_runArithmetic_139 : decode prog_14_method_133_code 139 = .ok (.iload 6, 2) := by decide +kernel
theorem d_M_runArithmetic_141 : decode prog_14_method_133_code 141 = .ok (.if_icmp .ge 34, 3) := by decide +kernel
theorem d_M_runArithmetic_175 : decode prog_14_method_133_code 175 = .ok (.aload_n 0, 1) := by decide +kernel
theorem d_M_runArithmetic_176 : decode prog_14_method_133_code 176 = .ok (.getfield 77, 3) := by decide +kernel
theorem d_M_runArithmetic_179 : decode prog_14_method_133_code 179 = .ok (.iload 5, 2) := by decide +kernel
theorem d_M_runArithmetic_181 : decode prog_14_method_133_code 181 = .ok (.lload 7, 2) := by decide +kernel
theorem d_M_runArithmetic_183 : decode prog_14_method_133_code 183 = .ok (.lastore, 1) := by decide +kernel
theorem d_M_runArithmetic_184 : decode prog_14_method_133_code 184 = .ok (.goto 54, 3) := by decide +kernel
theorem d_M_runArithmetic_238 : decode prog_14_method_133_code 238 = .ok (.return_, 1) := by decide +kernel
theorem d_M_runArithmetic_144 : decode prog_14_method_133_code 144 = .ok (.lload 7, 2) := by decide +kernel
theorem d_M_runArithmetic_146 : decode prog_14_method_133_code 146 = .ok (.bipush 8, 2) := by decide +kernel
theorem d_M_runArithmetic_148 : decode prog_14_method_133_code 148 = .ok (.lshl, 1) := by decide +kernel
theorem d_M_runArithmetic_149 : decode prog_14_method_133_code 149 = .ok (.aload_n 0, 1) := by decide +kernel
theorem d_M_runArithmetic_150 : decode prog_14_method_133_code 150 = .ok (.getfield 77, 3) := by decide +kernel
theorem d_M_runArithmetic_153 : decode prog_14_method_133_code 153 = .ok (.iload 5, 2) := by decide +kernel
theorem d_M_runArithmetic_155 : decode prog_14_method_133_code 155 = .ok (.laload, 1) := by decide +kernel
theorem d_M_runArithmetic_156 : decode prog_14_method_133_code 156 = .ok (.bipush 8, 2) := by decide +kernel
theorem d_M_runArithmetic_158 : decode prog_14_method_133_code 158 = .ok (.iload 9, 2) := by decide +kernel
theorem d_M_runArithmetic_160 : decode prog_14_method_133_code 160 = .ok (.imul, 1) := by decide +kernel
theorem d_M_runArithmetic_161 : decode prog_14_method_133_code 161 = .ok (.lshr, 1) := by decide +kernel
theorem d_M_runArithmetic_162 : decode prog_14_method_133_code 162 = .ok (.ldc2_w 218, 3) := by decide +kernel
theorem d_M_runArithmetic_165 : decode prog_14_method_133_code 165 = .ok (.land, 1) := by decide +kernel
theorem d_M_runArithmetic_166 : decode prog_14_method_133_code 166 = .ok (.lor, 1) := by decide +kernel
theorem d_M_runArithmetic_167 : decode prog_14_method_133_code 167 = .ok (.lstore 7, 2) := by decide +kernel
theorem d_M_runArithmetic_169 : decode prog_14_method_133_code 169 = .ok (.iinc 9 1, 3) := by decide +kernel
theorem d_M_runArithmetic_172 : decode prog_14_method_133_code 172 = .ok (.goto (-35), 3) := by decide +kernel
theorem d_M_runArithmetic_0 : decode prog_14_method_133_code 0 = .ok (.lload_n 1, 1) := by decide +kernel
theorem d_M_runArithmetic_1 : decode prog_14_method_133_code 1 = .ok (.invokestatic 308, 3) := by decide +kernel
theorem d_M_runArithmetic_4 : decode prog_14_method_133_code 4 = .ok (.istore_n 3, 1) := by decide +kernel
theorem d_M_runArithmetic_5 : decode prog_14_method_133_code 5 = .ok (.iload_n 3, 1) := by decide +kernel
theorem d_M_runArithmetic_6 : decode prog_14_method_133_code 6 = .ok (.invokestatic 312, 3) := by decide +kernel
theorem d_M_runArithmetic_9 : decode prog_14_method_133_code 9 = .ok (.istore 4, 2) := by decide +kernel
theorem d_M_runArithmetic_11 : decode prog_14_method_133_code 11 = .ok (.lload_n 1, 1) := by decide +kernel
theorem d_M_runArithmetic_12 : decode prog_14_method_133_code 12 = .ok (.invokestatic 315, 3) := by decide +kernel
theorem d_M_runArithmetic_15 : decode prog_14_method_133_code 15 = .ok (.istore 5, 2) := by decide +kernel
theorem d_M_runArithmetic_17 : decode prog_14_method_133_code 17 = .ok (.lload_n 1, 1) := by decide +kernel
theorem d_M_runArithmetic_18 : decode prog_14_method_133_code 18 = .ok (.invokestatic 324, 3) := by decide +kernel
theorem d_M_runArithmetic_21 : decode prog_14_method_133_code 21 = .ok (.bipush 8, 2) := by decide +kernel
theorem d_M_runArithmetic_23 : decode prog_14_method_133_code 23 = .ok (.idiv, 1) := by decide +kernel
theorem d_M_runArithmetic_24 : decode prog_14_method_133_code 24 = .ok (.istore 6, 2) := by decide +kernel
theorem d_M_runArithmetic_26 : decode prog_14_method_133_code 26 = .ok (.iload 4, 2) := by decide +kernel
theorem d_M_runArithmetic_28 : decode prog_14_method_133_code 28 = .ok (.bipush 7, 2) := by decide +kernel
theorem d_M_runArithmetic_30 : decode prog_14_method_133_code 30 = .ok (.if_icmp .ne 43, 3) := by decide +kernel
theorem d_M_runArithmetic_73 : decode prog_14_method_133_code 73 = .ok (.iload 4, 2) := by decide +kernel
theorem d_M_runArithmetic_75 : decode prog_14_method_133_code 75 = .ok (.bipush 8, 2) := by decide +kernel
theorem d_M_runArithmetic_77 : decode prog_14_method_133_code 77 = .ok (.if_icmp .ne 47, 3) := by decide +kernel
theorem d_M_runArithmetic_124 : decode prog_14_method_133_code 124 = .ok (.iload 4, 2) := by decide +kernel
theorem d_M_runArithmetic_126 : decode prog_14_method_133_code 126 = .ok (.bipush 9, 2) := by decide +kernel
theorem d_M_runArithmetic_128 : decode prog_14_method_133_code 128 = .ok (.if_icmp .ne 59, 3) := by decide +kernel
theorem d_M_runArithmetic_187 : decode prog_14_method_133_code 187 = .ok (.aload_n 0, 1) := by decide +kernel
theorem d_M_runArithmetic_188 : decode prog_14_method_133_code 188 = .ok (.getfield 77, 3) := by decide +kernel
theorem d_M_runArithmetic_191 : decode prog_14_method_133_code 191 = .ok (.iload 5, 2) := by decide +kernel
theorem d_M_runArithmetic_193 : decode prog_14_method_133_code 193 = .ok (.iload_n 3, 1) := by decide +kernel
theorem d_M_runArithmetic_194 : decode prog_14_method_133_code 194 = .ok (.iconst 4, 1) := by decide +kernel
theorem d_M_runArithmetic_195 : decode prog_14_method_133_code 195 = .ok (.ishr, 1) := by decide +kernel
theorem d_M_runArithmetic_196 : decode prog_14_method_133_code 196 = .ok (.invokestatic 388, 3) := by decide +kernel
theorem d_M_runArithmetic_199 : decode prog_14_method_133_code 199 = .ok (.aload_n 0, 1) := by decide +kernel
theorem d_M_runArithmetic_200 : decode prog_14_method_133_code 200 = .ok (.getfield 77, 3) := by decide +kernel
theorem d_M_runArithmetic_203 : decode prog_14_method_133_code 203 = .ok (.iload 5, 2) := by decide +kernel
theorem d_M_runArithmetic_205 : decode prog_14_method_133_code 205 = .ok (.laload, 1) := by decide +kernel
theorem d_M_runArithmetic_206 : decode prog_14_method_133_code 206 = .ok (.iload_n 3, 1) := by decide +kernel
theorem d_M_runArithmetic_207 : decode prog_14_method_133_code 207 = .ok (.invokestatic 330, 3) := by decide +kernel
theorem d_M_runArithmetic_210 : decode prog_14_method_133_code 210 = .ok (.ifCond .eq 15, 3) := by decide +kernel
theorem d_M_runArithmetic_225 : decode prog_14_method_133_code 225 = .ok (.lload_n 1, 1) := by decide +kernel
theorem d_M_runArithmetic_226 : decode prog_14_method_133_code 226 = .ok (.invokestatic 324, 3) := by decide +kernel
theorem d_M_runArithmetic_229 : decode prog_14_method_133_code 229 = .ok (.i2l, 1) := by decide +kernel
theorem d_M_runArithmetic_230 : decode prog_14_method_133_code 230 = .ok (.iload_n 3, 1) := by decide +kernel
theorem d_M_runArithmetic_231 : decode prog_14_method_133_code 231 = .ok (.invokestatic 339, 3) := by decide +kernel
theorem d_M_runArithmetic_234 : decode prog_14_method_133_code 234 = .ok (.invokestatic 652, 3) := by decide +kernel
theorem u_2512 : Cond.methodLink "FilterGuardModel" 652 ⟨"FilterGuardModel", "reckon", "(IJJZ)J"⟩ ∈ fg_g := fg_in (List.mem_of_getElem? (i := 2512) (by decide +kernel)) rfl
theorem u_2514 : Cond.code ⟨"FilterGuardModel", "reckon", "(IJJZ)J"⟩ prog_14_method_130_code 13 (some .long) ∈ fg_g := fg_in (List.mem_of_getElem? (i := 2514) (by decide +kernel)) rfl
theorem u_2513 : Cond.static ⟨"FilterGuardModel", "reckon", "(IJJZ)J"⟩ ∈ fg_g := fg_in (List.mem_of_getElem? (i := 2513) (by decide +kernel)) rfl
theorem d_M_runArithmetic_237 : decode prog_14_method_133_code 237 = .ok (.lastore, 1) := by decide +kernel
theorem d_M_runArithmetic_213 : decode prog_14_method_133_code 213 = .ok (.aload_n 0, 1) := by decide +kernel
theorem d_M_runArithmetic_214 : decode prog_14_method_133_code 214 = .ok (.getfield 77, 3) := by decide +kernel
theorem d_M_runArithmetic_217 : decode prog_14_method_133_code 217 = .ok (.lload_n 1, 1) := by decide +kernel
theorem d_M_runArithmetic_218 : decode prog_14_method_133_code 218 = .ok (.invokestatic 318, 3) := by decide +kernel
theorem d_M_runArithmetic_221 : decode prog_14_method_133_code 221 = .ok (.laload, 1) := by decide +kernel
theorem d_M_runArithmetic_222 : decode prog_14_method_133_code 222 = .ok (.goto 8, 3) := by decide +kernel
theorem d_M_runArithmetic_131 : decode prog_14_method_133_code 131 = .ok (.lconst 0, 1) := by decide +kernel
theorem d_M_runArithmetic_132 : decode prog_14_method_133_code 132 = .ok (.lstore 7, 2) := by decide +kernel
theorem d_M_runArithmetic_134 : decode prog_14_method_133_code 134 = .ok (.iconst 0, 1) := by decide +kernel
theorem d_M_runArithmetic_135 : decode prog_14_method_133_code 135 = .ok (.istore 9, 2) := by decide +kernel
theorem d_M_runArithmetic_80 : decode prog_14_method_133_code 80 = .ok (.aload_n 0, 1) := by decide +kernel
theorem d_M_runArithmetic_81 : decode prog_14_method_133_code 81 = .ok (.getfield 77, 3) := by decide +kernel
theorem d_M_runArithmetic_84 : decode prog_14_method_133_code 84 = .ok (.iload 5, 2) := by decide +kernel
theorem d_M_runArithmetic_86 : decode prog_14_method_133_code 86 = .ok (.iload 6, 2) := by decide +kernel
theorem d_M_runArithmetic_88 : decode prog_14_method_133_code 88 = .ok (.bipush 8, 2) := by decide +kernel
theorem d_M_runArithmetic_90 : decode prog_14_method_133_code 90 = .ok (.if_icmp .ne 13, 3) := by decide +kernel
theorem d_M_runArithmetic_103 : decode prog_14_method_133_code 103 = .ok (.aload_n 0, 1) := by decide +kernel
theorem d_M_runArithmetic_104 : decode prog_14_method_133_code 104 = .ok (.getfield 77, 3) := by decide +kernel
theorem d_M_runArithmetic_107 : decode prog_14_method_133_code 107 = .ok (.iload 5, 2) := by decide +kernel
theorem d_M_runArithmetic_109 : decode prog_14_method_133_code 109 = .ok (.laload, 1) := by decide +kernel
theorem d_M_runArithmetic_110 : decode prog_14_method_133_code 110 = .ok (.lconst 1, 1) := by decide +kernel
theorem d_M_runArithmetic_111 : decode prog_14_method_133_code 111 = .ok (.bipush 8, 2) := by decide +kernel
theorem d_M_runArithmetic_113 : decode prog_14_method_133_code 113 = .ok (.iload 6, 2) := by decide +kernel
theorem d_M_runArithmetic_115 : decode prog_14_method_133_code 115 = .ok (.imul, 1) := by decide +kernel
theorem d_M_runArithmetic_116 : decode prog_14_method_133_code 116 = .ok (.lshl, 1) := by decide +kernel
theorem d_M_runArithmetic_117 : decode prog_14_method_133_code 117 = .ok (.lconst 1, 1) := by decide +kernel
theorem d_M_runArithmetic_118 : decode prog_14_method_133_code 118 = .ok (.lsub, 1) := by decide +kernel
theorem d_M_runArithmetic_119 : decode prog_14_method_133_code 119 = .ok (.land, 1) := by decide +kernel
theorem d_M_runArithmetic_120 : decode prog_14_method_133_code 120 = .ok (.lastore, 1) := by decide +kernel
theorem d_M_runArithmetic_121 : decode prog_14_method_133_code 121 = .ok (.goto 117, 3) := by decide +kernel
theorem d_M_runArithmetic_93 : decode prog_14_method_133_code 93 = .ok (.aload_n 0, 1) := by decide +kernel
theorem d_M_runArithmetic_94 : decode prog_14_method_133_code 94 = .ok (.getfield 77, 3) := by decide +kernel
theorem d_M_runArithmetic_97 : decode prog_14_method_133_code 97 = .ok (.iload 5, 2) := by decide +kernel
theorem d_M_runArithmetic_99 : decode prog_14_method_133_code 99 = .ok (.laload, 1) := by decide +kernel
theorem d_M_runArithmetic_100 : decode prog_14_method_133_code 100 = .ok (.goto 20, 3) := by decide +kernel
theorem d_M_runArithmetic_33 : decode prog_14_method_133_code 33 = .ok (.aload_n 0, 1) := by decide +kernel
theorem d_M_runArithmetic_34 : decode prog_14_method_133_code 34 = .ok (.getfield 77, 3) := by decide +kernel
theorem d_M_runArithmetic_37 : decode prog_14_method_133_code 37 = .ok (.iload 5, 2) := by decide +kernel
theorem d_M_runArithmetic_39 : decode prog_14_method_133_code 39 = .ok (.iload_n 3, 1) := by decide +kernel
theorem d_M_runArithmetic_40 : decode prog_14_method_133_code 40 = .ok (.invokestatic 339, 3) := by decide +kernel
theorem d_M_runArithmetic_43 : decode prog_14_method_133_code 43 = .ok (.ifCond .eq 18, 3) := by decide +kernel
theorem d_M_runArithmetic_61 : decode prog_14_method_133_code 61 = .ok (.aload_n 0, 1) := by decide +kernel
theorem d_M_runArithmetic_62 : decode prog_14_method_133_code 62 = .ok (.getfield 77, 3) := by decide +kernel
theorem d_M_runArithmetic_65 : decode prog_14_method_133_code 65 = .ok (.iload 5, 2) := by decide +kernel
theorem d_M_runArithmetic_67 : decode prog_14_method_133_code 67 = .ok (.laload, 1) := by decide +kernel
theorem d_M_runArithmetic_68 : decode prog_14_method_133_code 68 = .ok (.lneg, 1) := by decide +kernel
theorem d_M_runArithmetic_69 : decode prog_14_method_133_code 69 = .ok (.lastore, 1) := by decide +kernel
theorem d_M_runArithmetic_70 : decode prog_14_method_133_code 70 = .ok (.goto 168, 3) := by decide +kernel
theorem d_M_runArithmetic_46 : decode prog_14_method_133_code 46 = .ok (.aload_n 0, 1) := by decide +kernel
theorem d_M_runArithmetic_47 : decode prog_14_method_133_code 47 = .ok (.getfield 77, 3) := by decide +kernel
theorem d_M_runArithmetic_50 : decode prog_14_method_133_code 50 = .ok (.iload 5, 2) := by decide +kernel
theorem d_M_runArithmetic_52 : decode prog_14_method_133_code 52 = .ok (.laload, 1) := by decide +kernel
theorem d_M_runArithmetic_53 : decode prog_14_method_133_code 53 = .ok (.lneg, 1) := by decide +kernel
theorem d_M_runArithmetic_54 : decode prog_14_method_133_code 54 = .ok (.ldc2_w 203, 3) := by decide +kernel
theorem d_M_runArithmetic_57 : decode prog_14_method_133_code 57 = .ok (.land, 1) := by decide +kernel
theorem d_M_runArithmetic_58 : decode prog_14_method_133_code 58 = .ok (.goto 11, 3) := by decide +kernel
abbrev y_M_runArithmetic : MethodName := ⟨"FilterGuardModel", "runArithmetic", "(J)V"⟩
def rm_M_runArithmetic : Room := { frames := 4, cells := 0, slots := 0, locals := 105 }
abbrev q_M_runArithmetic (D : va_G) (ad : Nat → Nat → Nat) (ca : Nat → ClassId) (N : Nat → Nat) (M0 MZ : me_M) (A : Nat → Prop) : Array Value → Jvm.State → Outcome → Jvm.State → Prop := va_Qv (fun (_ : Unit) => me_wf N MZ ∧ me_kp M0 MZ) (fg_B D A (fun _ => me_W ad ca MZ) (fun _ => [])) A
set_option maxHeartbeats 4000000 in
set_option maxRecDepth 100000 in
theorem c_M_runArithmetic (l : Launch) (D : va_G) (ad : Nat → Nat → Nat) (ca : Nat → ClassId) (N : Nat → Nat) (M0 MZ : me_M) (j0 : Nat) (x1 : Int64) (h : f_M_runArithmetic M0 j0 x1 = (some MZ)) (hwf : me_wf N M0) (hj0 : j0 < N 1) (sz : Nat) : Met l y_M_runArithmetic (fg_w y_M_runArithmetic prog_14_method_133_code 10 none) rm_M_runArithmetic (va_Pc [.ref (ad 1 j0), .long x1] (fz_P D (me_T ca) (me_W ad ca M0) sz)) (q_M_runArithmetic D ad ca N M0 MZ (va_A (me_W ad ca M0) sz)) rm_M_runArithmetic.cells rm_M_runArithmetic.slots (va_A (me_W ad ca M0) sz) := by
  refine fz_enter (fun A => q_M_runArithmetic D ad ca N M0 MZ A) (by decide +kernel) (Nat.le_of_ble_eq_true rfl) ?_
  intro p e s m below meth c ls A hx hb hml hown hts hr hlocks hin hP hK hD hS hA hX hl hz
  have hl : lv_has ls 10 [(0, .ref (ad 1 j0)), (1, .long x1)] := hl
  unfold f_M_runArithmetic at h
  have hkp : me_kp M0 M0 := me_kp.rf
  have hkb := hkp
  have b_137 : ∀ (fu : Nat), ∀ (M : me_M) (y5 : Int32) (y6 : Int32) (y7 : Int64) (y9 : Int32) (H : Heap) (locs : List Loc) (ls : Array Slot), f_M_runArithmetic_l137 j0 fu M y5 y6 y7 y9 = (some MZ) → me_wf N M → me_kp M0 M → va_P D classes (me_W ad ca M) H → va_D A (me_W ad ca M) → va_S A s.heap H locs → lv_has ls 10 [(0, .ref (ad 1 j0)), (5, .int y5), (6, .int y6), (7, .long y7), (9, .int y9)] → W p l e rm_M_runArithmetic s m [.ref (ad 1 j0), .long x1].toArray below meth c H locs 0 0 (MQ below (q_M_runArithmetic D ad ca N M0 MZ A) [.ref (ad 1 j0), .long x1].toArray s rm_M_runArithmetic.cells rm_M_runArithmetic.slots A) (F0 m 137 ls []) := by
    intro fu
    induction fu with
    | zero =>
      intro M y5 y6 y7 y9 H locs ls h hwf hkp hP hD hS hl
      cases h
    | succ fu ih =>
      intro M y5 y6 y7 y9 H locs ls h hwf hkp hP hD hS hl
      unfold f_M_runArithmetic_l137 at h
      have hkb := hkp
      refine lv_iload hx hb d_M_runArithmetic_137 (lv_at hl 4 rfl) ?_
      refine lv_iload hx hb d_M_runArithmetic_139 (lv_at hl 2 rfl) ?_
      refine lv_icmp_ge (tgt := 175) hx hb d_M_runArithmetic_141 (by decide) (fun c1 => ?_) (fun c1 => ?_)
      · have h := if_t c1 h
        refine lv_aload_n hx hb d_M_runArithmetic_175 rfl (lv_at hl 0 rfl) ?_
        refine g_M_43 hx hb hts hown hK hP hwf hj0 (hts _ u_1784) d_M_runArithmetic_176 ?_
        obtain ⟨j2, e3, h⟩ := bd_ob h
        have hj2 : j2 < N 16 := (hwf.2.1 1 j0 43 _ e3 (by decide) hj0)
        refine me_opt (j := j2) e3 ?_
        refine lv_iload hx hb d_M_runArithmetic_179 (lv_at hl 1 rfl) ?_
        refine lv_lload hx hb d_M_runArithmetic_181 (lv_at hl 3 rfl) ?_
        obtain ⟨g4, h⟩ := gd_ob h
        obtain ⟨M5, eM5, h⟩ := st_ob h
        refine me_last eM5 hx hb hK hP hD hwf hS hj2 g4 d_M_runArithmetic_183 (fun H locs hP hD hwf hS => ?_)
        have hkp := kp_L eM5 hkp
        refine lv_goto (tgt := 238) hx hb d_M_runArithmetic_184 (by decide) ?_
        exact me_retv (me_kp M0) h hx hb hr hlocks hwf hkp hP hK hD hS d_M_runArithmetic_238
      have h := if_f c1 h
      refine lv_lload hx hb d_M_runArithmetic_144 (lv_at hl 3 rfl) ?_
      refine lv_bipush (v := 8) hx hb d_M_runArithmetic_146 (by decide) ?_
      refine lv_lshl (v := jlshl y7 (8 : Int32)) hx hb d_M_runArithmetic_148 rfl ?_
      refine lv_aload_n hx hb d_M_runArithmetic_149 rfl (lv_at hl 0 rfl) ?_
      refine g_M_43 hx hb hts hown hK hP hwf hj0 (hts _ u_1784) d_M_runArithmetic_150 ?_
      obtain ⟨j6, e7, h⟩ := bd_ob h
      have hj6 : j6 < N 16 := (hwf.2.1 1 j0 43 _ e7 (by decide) hj0)
      refine me_opt (j := j6) e7 ?_
      refine lv_iload hx hb d_M_runArithmetic_153 (lv_at hl 1 rfl) ?_
      obtain ⟨g8, h⟩ := gd_ob h
      refine me_lald hx hb hK hP hwf hj6 g8 d_M_runArithmetic_155 ?_
      refine lv_bipush (v := 8) hx hb d_M_runArithmetic_156 (by decide) ?_
      refine lv_iload hx hb d_M_runArithmetic_158 (lv_at hl 4 rfl) ?_
      refine lv_imul hx hb d_M_runArithmetic_160 ?_
      refine lv_lshr (v := jlshr (mL M 16 j6 y5.toNatClampNeg) (8 * y9)) hx hb d_M_runArithmetic_161 rfl ?_
      refine lv_ldc2 hx hb hown (hts _ u_1980) d_M_runArithmetic_162 ?_
      refine lv_land hx hb d_M_runArithmetic_165 ?_
      refine lv_lor hx hb d_M_runArithmetic_166 ?_
      obtain ⟨v9, ev9, h⟩ := st_ob h
      refine fg_topl (y := v9) ev9.symm ?_
      refine lv_lstore (lv' := [(7, .long v9), (0, .ref (ad 1 j0)), (5, .int y5), (6, .int y6), (9, .int y9)]) hx hb d_M_runArithmetic_167 hl (by decide) rfl (fun ls hl => ?_)
      refine lv_iinc (v := y9 + 1) (lv' := [(9, .int (y9 + 1)), (7, .long v9), (0, .ref (ad 1 j0)), (5, .int y5), (6, .int y6)]) hx hb d_M_runArithmetic_169 hl (k := 4) rfl (by rfl) (by decide) rfl (fun ls hl => ?_)
      refine lv_goto (tgt := 137) hx hb d_M_runArithmetic_172 (by decide) ?_
      exact ih M y5 y6 v9 (y9 + 1) _ _ _ h hwf hkp hP hD hS (lv_sub hl [2, 3, 4, 1, 0] rfl)
  refine lv_lload_n hx hb d_M_runArithmetic_0 rfl (lv_at hl 1 rfl) ?_
  obtain ⟨r10, er10, h⟩ := bd_ob h
  refine me_pani' (r0 := r10) (fg_runS (wc := []) (tc := []) (A2 := A) (As := [.long x1]) (rest := []) ⟨hx, hb, hml, hown, hts⟩ (c_M_opOf l D r10 x1 er10 _) (by show fg_nm y_M_opOf 1; decide +kernel) u_1997 u_1998 u_192 u_1999 ⟨Nat.le_of_ble_eq_true rfl, Nat.le_of_ble_eq_true rfl⟩ hX me_P0 (hK.sub (tys' := []) [] rfl) me_D0 rfl hl.1 (Nat.le_of_ble_eq_true rfl) d_M_runArithmetic_1 ⟨Nat.le_of_ble_eq_true rfl, Nat.le_of_ble_eq_true rfl⟩) hP hD hK hS hA rfl rfl (fun H locs hw hP hD hS => ?_)
  refine lv_istore_n (lv' := [(3, .int r10), (0, .ref (ad 1 j0)), (1, .long x1)]) hx hb d_M_runArithmetic_4 rfl hl (by decide) rfl (fun ls hl => ?_)
  refine lv_iload_n hx hb d_M_runArithmetic_5 rfl (lv_at hl 0 rfl) ?_
  obtain ⟨r11, er11, h⟩ := bd_ob h
  refine me_pani' (r0 := r11) (fg_runS (wc := []) (tc := []) (A2 := A) (As := [.int r10]) (rest := []) ⟨hx, hb, hml, hown, hts⟩ (c_M_instruction l D r11 r10 er11 _) (by show fg_nm y_M_instruction 1; decide +kernel) u_2000 u_2001 u_192 u_2002 ⟨Nat.le_of_ble_eq_true rfl, Nat.le_of_ble_eq_true rfl⟩ hX me_P0 (hK.sub (tys' := []) [] rfl) me_D0 rfl hl.1 (Nat.le_of_ble_eq_true rfl) d_M_runArithmetic_6 ⟨Nat.le_of_ble_eq_true rfl, Nat.le_of_ble_eq_true rfl⟩) hP hD hK hS hA rfl rfl (fun H locs hw hP hD hS => ?_)
  refine lv_istore (lv' := [(4, .int r11), (3, .int r10), (0, .ref (ad 1 j0)), (1, .long x1)]) hx hb d_M_runArithmetic_9 hl (by decide) rfl (fun ls hl => ?_)
  refine lv_lload_n hx hb d_M_runArithmetic_11 rfl (lv_at hl 3 rfl) ?_
  obtain ⟨r12, er12, h⟩ := bd_ob h
  refine me_pani' (r0 := r12) (fg_runS (wc := []) (tc := []) (A2 := A) (As := [.long x1]) (rest := []) ⟨hx, hb, hml, hown, hts⟩ (c_M_toOf l D r12 x1 er12 _) (by show fg_nm y_M_toOf 1; decide +kernel) u_2006 u_2007 u_192 u_2008 ⟨Nat.le_of_ble_eq_true rfl, Nat.le_of_ble_eq_true rfl⟩ hX me_P0 (hK.sub (tys' := []) [] rfl) me_D0 rfl hl.1 (Nat.le_of_ble_eq_true rfl) d_M_runArithmetic_12 ⟨Nat.le_of_ble_eq_true rfl, Nat.le_of_ble_eq_true rfl⟩) hP hD hK hS hA rfl rfl (fun H locs hw hP hD hS => ?_)
  refine lv_istore (lv' := [(5, .int r12), (4, .int r11), (3, .int r10), (0, .ref (ad 1 j0)), (1, .long x1)]) hx hb d_M_runArithmetic_15 hl (by decide) rfl (fun ls hl => ?_)
  refine lv_lload_n hx hb d_M_runArithmetic_17 rfl (lv_at hl 4 rfl) ?_
  obtain ⟨r13, er13, h⟩ := bd_ob h
  refine me_pani' (r0 := r13) (fg_runS (wc := []) (tc := []) (A2 := A) (As := [.long x1]) (rest := []) ⟨hx, hb, hml, hown, hts⟩ (c_M_fieldOf l D r13 x1 er13 _) (by show fg_nm y_M_fieldOf 1; decide +kernel) u_2016 u_2017 u_192 u_2018 ⟨Nat.le_of_ble_eq_true rfl, Nat.le_of_ble_eq_true rfl⟩ hX me_P0 (hK.sub (tys' := []) [] rfl) me_D0 rfl hl.1 (Nat.le_of_ble_eq_true rfl) d_M_runArithmetic_18 ⟨Nat.le_of_ble_eq_true rfl, Nat.le_of_ble_eq_true rfl⟩) hP hD hK hS hA rfl rfl (fun H locs hw hP hD hS => ?_)
  refine lv_bipush (v := 8) hx hb d_M_runArithmetic_21 (by decide) ?_
  refine lv_idiv hx hb d_M_runArithmetic_23 (by decide) ?_
  obtain ⟨v14, ev14, h⟩ := st_ob h
  refine fg_topi (y := v14) ev14.symm ?_
  refine lv_istore (lv' := [(6, .int v14), (5, .int r12), (4, .int r11), (3, .int r10), (0, .ref (ad 1 j0)), (1, .long x1)]) hx hb d_M_runArithmetic_24 hl (by decide) rfl (fun ls hl => ?_)
  refine lv_iload hx hb d_M_runArithmetic_26 (lv_at hl 2 rfl) ?_
  refine lv_bipush (v := 7) hx hb d_M_runArithmetic_28 (by decide) ?_
  refine lv_icmp_ne (tgt := 73) hx hb d_M_runArithmetic_30 (by decide) (fun c15 => ?_) (fun c15 => ?_)
  · have h := if_f c15 h
    refine lv_iload hx hb d_M_runArithmetic_73 (lv_at hl 2 rfl) ?_
    refine lv_bipush (v := 8) hx hb d_M_runArithmetic_75 (by decide) ?_
    refine lv_icmp_ne (tgt := 124) hx hb d_M_runArithmetic_77 (by decide) (fun c16 => ?_) (fun c16 => ?_)
    · have h := if_f c16 h
      refine lv_iload hx hb d_M_runArithmetic_124 (lv_at hl 2 rfl) ?_
      refine lv_bipush (v := 9) hx hb d_M_runArithmetic_126 (by decide) ?_
      refine lv_icmp_ne (tgt := 187) hx hb d_M_runArithmetic_128 (by decide) (fun c17 => ?_) (fun c17 => ?_)
      · have h := if_f c17 h
        refine lv_aload_n hx hb d_M_runArithmetic_187 rfl (lv_at hl 4 rfl) ?_
        refine g_M_43 hx hb hts hown hK hP hwf hj0 (hts _ u_1784) d_M_runArithmetic_188 ?_
        obtain ⟨j18, e19, h⟩ := bd_ob h
        have hj18 : j18 < N 16 := (hwf.2.1 1 j0 43 _ e19 (by decide) hj0)
        refine me_opt (j := j18) e19 ?_
        refine lv_iload hx hb d_M_runArithmetic_191 (lv_at hl 1 rfl) ?_
        refine lv_iload_n hx hb d_M_runArithmetic_193 rfl (lv_at hl 3 rfl) ?_
        refine lv_iconst (v := 4) hx hb d_M_runArithmetic_194 (by decide) ?_
        refine lv_ishr hx hb d_M_runArithmetic_195 ?_
        refine fg_topi (y := jishr r10 4) rfl ?_
        obtain ⟨r20, er20, h⟩ := bd_ob h
        refine me_pani' (r0 := r20) (fg_runS (wc := []) (tc := []) (A2 := A) (As := [.int (jishr r10 4)]) (rest := [.int r12, .ref (ad 16 j18)]) ⟨hx, hb, hml, hown, hts⟩ (c_M_operationOf l D r20 (jishr r10 4) er20 _) (by show fg_nm y_M_operationOf 1; decide +kernel) u_2380 u_2381 u_192 u_2382 ⟨Nat.le_of_ble_eq_true rfl, Nat.le_of_ble_eq_true rfl⟩ hX me_P0 (hK.sub (tys' := []) [] rfl) me_D0 rfl hl.1 (Nat.le_of_ble_eq_true rfl) d_M_runArithmetic_196 ⟨Nat.le_of_ble_eq_true rfl, Nat.le_of_ble_eq_true rfl⟩) hP hD hK hS hA rfl rfl (fun H locs hw hP hD hS => ?_)
        refine lv_aload_n hx hb d_M_runArithmetic_199 rfl (lv_at hl 4 rfl) ?_
        refine g_M_43 hx hb hts hown hK hP hwf hj0 (hts _ u_1784) d_M_runArithmetic_200 ?_
        refine me_opt (j := j18) e19 ?_
        refine lv_iload hx hb d_M_runArithmetic_203 (lv_at hl 1 rfl) ?_
        obtain ⟨g21, h⟩ := gd_ob h
        refine me_lald hx hb hK hP hwf hj18 g21 d_M_runArithmetic_205 ?_
        refine lv_iload_n hx hb d_M_runArithmetic_206 rfl (lv_at hl 3 rfl) ?_
        obtain ⟨r22, er22, h⟩ := bd_ob h
        refine me_pani' (r0 := r22) (fg_runS (wc := []) (tc := []) (A2 := A) (As := [.int r10]) (rest := [.long (mL M0 16 j18 r12.toNatClampNeg), .int r20, .int r12, .ref (ad 16 j18)]) ⟨hx, hb, hml, hown, hts⟩ (c_M_hasFrom l D r22 r10 er22 _) (by show fg_nm y_M_hasFrom 1; decide +kernel) u_2020 u_2021 u_192 u_2022 ⟨Nat.le_of_ble_eq_true rfl, Nat.le_of_ble_eq_true rfl⟩ hX me_P0 (hK.sub (tys' := []) [] rfl) me_D0 rfl hl.1 (Nat.le_of_ble_eq_true rfl) d_M_runArithmetic_207 ⟨Nat.le_of_ble_eq_true rfl, Nat.le_of_ble_eq_true rfl⟩) hP hD hK hS hA rfl rfl (fun H locs hw hP hD hS => ?_)
        have zr22 := hw
        refine lv_if_eq (tgt := 225) hx hb d_M_runArithmetic_210 (by decide) (fun c23 => ?_) (fun c23 => ?_)
        · have h := if_t c23 h
          refine lv_lload_n hx hb d_M_runArithmetic_225 rfl (lv_at hl 5 rfl) ?_
          obtain ⟨r24, er24, h⟩ := bd_ob h
          refine me_pani' (r0 := r24) (fg_runS (wc := []) (tc := []) (A2 := A) (As := [.long x1]) (rest := [.long (mL M0 16 j18 r12.toNatClampNeg), .int r20, .int r12, .ref (ad 16 j18)]) ⟨hx, hb, hml, hown, hts⟩ (c_M_fieldOf l D r24 x1 er24 _) (by show fg_nm y_M_fieldOf 1; decide +kernel) u_2016 u_2017 u_192 u_2018 ⟨Nat.le_of_ble_eq_true rfl, Nat.le_of_ble_eq_true rfl⟩ hX me_P0 (hK.sub (tys' := []) [] rfl) me_D0 rfl hl.1 (Nat.le_of_ble_eq_true rfl) d_M_runArithmetic_226 ⟨Nat.le_of_ble_eq_true rfl, Nat.le_of_ble_eq_true rfl⟩) hP hD hK hS hA rfl rfl (fun H locs hw hP hD hS => ?_)
          refine lv_i2l (v := r24.toInt64) hx hb d_M_runArithmetic_229 rfl ?_
          refine lv_iload_n hx hb d_M_runArithmetic_230 rfl (lv_at hl 3 rfl) ?_
          obtain ⟨r25, er25, h⟩ := bd_ob h
          refine me_pani' (r0 := r25) (fg_runS (wc := []) (tc := []) (A2 := A) (As := [.int r10]) (rest := [.long r24.toInt64, .long (mL M0 16 j18 r12.toNatClampNeg), .int r20, .int r12, .ref (ad 16 j18)]) ⟨hx, hb, hml, hown, hts⟩ (c_M_isNarrow l D r25 r10 er25 _) (by show fg_nm y_M_isNarrow 1; decide +kernel) u_2026 u_2027 u_192 u_2028 ⟨Nat.le_of_ble_eq_true rfl, Nat.le_of_ble_eq_true rfl⟩ hX me_P0 (hK.sub (tys' := []) [] rfl) me_D0 rfl hl.1 (Nat.le_of_ble_eq_true rfl) d_M_runArithmetic_231 ⟨Nat.le_of_ble_eq_true rfl, Nat.le_of_ble_eq_true rfl⟩) hP hD hK hS hA rfl rfl (fun H locs hw hP hD hS => ?_)
          have zr25 := hw
          obtain ⟨r26, er26, h⟩ := bd_ob h
          refine me_panl' (r0 := r26) (fg_runS (wc := []) (tc := []) (A2 := A) (As := [.int r20, .long (mL M0 16 j18 r12.toNatClampNeg), .long r24.toInt64, .int r25]) (rest := [.int r12, .ref (ad 16 j18)]) ⟨hx, hb, hml, hown, hts⟩ (c_M_reckon l D r26 r20 (mL M0 16 j18 r12.toNatClampNeg) r24.toInt64 r25 er26 zr25 _) (by show fg_nm y_M_reckon 4; decide +kernel) u_2512 u_2513 u_192 u_2514 ⟨Nat.le_of_ble_eq_true rfl, Nat.le_of_ble_eq_true rfl⟩ hX me_P0 (hK.sub (tys' := []) [] rfl) me_D0 rfl hl.1 (Nat.le_of_ble_eq_true rfl) d_M_runArithmetic_234 ⟨Nat.le_of_ble_eq_true rfl, Nat.le_of_ble_eq_true rfl⟩) hP hD hK hS hA rfl rfl (fun H locs hw hP hD hS => ?_)
          obtain ⟨M27, eM27, h⟩ := st_ob h
          refine me_last eM27 hx hb hK hP hD hwf hS hj18 g21 d_M_runArithmetic_237 (fun H locs hP hD hwf hS => ?_)
          have hkp := kp_L eM27 hkp
          exact me_retv (me_kp M0) h hx hb hr hlocks hwf hkp hP hK hD hS d_M_runArithmetic_238
        have h := if_f c23 h
        refine lv_aload_n hx hb d_M_runArithmetic_213 rfl (lv_at hl 4 rfl) ?_
        refine g_M_43 hx hb hts hown hK hP hwf hj0 (hts _ u_1784) d_M_runArithmetic_214 ?_
        refine me_opt (j := j18) e19 ?_
        refine lv_lload_n hx hb d_M_runArithmetic_217 rfl (lv_at hl 5 rfl) ?_
        obtain ⟨r28, er28, h⟩ := bd_ob h
        refine me_pani' (r0 := r28) (fg_runS (wc := []) (tc := []) (A2 := A) (As := [.long x1]) (rest := [.ref (ad 16 j18), .long (mL M0 16 j18 r12.toNatClampNeg), .int r20, .int r12, .ref (ad 16 j18)]) ⟨hx, hb, hml, hown, hts⟩ (c_M_fromOf l D r28 x1 er28 _) (by show fg_nm y_M_fromOf 1; decide +kernel) u_2010 u_2011 u_192 u_2012 ⟨Nat.le_of_ble_eq_true rfl, Nat.le_of_ble_eq_true rfl⟩ hX me_P0 (hK.sub (tys' := []) [] rfl) me_D0 rfl hl.1 (Nat.le_of_ble_eq_true rfl) d_M_runArithmetic_218 ⟨Nat.le_of_ble_eq_true rfl, Nat.le_of_ble_eq_true rfl⟩) hP hD hK hS hA rfl rfl (fun H locs hw hP hD hS => ?_)
        obtain ⟨g29, h⟩ := gd_ob h
        refine me_lald hx hb hK hP hwf hj18 g29 d_M_runArithmetic_221 ?_
        refine lv_goto (tgt := 230) hx hb d_M_runArithmetic_222 (by decide) ?_
        refine lv_iload_n hx hb d_M_runArithmetic_230 rfl (lv_at hl 3 rfl) ?_
        obtain ⟨r30, er30, h⟩ := bd_ob h
        refine me_pani' (r0 := r30) (fg_runS (wc := []) (tc := []) (A2 := A) (As := [.int r10]) (rest := [.long (mL M0 16 j18 r28.toNatClampNeg), .long (mL M0 16 j18 r12.toNatClampNeg), .int r20, .int r12, .ref (ad 16 j18)]) ⟨hx, hb, hml, hown, hts⟩ (c_M_isNarrow l D r30 r10 er30 _) (by show fg_nm y_M_isNarrow 1; decide +kernel) u_2026 u_2027 u_192 u_2028 ⟨Nat.le_of_ble_eq_true rfl, Nat.le_of_ble_eq_true rfl⟩ hX me_P0 (hK.sub (tys' := []) [] rfl) me_D0 rfl hl.1 (Nat.le_of_ble_eq_true rfl) d_M_runArithmetic_231 ⟨Nat.le_of_ble_eq_true rfl, Nat.le_of_ble_eq_true rfl⟩) hP hD hK hS hA rfl rfl (fun H locs hw hP hD hS => ?_)
        have zr30 := hw
        obtain ⟨r31, er31, h⟩ := bd_ob h
        refine me_panl' (r0 := r31) (fg_runS (wc := []) (tc := []) (A2 := A) (As := [.int r20, .long (mL M0 16 j18 r12.toNatClampNeg), .long (mL M0 16 j18 r28.toNatClampNeg), .int r30]) (rest := [.int r12, .ref (ad 16 j18)]) ⟨hx, hb, hml, hown, hts⟩ (c_M_reckon l D r31 r20 (mL M0 16 j18 r12.toNatClampNeg) (mL M0 16 j18 r28.toNatClampNeg) r30 er31 zr30 _) (by show fg_nm y_M_reckon 4; decide +kernel) u_2512 u_2513 u_192 u_2514 ⟨Nat.le_of_ble_eq_true rfl, Nat.le_of_ble_eq_true rfl⟩ hX me_P0 (hK.sub (tys' := []) [] rfl) me_D0 rfl hl.1 (Nat.le_of_ble_eq_true rfl) d_M_runArithmetic_234 ⟨Nat.le_of_ble_eq_true rfl, Nat.le_of_ble_eq_true rfl⟩) hP hD hK hS hA rfl rfl (fun H locs hw hP hD hS => ?_)
        obtain ⟨M32, eM32, h⟩ := st_ob h
        refine me_last eM32 hx hb hK hP hD hwf hS hj18 g21 d_M_runArithmetic_237 (fun H locs hP hD hwf hS => ?_)
        have hkp := kp_L eM32 hkp
        exact me_retv (me_kp M0) h hx hb hr hlocks hwf hkp hP hK hD hS d_M_runArithmetic_238
      have h := if_t c17 h
      refine lv_lconst (v := 0) hx hb d_M_runArithmetic_131 (by decide) ?_
      refine lv_lstore (lv' := [(7, .long 0), (6, .int v14), (5, .int r12), (4, .int r11), (3, .int r10), (0, .ref (ad 1 j0)), (1, .long x1)]) hx hb d_M_runArithmetic_132 hl (by decide) rfl (fun ls hl => ?_)
      refine lv_iconst (v := 0) hx hb d_M_runArithmetic_134 (by decide) ?_
      refine lv_istore (lv' := [(9, .int 0), (7, .long 0), (6, .int v14), (5, .int r12), (4, .int r11), (3, .int r10), (0, .ref (ad 1 j0)), (1, .long x1)]) hx hb d_M_runArithmetic_135 hl (by decide) rfl (fun ls hl => ?_)
      exact b_137 _ M0 r12 v14 (0 : Int64) (0 : Int32) _ _ _ h hwf hkp hP hD hS (lv_sub hl [6, 3, 2, 1, 0] rfl)
    have h := if_t c16 h
    refine lv_aload_n hx hb d_M_runArithmetic_80 rfl (lv_at hl 4 rfl) ?_
    refine g_M_43 hx hb hts hown hK hP hwf hj0 (hts _ u_1784) d_M_runArithmetic_81 ?_
    obtain ⟨j33, e34, h⟩ := bd_ob h
    have hj33 : j33 < N 16 := (hwf.2.1 1 j0 43 _ e34 (by decide) hj0)
    refine me_opt (j := j33) e34 ?_
    refine lv_iload hx hb d_M_runArithmetic_84 (lv_at hl 1 rfl) ?_
    refine lv_iload hx hb d_M_runArithmetic_86 (lv_at hl 0 rfl) ?_
    refine lv_bipush (v := 8) hx hb d_M_runArithmetic_88 (by decide) ?_
    refine lv_icmp_ne (tgt := 103) hx hb d_M_runArithmetic_90 (by decide) (fun c35 => ?_) (fun c35 => ?_)
    · have h := if_f c35 h
      refine lv_aload_n hx hb d_M_runArithmetic_103 rfl (lv_at hl 4 rfl) ?_
      refine g_M_43 hx hb hts hown hK hP hwf hj0 (hts _ u_1784) d_M_runArithmetic_104 ?_
      refine me_opt (j := j33) e34 ?_
      refine lv_iload hx hb d_M_runArithmetic_107 (lv_at hl 1 rfl) ?_
      obtain ⟨g36, h⟩ := gd_ob h
      refine me_lald hx hb hK hP hwf hj33 g36 d_M_runArithmetic_109 ?_
      refine lv_lconst (v := 1) hx hb d_M_runArithmetic_110 (by decide) ?_
      refine lv_bipush (v := 8) hx hb d_M_runArithmetic_111 (by decide) ?_
      refine lv_iload hx hb d_M_runArithmetic_113 (lv_at hl 0 rfl) ?_
      refine lv_imul hx hb d_M_runArithmetic_115 ?_
      refine lv_lshl (v := jlshl (1 : Int64) (8 * v14)) hx hb d_M_runArithmetic_116 rfl ?_
      refine lv_lconst (v := 1) hx hb d_M_runArithmetic_117 (by decide) ?_
      refine lv_lsub hx hb d_M_runArithmetic_118 ?_
      refine lv_land hx hb d_M_runArithmetic_119 ?_
      obtain ⟨v37, ev37, h⟩ := st_ob h
      refine fg_topl (y := v37) ev37.symm ?_
      obtain ⟨M38, eM38, h⟩ := st_ob h
      refine me_last eM38 hx hb hK hP hD hwf hS hj33 g36 d_M_runArithmetic_120 (fun H locs hP hD hwf hS => ?_)
      have hkp := kp_L eM38 hkp
      refine lv_goto (tgt := 238) hx hb d_M_runArithmetic_121 (by decide) ?_
      exact me_retv (me_kp M0) h hx hb hr hlocks hwf hkp hP hK hD hS d_M_runArithmetic_238
    have h := if_t c35 h
    refine lv_aload_n hx hb d_M_runArithmetic_93 rfl (lv_at hl 4 rfl) ?_
    refine g_M_43 hx hb hts hown hK hP hwf hj0 (hts _ u_1784) d_M_runArithmetic_94 ?_
    refine me_opt (j := j33) e34 ?_
    refine lv_iload hx hb d_M_runArithmetic_97 (lv_at hl 1 rfl) ?_
    obtain ⟨g39, h⟩ := gd_ob h
    refine me_lald hx hb hK hP hwf hj33 g39 d_M_runArithmetic_99 ?_
    refine lv_goto (tgt := 120) hx hb d_M_runArithmetic_100 (by decide) ?_
    obtain ⟨M40, eM40, h⟩ := st_ob h
    refine me_last eM40 hx hb hK hP hD hwf hS hj33 g39 d_M_runArithmetic_120 (fun H locs hP hD hwf hS => ?_)
    have hkp := kp_L eM40 hkp
    refine lv_goto (tgt := 238) hx hb d_M_runArithmetic_121 (by decide) ?_
    exact me_retv (me_kp M0) h hx hb hr hlocks hwf hkp hP hK hD hS d_M_runArithmetic_238
  have h := if_t c15 h
  refine lv_aload_n hx hb d_M_runArithmetic_33 rfl (lv_at hl 4 rfl) ?_
  refine g_M_43 hx hb hts hown hK hP hwf hj0 (hts _ u_1784) d_M_runArithmetic_34 ?_
  obtain ⟨j41, e42, h⟩ := bd_ob h
  have hj41 : j41 < N 16 := (hwf.2.1 1 j0 43 _ e42 (by decide) hj0)
  refine me_opt (j := j41) e42 ?_
  refine lv_iload hx hb d_M_runArithmetic_37 (lv_at hl 1 rfl) ?_
  refine lv_iload_n hx hb d_M_runArithmetic_39 rfl (lv_at hl 3 rfl) ?_
  obtain ⟨r43, er43, h⟩ := bd_ob h
  refine me_pani' (r0 := r43) (fg_runS (wc := []) (tc := []) (A2 := A) (As := [.int r10]) (rest := [.int r12, .ref (ad 16 j41)]) ⟨hx, hb, hml, hown, hts⟩ (c_M_isNarrow l D r43 r10 er43 _) (by show fg_nm y_M_isNarrow 1; decide +kernel) u_2026 u_2027 u_192 u_2028 ⟨Nat.le_of_ble_eq_true rfl, Nat.le_of_ble_eq_true rfl⟩ hX me_P0 (hK.sub (tys' := []) [] rfl) me_D0 rfl hl.1 (Nat.le_of_ble_eq_true rfl) d_M_runArithmetic_40 ⟨Nat.le_of_ble_eq_true rfl, Nat.le_of_ble_eq_true rfl⟩) hP hD hK hS hA rfl rfl (fun H locs hw hP hD hS => ?_)
  have zr43 := hw
  refine lv_if_eq (tgt := 61) hx hb d_M_runArithmetic_43 (by decide) (fun c44 => ?_) (fun c44 => ?_)
  · have h := if_t c44 h
    refine lv_aload_n hx hb d_M_runArithmetic_61 rfl (lv_at hl 4 rfl) ?_
    refine g_M_43 hx hb hts hown hK hP hwf hj0 (hts _ u_1784) d_M_runArithmetic_62 ?_
    refine me_opt (j := j41) e42 ?_
    refine lv_iload hx hb d_M_runArithmetic_65 (lv_at hl 1 rfl) ?_
    obtain ⟨g45, h⟩ := gd_ob h
    refine me_lald hx hb hK hP hwf hj41 g45 d_M_runArithmetic_67 ?_
    refine lv_lneg hx hb d_M_runArithmetic_68 ?_
    obtain ⟨M46, eM46, h⟩ := st_ob h
    refine me_last eM46 hx hb hK hP hD hwf hS hj41 g45 d_M_runArithmetic_69 (fun H locs hP hD hwf hS => ?_)
    have hkp := kp_L eM46 hkp
    refine lv_goto (tgt := 238) hx hb d_M_runArithmetic_70 (by decide) ?_
    exact me_retv (me_kp M0) h hx hb hr hlocks hwf hkp hP hK hD hS d_M_runArithmetic_238
  have h := if_f c44 h
  refine lv_aload_n hx hb d_M_runArithmetic_46 rfl (lv_at hl 4 rfl) ?_
  refine g_M_43 hx hb hts hown hK hP hwf hj0 (hts _ u_1784) d_M_runArithmetic_47 ?_
  refine me_opt (j := j41) e42 ?_
  refine lv_iload hx hb d_M_runArithmetic_50 (lv_at hl 1 rfl) ?_
  obtain ⟨g47, h⟩ := gd_ob h
  refine me_lald hx hb hK hP hwf hj41 g47 d_M_runArithmetic_52 ?_
  refine lv_lneg hx hb d_M_runArithmetic_53 ?_
  refine lv_ldc2 hx hb hown (hts _ u_2019) d_M_runArithmetic_54 ?_
  refine lv_land hx hb d_M_runArithmetic_57 ?_
  refine lv_goto (tgt := 69) hx hb d_M_runArithmetic_58 (by decide) ?_
  obtain ⟨M48, eM48, h⟩ := st_ob h
  refine me_last eM48 hx hb hK hP hD hwf hS hj41 g47 d_M_runArithmetic_69 (fun H locs hP hD hwf hS => ?_)
  have hkp := kp_L eM48 hkp
  refine lv_goto (tgt := 238) hx hb d_M_runArithmetic_70 (by decide) ?_
  exact me_retv (me_kp M0) h hx hb hr hlocks hwf hkp hP hK hD hS d_M_runArithmetic_238
theorem d_M_readKey_2 : decode prog_14_method_134_code 2 = .ok (.iload_n 2, 1) := by decide +kernel
theorem d_M_readKey_3 : decode prog_14_method_134_code 3 = .ok (.aload_n 0, 1) := by decide +kernel
theorem d_M_readKey_4 : decode prog_14_method_134_code 4 = .ok (.getfield 18, 3) := by decide +kernel
theorem d_M_readKey_7 : decode prog_14_method_134_code 7 = .ok (.iload_n 1, 1) := by decide +kernel
theorem d_M_readKey_8 : decode prog_14_method_134_code 8 = .ok (.iaload, 1) := by decide +kernel
theorem d_M_readKey_9 : decode prog_14_method_134_code 9 = .ok (.if_icmp .ge 29, 3) := by decide +kernel
theorem d_M_readKey_38 : decode prog_14_method_134_code 38 = .ok (.return_, 1) := by decide +kernel
theorem d_M_readKey_12 : decode prog_14_method_134_code 12 = .ok (.aload_n 0, 1) := by decide +kernel
theorem d_M_readKey_13 : decode prog_14_method_134_code 13 = .ok (.getfield 83, 3) := by decide +kernel
theorem d_M_readKey_16 : decode prog_14_method_134_code 16 = .ok (.iload_n 2, 1) := by decide +kernel
theorem d_M_readKey_17 : decode prog_14_method_134_code 17 = .ok (.aload_n 0, 1) := by decide +kernel
theorem d_M_readKey_18 : decode prog_14_method_134_code 18 = .ok (.aload_n 0, 1) := by decide +kernel
theorem d_M_readKey_19 : decode prog_14_method_134_code 19 = .ok (.getfield 77, 3) := by decide +kernel
theorem d_M_readKey_22 : decode prog_14_method_134_code 22 = .ok (.iconst 2, 1) := by decide +kernel
theorem d_M_readKey_23 : decode prog_14_method_134_code 23 = .ok (.laload, 1) := by decide +kernel
theorem d_M_readKey_24 : decode prog_14_method_134_code 24 = .ok (.iload_n 2, 1) := by decide +kernel
theorem d_M_readKey_25 : decode prog_14_method_134_code 25 = .ok (.i2l, 1) := by decide +kernel
theorem d_M_readKey_26 : decode prog_14_method_134_code 26 = .ok (.ladd, 1) := by decide +kernel
theorem d_M_readKey_27 : decode prog_14_method_134_code 27 = .ok (.invokevirtual 641, 3) := by decide +kernel
theorem d_M_readKey_30 : decode prog_14_method_134_code 30 = .ok (.i2b, 1) := by decide +kernel
theorem d_M_readKey_31 : decode prog_14_method_134_code 31 = .ok (.bastore, 1) := by decide +kernel
theorem d_M_readKey_32 : decode prog_14_method_134_code 32 = .ok (.iinc 2 1, 3) := by decide +kernel
theorem d_M_readKey_35 : decode prog_14_method_134_code 35 = .ok (.goto (-33), 3) := by decide +kernel
theorem d_M_readKey_0 : decode prog_14_method_134_code 0 = .ok (.iconst 0, 1) := by decide +kernel
theorem d_M_readKey_1 : decode prog_14_method_134_code 1 = .ok (.istore_n 2, 1) := by decide +kernel
abbrev y_M_readKey : MethodName := ⟨"FilterGuardModel", "readKey", "(I)V"⟩
def rm_M_readKey : Room := { frames := 2, cells := 0, slots := 0, locals := 42 }
abbrev q_M_readKey (D : va_G) (ad : Nat → Nat → Nat) (ca : Nat → ClassId) (N : Nat → Nat) (M0 MZ : me_M) (A : Nat → Prop) : Array Value → Jvm.State → Outcome → Jvm.State → Prop := va_Qv (fun (_ : Unit) => me_wf N MZ ∧ me_kp M0 MZ) (fg_B D A (fun _ => me_W ad ca MZ) (fun _ => [])) A
set_option maxHeartbeats 4000000 in
set_option maxRecDepth 100000 in
theorem c_M_readKey (l : Launch) (D : va_G) (ad : Nat → Nat → Nat) (ca : Nat → ClassId) (N : Nat → Nat) (M0 MZ : me_M) (j0 : Nat) (x1 : Int32) (h : f_M_readKey M0 j0 x1 = (some MZ)) (hwf : me_wf N M0) (hj0 : j0 < N 1) (sz : Nat) : Met l y_M_readKey (fg_w y_M_readKey prog_14_method_134_code 3 none) rm_M_readKey (va_Pc [.ref (ad 1 j0), .int x1] (fz_P D (me_T ca) (me_W ad ca M0) sz)) (q_M_readKey D ad ca N M0 MZ (va_A (me_W ad ca M0) sz)) rm_M_readKey.cells rm_M_readKey.slots (va_A (me_W ad ca M0) sz) := by
  refine fz_enter (fun A => q_M_readKey D ad ca N M0 MZ A) (by decide +kernel) (Nat.le_of_ble_eq_true rfl) ?_
  intro p e s m below meth c ls A hx hb hml hown hts hr hlocks hin hP hK hD hS hA hX hl hz
  have hl : lv_has ls 3 [(0, .ref (ad 1 j0)), (1, .int x1)] := hl
  unfold f_M_readKey at h
  have hkp : me_kp M0 M0 := me_kp.rf
  have hkb := hkp
  have b_2 : ∀ (fu : Nat), ∀ (M : me_M) (y2 : Int32) (H : Heap) (locs : List Loc) (ls : Array Slot), f_M_readKey_l2 j0 x1 fu M y2 = (some MZ) → me_wf N M → me_kp M0 M → va_P D classes (me_W ad ca M) H → va_D A (me_W ad ca M) → va_S A s.heap H locs → lv_has ls 3 [(0, .ref (ad 1 j0)), (1, .int x1), (2, .int y2)] → W p l e rm_M_readKey s m [.ref (ad 1 j0), .int x1].toArray below meth c H locs 0 0 (MQ below (q_M_readKey D ad ca N M0 MZ A) [.ref (ad 1 j0), .int x1].toArray s rm_M_readKey.cells rm_M_readKey.slots A) (F0 m 2 ls []) := by
    intro fu
    induction fu with
    | zero =>
      intro M y2 H locs ls h hwf hkp hP hD hS hl
      cases h
    | succ fu ih =>
      intro M y2 H locs ls h hwf hkp hP hD hS hl
      unfold f_M_readKey_l2 at h
      have hkb := hkp
      refine lv_iload_n hx hb d_M_readKey_2 rfl (lv_at hl 2 rfl) ?_
      refine lv_aload_n hx hb d_M_readKey_3 rfl (lv_at hl 0 rfl) ?_
      refine g_M_6 hx hb hts hown hK hP hwf hj0 (hts _ u_1747) d_M_readKey_4 ?_
      obtain ⟨j1, e2, h⟩ := bd_ob h
      have hj1 : j1 < N 13 := (hwf.2.1 1 j0 6 _ e2 (by decide) hj0)
      refine me_opt (j := j1) e2 ?_
      refine lv_iload_n hx hb d_M_readKey_7 rfl (lv_at hl 1 rfl) ?_
      obtain ⟨g3, h⟩ := gd_ob h
      refine me_iald hx hb hK hP hwf hj1 g3 d_M_readKey_8 ?_
      refine lv_icmp_ge (tgt := 38) hx hb d_M_readKey_9 (by decide) (fun c4 => ?_) (fun c4 => ?_)
      · have h := if_t c4 h
        exact me_retv (me_kp M0) h hx hb hr hlocks hwf hkp hP hK hD hS d_M_readKey_38
      have h := if_f c4 h
      refine lv_aload_n hx hb d_M_readKey_12 rfl (lv_at hl 0 rfl) ?_
      refine g_M_45 hx hb hts hown hK hP hwf hj0 (hts _ u_1786) d_M_readKey_13 ?_
      obtain ⟨j5, e6, h⟩ := bd_ob h
      have hj5 : j5 < N 14 := (hwf.2.1 1 j0 45 _ e6 (by decide) hj0)
      refine me_opt (j := j5) e6 ?_
      refine lv_iload_n hx hb d_M_readKey_16 rfl (lv_at hl 2 rfl) ?_
      refine lv_aload_n hx hb d_M_readKey_17 rfl (lv_at hl 0 rfl) ?_
      refine lv_aload_n hx hb d_M_readKey_18 rfl (lv_at hl 0 rfl) ?_
      refine g_M_43 hx hb hts hown hK hP hwf hj0 (hts _ u_1784) d_M_readKey_19 ?_
      obtain ⟨j7, e8, h⟩ := bd_ob h
      have hj7 : j7 < N 16 := (hwf.2.1 1 j0 43 _ e8 (by decide) hj0)
      refine me_opt (j := j7) e8 ?_
      refine lv_iconst (v := 2) hx hb d_M_readKey_22 (by decide) ?_
      obtain ⟨g9, h⟩ := gd_ob h
      refine me_lald hx hb hK hP hwf hj7 (me_in (i := (2 : Int32)) (k := 2) (by decide) (by decide) g9) d_M_readKey_23 ?_
      refine fg_topl (y := mL M 16 j7 2) (congrArg _ (by decide)) ?_
      refine lv_iload_n hx hb d_M_readKey_24 rfl (lv_at hl 2 rfl) ?_
      refine lv_i2l (v := y2.toInt64) hx hb d_M_readKey_25 rfl ?_
      refine lv_ladd hx hb d_M_readKey_26 ?_
      obtain ⟨M10, r11, eM10, h⟩ := b2_ob h
      refine me_theni0 (M1 := M10) (me_runV (C := "FilterGuardModel") (As := [.long ((mL M 16 j7 2) + y2.toInt64)]) (rest := [.int y2, .ref (ad 14 j5)]) ⟨hx, hb, hml, hown, hts⟩ (c_M_byteAt l D ad ca N M M10 r11 j0 ((mL M 16 j7 2) + y2.toInt64) eM10 hwf hj0 _) rfl (by show fg_nm y_M_byteAt 1; decide +kernel) u_2475 u_2477 u_172 u_192 u_2478 ⟨Nat.le_of_ble_eq_true rfl, Nat.le_of_ble_eq_true rfl⟩ hX hz hK hP hD hwf hS hA hj0 (by decide) rfl rfl rfl hl.1 (Nat.le_of_ble_eq_true rfl) d_M_readKey_27 ⟨Nat.le_of_ble_eq_true rfl, Nat.le_of_ble_eq_true rfl⟩) hP hD hK hS hA rfl rfl (fun H locs hw hP hD hS => ?_)
      obtain ⟨hwf, hk9⟩ := hw
      have hkp := hkp.tr hk9
      refine lv_i2b (v := r11.toInt8.toInt32) hx hb d_M_readKey_30 rfl ?_
      obtain ⟨g12, h⟩ := gd_ob h
      obtain ⟨M13, eM13, h⟩ := st_ob h
      refine me_bast eM13 hx hb hK hP hD hwf hS hj5 (kp_z hkb.z hkp.z g12) d_M_readKey_31 (fun H locs hP hD hwf hS => ?_)
      have hkp := kp_I eM13 hkp
      refine lv_iinc (v := y2 + 1) (lv' := [(2, .int (y2 + 1)), (0, .ref (ad 1 j0)), (1, .int x1)]) hx hb d_M_readKey_32 hl (k := 2) rfl (by rfl) (by decide) rfl (fun ls hl => ?_)
      refine lv_goto (tgt := 2) hx hb d_M_readKey_35 (by decide) ?_
      exact ih M13 (y2 + 1) _ _ _ h hwf hkp hP hD hS (lv_sub hl [1, 2, 0] rfl)
  refine lv_iconst (v := 0) hx hb d_M_readKey_0 (by decide) ?_
  refine lv_istore_n (lv' := [(2, .int 0), (0, .ref (ad 1 j0)), (1, .int x1)]) hx hb d_M_readKey_1 rfl hl (by decide) rfl (fun ls hl => ?_)
  exact b_2 _ M0 (0 : Int32) _ _ _ h hwf hkp hP hD hS (lv_sub hl [1, 2, 0] rfl)
