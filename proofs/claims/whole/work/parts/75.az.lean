theorem d_M_does0_0 : decode prog_14_method_104_code 0 = .ok (.aload_n 0, 1) := by decide +kernel
theorem d_M_does0_1 : decode prog_14_method_104_code 1 = .ok (.getfield 37, 3) := by decide +kernel
theorem d_M_does0_4 : decode prog_14_method_104_code 4 = .ok (.iload_n 1, 1) := by decide +kernel
theorem d_M_does0_5 : decode prog_14_method_104_code 5 = .ok (.laload, 1) := by decide +kernel
theorem d_M_does0_6 : decode prog_14_method_104_code 6 = .ok (.lstore_n 2, 1) := by decide +kernel
theorem d_M_does0_7 : decode prog_14_method_104_code 7 = .ok (.aload_n 0, 1) := by decide +kernel
theorem d_M_does0_8 : decode prog_14_method_104_code 8 = .ok (.iload_n 1, 1) := by decide +kernel
theorem d_M_does0_9 : decode prog_14_method_104_code 9 = .ok (.iconst 1, 1) := by decide +kernel
theorem d_M_does0_10 : decode prog_14_method_104_code 10 = .ok (.iadd, 1) := by decide +kernel
theorem d_M_does0_11 : decode prog_14_method_104_code 11 = .ok (.putfield 514, 3) := by decide +kernel
theorem d_M_does0_14 : decode prog_14_method_104_code 14 = .ok (.lload_n 2, 1) := by decide +kernel
theorem d_M_does0_15 : decode prog_14_method_104_code 15 = .ok (.invokestatic 308, 3) := by decide +kernel
theorem d_M_does0_18 : decode prog_14_method_104_code 18 = .ok (.invokestatic 312, 3) := by decide +kernel
theorem d_M_does0_21 : decode prog_14_method_104_code 21 = .ok (.tableswitch 140 1 13 #[67, 73, 79, 79, 85, 140, 140, 140, 140, 91, 105, 111, 120], 67) := by decide +kernel
theorem d_M_does0_88 : decode prog_14_method_104_code 88 = .ok (.aload_n 0, 1) := by decide +kernel
theorem d_M_does0_89 : decode prog_14_method_104_code 89 = .ok (.iload_n 1, 1) := by decide +kernel
theorem d_M_does0_90 : decode prog_14_method_104_code 90 = .ok (.invokevirtual 523, 3) := by decide +kernel
theorem u_2104 : Cond.methodLink "FilterGuardModel" 523 ⟨"FilterGuardModel", "wide", "(I)I"⟩ ∈ fg_g := fg_in (List.mem_of_getElem? (i := 2104) (by decide +kernel)) rfl
theorem u_2107 : Cond.code ⟨"FilterGuardModel", "wide", "(I)I"⟩ prog_14_method_102_code 5 (some .int) ∈ fg_g := fg_in (List.mem_of_getElem? (i := 2107) (by decide +kernel)) rfl
theorem u_2106 : Cond.instanceMethod ⟨"FilterGuardModel", "wide", "(I)I"⟩ ∈ fg_g := fg_in (List.mem_of_getElem? (i := 2106) (by decide +kernel)) rfl
theorem u_105 : Cond.selects "FilterGuardModel" ⟨"FilterGuardModel", "wide", "(I)I"⟩ ⟨"FilterGuardModel", "wide", "(I)I"⟩ ∈ fg_g := fg_in (List.mem_of_getElem? (i := 105) (by decide +kernel)) rfl
theorem d_M_does0_93 : decode prog_14_method_104_code 93 = .ok (.ireturn, 1) := by decide +kernel
theorem d_M_does0_94 : decode prog_14_method_104_code 94 = .ok (.aload_n 0, 1) := by decide +kernel
theorem d_M_does0_95 : decode prog_14_method_104_code 95 = .ok (.lload_n 2, 1) := by decide +kernel
theorem d_M_does0_96 : decode prog_14_method_104_code 96 = .ok (.invokevirtual 526, 3) := by decide +kernel
theorem u_2116 : Cond.methodLink "FilterGuardModel" 526 ⟨"FilterGuardModel", "load", "(J)I"⟩ ∈ fg_g := fg_in (List.mem_of_getElem? (i := 2116) (by decide +kernel)) rfl
theorem u_2119 : Cond.code ⟨"FilterGuardModel", "load", "(J)I"⟩ prog_14_method_78_code 8 (some .int) ∈ fg_g := fg_in (List.mem_of_getElem? (i := 2119) (by decide +kernel)) rfl
theorem u_2118 : Cond.instanceMethod ⟨"FilterGuardModel", "load", "(J)I"⟩ ∈ fg_g := fg_in (List.mem_of_getElem? (i := 2118) (by decide +kernel)) rfl
theorem u_108 : Cond.selects "FilterGuardModel" ⟨"FilterGuardModel", "load", "(J)I"⟩ ⟨"FilterGuardModel", "load", "(J)I"⟩ ∈ fg_g := fg_in (List.mem_of_getElem? (i := 108) (by decide +kernel)) rfl
theorem d_M_does0_99 : decode prog_14_method_104_code 99 = .ok (.ireturn, 1) := by decide +kernel
theorem d_M_does0_100 : decode prog_14_method_104_code 100 = .ok (.aload_n 0, 1) := by decide +kernel
theorem d_M_does0_101 : decode prog_14_method_104_code 101 = .ok (.lload_n 2, 1) := by decide +kernel
theorem d_M_does0_102 : decode prog_14_method_104_code 102 = .ok (.invokevirtual 529, 3) := by decide +kernel
theorem u_2195 : Cond.methodLink "FilterGuardModel" 529 ⟨"FilterGuardModel", "store", "(J)I"⟩ ∈ fg_g := fg_in (List.mem_of_getElem? (i := 2195) (by decide +kernel)) rfl
theorem u_2198 : Cond.code ⟨"FilterGuardModel", "store", "(J)I"⟩ prog_14_method_80_code 9 (some .int) ∈ fg_g := fg_in (List.mem_of_getElem? (i := 2198) (by decide +kernel)) rfl
theorem u_2197 : Cond.instanceMethod ⟨"FilterGuardModel", "store", "(J)I"⟩ ∈ fg_g := fg_in (List.mem_of_getElem? (i := 2197) (by decide +kernel)) rfl
theorem u_123 : Cond.selects "FilterGuardModel" ⟨"FilterGuardModel", "store", "(J)I"⟩ ⟨"FilterGuardModel", "store", "(J)I"⟩ ∈ fg_g := fg_in (List.mem_of_getElem? (i := 123) (by decide +kernel)) rfl
theorem d_M_does0_105 : decode prog_14_method_104_code 105 = .ok (.ireturn, 1) := by decide +kernel
theorem d_M_does0_106 : decode prog_14_method_104_code 106 = .ok (.aload_n 0, 1) := by decide +kernel
theorem d_M_does0_107 : decode prog_14_method_104_code 107 = .ok (.lload_n 2, 1) := by decide +kernel
theorem d_M_does0_108 : decode prog_14_method_104_code 108 = .ok (.invokevirtual 532, 3) := by decide +kernel
theorem u_2203 : Cond.methodLink "FilterGuardModel" 532 ⟨"FilterGuardModel", "addTo", "(J)I"⟩ ∈ fg_g := fg_in (List.mem_of_getElem? (i := 2203) (by decide +kernel)) rfl
theorem u_2206 : Cond.code ⟨"FilterGuardModel", "addTo", "(J)I"⟩ prog_14_method_82_code 8 (some .int) ∈ fg_g := fg_in (List.mem_of_getElem? (i := 2206) (by decide +kernel)) rfl
theorem u_2205 : Cond.instanceMethod ⟨"FilterGuardModel", "addTo", "(J)I"⟩ ∈ fg_g := fg_in (List.mem_of_getElem? (i := 2205) (by decide +kernel)) rfl
theorem u_125 : Cond.selects "FilterGuardModel" ⟨"FilterGuardModel", "addTo", "(J)I"⟩ ⟨"FilterGuardModel", "addTo", "(J)I"⟩ ∈ fg_g := fg_in (List.mem_of_getElem? (i := 125) (by decide +kernel)) rfl
theorem d_M_does0_111 : decode prog_14_method_104_code 111 = .ok (.ireturn, 1) := by decide +kernel
theorem d_M_does0_161 : decode prog_14_method_104_code 161 = .ok (.aload_n 0, 1) := by decide +kernel
theorem d_M_does0_162 : decode prog_14_method_104_code 162 = .ok (.iload_n 1, 1) := by decide +kernel
theorem d_M_does0_163 : decode prog_14_method_104_code 163 = .ok (.invokevirtual 541, 3) := by decide +kernel
theorem u_2312 : Cond.methodLink "FilterGuardModel" 541 ⟨"FilterGuardModel", "compute", "(I)I"⟩ ∈ fg_g := fg_in (List.mem_of_getElem? (i := 2312) (by decide +kernel)) rfl
theorem u_2315 : Cond.code ⟨"FilterGuardModel", "compute", "(I)I"⟩ prog_14_method_105_code 5 (some .int) ∈ fg_g := fg_in (List.mem_of_getElem? (i := 2315) (by decide +kernel)) rfl
theorem u_2314 : Cond.instanceMethod ⟨"FilterGuardModel", "compute", "(I)I"⟩ ∈ fg_g := fg_in (List.mem_of_getElem? (i := 2314) (by decide +kernel)) rfl
theorem u_149 : Cond.selects "FilterGuardModel" ⟨"FilterGuardModel", "compute", "(I)I"⟩ ⟨"FilterGuardModel", "compute", "(I)I"⟩ ∈ fg_g := fg_in (List.mem_of_getElem? (i := 149) (by decide +kernel)) rfl
theorem d_M_does0_166 : decode prog_14_method_104_code 166 = .ok (.ireturn, 1) := by decide +kernel
theorem d_M_does0_112 : decode prog_14_method_104_code 112 = .ok (.aload_n 0, 1) := by decide +kernel
theorem d_M_does0_113 : decode prog_14_method_104_code 113 = .ok (.iload_n 1, 1) := by decide +kernel
theorem d_M_does0_114 : decode prog_14_method_104_code 114 = .ok (.iconst 1, 1) := by decide +kernel
theorem d_M_does0_115 : decode prog_14_method_104_code 115 = .ok (.iadd, 1) := by decide +kernel
theorem d_M_does0_116 : decode prog_14_method_104_code 116 = .ok (.lload_n 2, 1) := by decide +kernel
theorem d_M_does0_117 : decode prog_14_method_104_code 117 = .ok (.invokestatic 321, 3) := by decide +kernel
theorem d_M_does0_120 : decode prog_14_method_104_code 120 = .ok (.iadd, 1) := by decide +kernel
theorem d_M_does0_121 : decode prog_14_method_104_code 121 = .ok (.putfield 514, 3) := by decide +kernel
theorem d_M_does0_124 : decode prog_14_method_104_code 124 = .ok (.iconst 0, 1) := by decide +kernel
theorem d_M_does0_125 : decode prog_14_method_104_code 125 = .ok (.ireturn, 1) := by decide +kernel
theorem d_M_does0_126 : decode prog_14_method_104_code 126 = .ok (.aload_n 0, 1) := by decide +kernel
theorem d_M_does0_127 : decode prog_14_method_104_code 127 = .ok (.iload_n 1, 1) := by decide +kernel
theorem d_M_does0_128 : decode prog_14_method_104_code 128 = .ok (.invokevirtual 535, 3) := by decide +kernel
theorem u_2207 : Cond.methodLink "FilterGuardModel" 535 ⟨"FilterGuardModel", "jump", "(I)I"⟩ ∈ fg_g := fg_in (List.mem_of_getElem? (i := 2207) (by decide +kernel)) rfl
theorem u_2210 : Cond.code ⟨"FilterGuardModel", "jump", "(I)I"⟩ prog_14_method_103_code 4 (some .int) ∈ fg_g := fg_in (List.mem_of_getElem? (i := 2210) (by decide +kernel)) rfl
theorem u_2209 : Cond.instanceMethod ⟨"FilterGuardModel", "jump", "(I)I"⟩ ∈ fg_g := fg_in (List.mem_of_getElem? (i := 2209) (by decide +kernel)) rfl
theorem u_126 : Cond.selects "FilterGuardModel" ⟨"FilterGuardModel", "jump", "(I)I"⟩ ⟨"FilterGuardModel", "jump", "(I)I"⟩ ∈ fg_g := fg_in (List.mem_of_getElem? (i := 126) (by decide +kernel)) rfl
theorem d_M_does0_131 : decode prog_14_method_104_code 131 = .ok (.ireturn, 1) := by decide +kernel
theorem d_M_does0_132 : decode prog_14_method_104_code 132 = .ok (.aload_n 0, 1) := by decide +kernel
theorem d_M_does0_133 : decode prog_14_method_104_code 133 = .ok (.lload_n 2, 1) := by decide +kernel
theorem d_M_does0_134 : decode prog_14_method_104_code 134 = .ok (.invokestatic 324, 3) := by decide +kernel
theorem d_M_does0_137 : decode prog_14_method_104_code 137 = .ok (.invokevirtual 538, 3) := by decide +kernel
theorem u_2285 : Cond.methodLink "FilterGuardModel" 538 ⟨"FilterGuardModel", "call", "(I)I"⟩ ∈ fg_g := fg_in (List.mem_of_getElem? (i := 2285) (by decide +kernel)) rfl
theorem u_2288 : Cond.code ⟨"FilterGuardModel", "call", "(I)I"⟩ prog_14_method_87_code 5 (some .int) ∈ fg_g := fg_in (List.mem_of_getElem? (i := 2288) (by decide +kernel)) rfl
theorem u_2287 : Cond.instanceMethod ⟨"FilterGuardModel", "call", "(I)I"⟩ ∈ fg_g := fg_in (List.mem_of_getElem? (i := 2287) (by decide +kernel)) rfl
theorem u_143 : Cond.selects "FilterGuardModel" ⟨"FilterGuardModel", "call", "(I)I"⟩ ⟨"FilterGuardModel", "call", "(I)I"⟩ ∈ fg_g := fg_in (List.mem_of_getElem? (i := 143) (by decide +kernel)) rfl
theorem d_M_does0_140 : decode prog_14_method_104_code 140 = .ok (.ireturn, 1) := by decide +kernel
theorem d_M_does0_141 : decode prog_14_method_104_code 141 = .ok (.aload_n 0, 1) := by decide +kernel
theorem d_M_does0_142 : decode prog_14_method_104_code 142 = .ok (.iconst (-1), 1) := by decide +kernel
theorem d_M_does0_143 : decode prog_14_method_104_code 143 = .ok (.putfield 514, 3) := by decide +kernel
theorem d_M_does0_146 : decode prog_14_method_104_code 146 = .ok (.aload_n 0, 1) := by decide +kernel
theorem d_M_does0_147 : decode prog_14_method_104_code 147 = .ok (.iconst 0, 1) := by decide +kernel
theorem d_M_does0_148 : decode prog_14_method_104_code 148 = .ok (.invokevirtual 378, 3) := by decide +kernel
theorem d_M_does0_151 : decode prog_14_method_104_code 151 = .ok (.ifCond .eq 7, 3) := by decide +kernel
theorem d_M_does0_158 : decode prog_14_method_104_code 158 = .ok (.bipush 18, 2) := by decide +kernel
theorem d_M_does0_160 : decode prog_14_method_104_code 160 = .ok (.ireturn, 1) := by decide +kernel
theorem d_M_does0_154 : decode prog_14_method_104_code 154 = .ok (.iconst 0, 1) := by decide +kernel
theorem d_M_does0_155 : decode prog_14_method_104_code 155 = .ok (.goto 5, 3) := by decide +kernel
abbrev y_M_does0 : MethodName := ⟨"FilterGuardModel", "does", "(I)I"⟩
def f_M_does0 (M0 : me_M) (j0 : Nat) (x1 : Int32) : Option (me_M × Int32) := bd (mR M0 1 j0 13) (fun (j1 : Nat) => gd (¬ (x1 < 0 ∨ mZ M0 16 j1 ≤ x1.toNatClampNeg)) (st (mL M0 16 j1 x1.toNatClampNeg) (fun (v4 : Int64) => st (wI M0 1 j0 70 (x1 + 1)) (fun (M5 : me_M) => bd (f_M_opOf v4) (fun (r6 : Int32) => bd (f_M_instruction r6) (fun (r7 : Int32) => (if r7 = 1 then b2 (f_M_wide M5 j0 x1) (fun (M10 : me_M) (r11 : Int32) => some (M10, r11)) else (if r7 = 2 then b2 (f_M_load M5 j0 v4) (fun (M13 : me_M) (r14 : Int32) => some (M13, r14)) else (if r7 = 3 then b2 (f_M_store M5 j0 v4) (fun (M16 : me_M) (r17 : Int32) => some (M16, r17)) else (if r7 = 4 then b2 (f_M_store M5 j0 v4) (fun (M19 : me_M) (r20 : Int32) => some (M19, r20)) else (if r7 = 5 then b2 (f_M_addTo M5 j0 v4) (fun (M22 : me_M) (r23 : Int32) => some (M22, r23)) else (if r7 = 6 then b2 (f_M_compute M5 j0 x1) (fun (M25 : me_M) (r26 : Int32) => some (M25, r26)) else (if r7 = 7 then b2 (f_M_compute M5 j0 x1) (fun (M28 : me_M) (r29 : Int32) => some (M28, r29)) else (if r7 = 8 then b2 (f_M_compute M5 j0 x1) (fun (M31 : me_M) (r32 : Int32) => some (M31, r32)) else (if r7 = 9 then b2 (f_M_compute M5 j0 x1) (fun (M34 : me_M) (r35 : Int32) => some (M34, r35)) else (if r7 = 10 then bd (f_M_offsetOf v4) (fun (r37 : Int32) => st (wI M5 1 j0 70 ((x1 + 1) + r37)) (fun (M38 : me_M) => some (M38, (0 : Int32)))) else (if r7 = 11 then b2 (f_M_jump M5 j0 x1) (fun (M40 : me_M) (r41 : Int32) => some (M40, r41)) else (if r7 = 12 then bd (f_M_fieldOf v4) (fun (r43 : Int32) => b2 (f_M_call M5 j0 r43) (fun (M44 : me_M) (r45 : Int32) => some (M44, r45))) else (if r7 = 13 then st (wI M5 1 j0 70 (-1)) (fun (M47 : me_M) => b2 (f_M_isNumber M47 j0 (0 : Int32)) (fun (M48 : me_M) (r49 : Int32) => (if r49 = 0 then some (M48, (18 : Int32)) else some (M48, (0 : Int32))))) else b2 (f_M_compute M5 j0 x1) (fun (M51 : me_M) (r52 : Int32) => some (M51, r52)))))))))))))))))))))
def rm_M_does0 : Room := { frames := 11, cells := 0, slots := 0, locals := 271 }
abbrev q_M_does0 (D : va_G) (ad : Nat → Nat → Nat) (ca : Nat → ClassId) (N : Nat → Nat) (M0 MZ : me_M) (RZ : Int32) (A : Nat → Prop) : Array Value → Jvm.State → Outcome → Jvm.State → Prop := va_Qi (fun r (_ : Unit) => r = RZ ∧ me_wf N MZ ∧ me_kp M0 MZ) (fg_B D A (fun _ => me_W ad ca MZ) (fun _ => [])) A
set_option maxHeartbeats 4000000 in
set_option maxRecDepth 100000 in
theorem c_M_does0 (l : Launch) (D : va_G) (ad : Nat → Nat → Nat) (ca : Nat → ClassId) (N : Nat → Nat) (M0 MZ : me_M) (RZ : Int32) (j0 : Nat) (x1 : Int32) (h : f_M_does0 M0 j0 x1 = (some (MZ, RZ))) (hwf : me_wf N M0) (hj0 : j0 < N 1) (sz : Nat) : Met l y_M_does0 (fg_w y_M_does0 prog_14_method_104_code 4 (some .int)) rm_M_does0 (va_Pc [.ref (ad 1 j0), .int x1] (fz_P D (me_T ca) (me_W ad ca M0) sz)) (q_M_does0 D ad ca N M0 MZ RZ (va_A (me_W ad ca M0) sz)) rm_M_does0.cells rm_M_does0.slots (va_A (me_W ad ca M0) sz) := by
  refine fz_enter (fun A => q_M_does0 D ad ca N M0 MZ RZ A) (by decide +kernel) (Nat.le_of_ble_eq_true rfl) ?_
  intro p e s m below meth c ls A hx hb hml hown hts hr hlocks hin hP hK hD hS hA hX hl hz
  have hl : lv_has ls 4 [(0, .ref (ad 1 j0)), (1, .int x1)] := hl
  unfold f_M_does0 at h
  have hkp : me_kp M0 M0 := me_kp.rf
  have hkb := hkp
  refine lv_aload_n hx hb d_M_does0_0 rfl (lv_at hl 0 rfl) ?_
  refine g_M_13 hx hb hts hown hK hP hwf hj0 (hts _ u_1754) d_M_does0_1 ?_
  obtain ⟨j1, e2, h⟩ := bd_ob h
  have hj1 : j1 < N 16 := (hwf.2.1 1 j0 13 _ e2 (by decide) hj0)
  refine me_opt (j := j1) e2 ?_
  refine lv_iload_n hx hb d_M_does0_4 rfl (lv_at hl 1 rfl) ?_
  obtain ⟨g3, h⟩ := gd_ob h
  refine me_lald hx hb hK hP hwf hj1 g3 d_M_does0_5 ?_
  obtain ⟨v4, ev4, h⟩ := st_ob h
  refine fg_topl (y := v4) ev4.symm ?_
  refine lv_lstore_n (lv' := [(2, .long v4), (0, .ref (ad 1 j0)), (1, .int x1)]) hx hb d_M_does0_6 rfl hl (by decide) rfl (fun ls hl => ?_)
  refine lv_aload_n hx hb d_M_does0_7 rfl (lv_at hl 1 rfl) ?_
  refine lv_iload_n hx hb d_M_does0_8 rfl (lv_at hl 2 rfl) ?_
  refine lv_iconst (v := 1) hx hb d_M_does0_9 (by decide) ?_
  refine lv_iadd hx hb d_M_does0_10 ?_
  obtain ⟨M5, eM5, h⟩ := st_ob h
  refine p_M_70 eM5 hx hb hts hown hK hP hD hwf hS hj0 (hts _ u_1811) d_M_does0_11 (fun H locs hP hD hwf hS => ?_)
  have hkp := kp_I eM5 hkp
  refine lv_lload_n hx hb d_M_does0_14 rfl (lv_at hl 0 rfl) ?_
  obtain ⟨r6, er6, h⟩ := bd_ob h
  refine me_pani' (r0 := r6) (fg_runS (wc := []) (tc := []) (A2 := A) (As := [.long v4]) (rest := []) ⟨hx, hb, hml, hown, hts⟩ (c_M_opOf l D r6 v4 er6 _) (by show fg_nm y_M_opOf 1; decide +kernel) u_1997 u_1998 u_192 u_1999 ⟨Nat.le_of_ble_eq_true rfl, Nat.le_of_ble_eq_true rfl⟩ hX me_P0 (hK.sub (tys' := []) [] rfl) me_D0 rfl hl.1 (Nat.le_of_ble_eq_true rfl) d_M_does0_15 ⟨Nat.le_of_ble_eq_true rfl, Nat.le_of_ble_eq_true rfl⟩) hP hD hK hS hA rfl rfl (fun H locs hw hP hD hS => ?_)
  obtain ⟨r7, er7, h⟩ := bd_ob h
  refine me_pani' (r0 := r7) (fg_runS (wc := []) (tc := []) (A2 := A) (As := [.int r6]) (rest := []) ⟨hx, hb, hml, hown, hts⟩ (c_M_instruction l D r7 r6 er7 _) (by show fg_nm y_M_instruction 1; decide +kernel) u_2000 u_2001 u_192 u_2002 ⟨Nat.le_of_ble_eq_true rfl, Nat.le_of_ble_eq_true rfl⟩ hX me_P0 (hK.sub (tys' := []) [] rfl) me_D0 rfl hl.1 (Nat.le_of_ble_eq_true rfl) d_M_does0_18 ⟨Nat.le_of_ble_eq_true rfl, Nat.le_of_ble_eq_true rfl⟩) hP hD hK hS hA rfl rfl (fun H locs hw hP hD hS => ?_)
  refine lv_topi (fun w8 ew8 => ?_)
  by_cases n9 : w8 = 1
  · have h := if_t (ew8.symm.trans n9) h
    subst n9
    refine lv_tableIn (off := 67) (tgt := 88) hx hb d_M_does0_21 (by decide) (by decide) (by decide) (by decide) ?_
    refine lv_aload_n hx hb d_M_does0_88 rfl (lv_at hl 1 rfl) ?_
    refine lv_iload_n hx hb d_M_does0_89 rfl (lv_at hl 2 rfl) ?_
    obtain ⟨M10, r11, eM10, h⟩ := b2_ob h
    refine me_theni0 (M1 := M10) (me_runV (C := "FilterGuardModel") (As := [.int x1]) (rest := []) ⟨hx, hb, hml, hown, hts⟩ (c_M_wide l D ad ca N M5 M10 r11 j0 x1 eM10 hwf hj0 _) rfl (by show fg_nm y_M_wide 1; decide +kernel) u_2104 u_2106 u_105 u_192 u_2107 ⟨Nat.le_of_ble_eq_true rfl, Nat.le_of_ble_eq_true rfl⟩ hX hz hK hP hD hwf hS hA hj0 (by decide) rfl rfl rfl hl.1 (Nat.le_of_ble_eq_true rfl) d_M_does0_90 ⟨Nat.le_of_ble_eq_true rfl, Nat.le_of_ble_eq_true rfl⟩) hP hD hK hS hA rfl rfl (fun H locs hw hP hD hS => ?_)
    obtain ⟨hwf, hk9⟩ := hw
    have hkp := hkp.tr hk9
    exact me_reti (me_kp M0) h hx hb hr hlocks hwf hkp hP hK hD hS d_M_does0_93
  have h := if_f (fun z => n9 (ew8.trans z)) h
  by_cases n12 : w8 = 2
  · have h := if_t (ew8.symm.trans n12) h
    subst n12
    refine lv_tableIn (off := 73) (tgt := 94) hx hb d_M_does0_21 (by decide) (by decide) (by decide) (by decide) ?_
    refine lv_aload_n hx hb d_M_does0_94 rfl (lv_at hl 1 rfl) ?_
    refine lv_lload_n hx hb d_M_does0_95 rfl (lv_at hl 0 rfl) ?_
    obtain ⟨M13, r14, eM13, h⟩ := b2_ob h
    refine me_theni0 (M1 := M13) (me_runV (C := "FilterGuardModel") (As := [.long v4]) (rest := []) ⟨hx, hb, hml, hown, hts⟩ (c_M_load l D ad ca N M5 M13 r14 j0 v4 eM13 hwf hj0 _) rfl (by show fg_nm y_M_load 1; decide +kernel) u_2116 u_2118 u_108 u_192 u_2119 ⟨Nat.le_of_ble_eq_true rfl, Nat.le_of_ble_eq_true rfl⟩ hX hz hK hP hD hwf hS hA hj0 (by decide) rfl rfl rfl hl.1 (Nat.le_of_ble_eq_true rfl) d_M_does0_96 ⟨Nat.le_of_ble_eq_true rfl, Nat.le_of_ble_eq_true rfl⟩) hP hD hK hS hA rfl rfl (fun H locs hw hP hD hS => ?_)
    obtain ⟨hwf, hk9⟩ := hw
    have hkp := hkp.tr hk9
    exact me_reti (me_kp M0) h hx hb hr hlocks hwf hkp hP hK hD hS d_M_does0_99
  have h := if_f (fun z => n12 (ew8.trans z)) h
  by_cases n15 : w8 = 3
  · have h := if_t (ew8.symm.trans n15) h
    subst n15
    refine lv_tableIn (off := 79) (tgt := 100) hx hb d_M_does0_21 (by decide) (by decide) (by decide) (by decide) ?_
    refine lv_aload_n hx hb d_M_does0_100 rfl (lv_at hl 1 rfl) ?_
    refine lv_lload_n hx hb d_M_does0_101 rfl (lv_at hl 0 rfl) ?_
    obtain ⟨M16, r17, eM16, h⟩ := b2_ob h
    refine me_theni0 (M1 := M16) (me_runV (C := "FilterGuardModel") (As := [.long v4]) (rest := []) ⟨hx, hb, hml, hown, hts⟩ (c_M_store l D ad ca N M5 M16 r17 j0 v4 eM16 hwf hj0 _) rfl (by show fg_nm y_M_store 1; decide +kernel) u_2195 u_2197 u_123 u_192 u_2198 ⟨Nat.le_of_ble_eq_true rfl, Nat.le_of_ble_eq_true rfl⟩ hX hz hK hP hD hwf hS hA hj0 (by decide) rfl rfl rfl hl.1 (Nat.le_of_ble_eq_true rfl) d_M_does0_102 ⟨Nat.le_of_ble_eq_true rfl, Nat.le_of_ble_eq_true rfl⟩) hP hD hK hS hA rfl rfl (fun H locs hw hP hD hS => ?_)
    obtain ⟨hwf, hk9⟩ := hw
    have hkp := hkp.tr hk9
    exact me_reti (me_kp M0) h hx hb hr hlocks hwf hkp hP hK hD hS d_M_does0_105
  have h := if_f (fun z => n15 (ew8.trans z)) h
  by_cases n18 : w8 = 4
  · have h := if_t (ew8.symm.trans n18) h
    subst n18
    refine lv_tableIn (off := 79) (tgt := 100) hx hb d_M_does0_21 (by decide) (by decide) (by decide) (by decide) ?_
    refine lv_aload_n hx hb d_M_does0_100 rfl (lv_at hl 1 rfl) ?_
    refine lv_lload_n hx hb d_M_does0_101 rfl (lv_at hl 0 rfl) ?_
    obtain ⟨M19, r20, eM19, h⟩ := b2_ob h
    refine me_theni0 (M1 := M19) (me_runV (C := "FilterGuardModel") (As := [.long v4]) (rest := []) ⟨hx, hb, hml, hown, hts⟩ (c_M_store l D ad ca N M5 M19 r20 j0 v4 eM19 hwf hj0 _) rfl (by show fg_nm y_M_store 1; decide +kernel) u_2195 u_2197 u_123 u_192 u_2198 ⟨Nat.le_of_ble_eq_true rfl, Nat.le_of_ble_eq_true rfl⟩ hX hz hK hP hD hwf hS hA hj0 (by decide) rfl rfl rfl hl.1 (Nat.le_of_ble_eq_true rfl) d_M_does0_102 ⟨Nat.le_of_ble_eq_true rfl, Nat.le_of_ble_eq_true rfl⟩) hP hD hK hS hA rfl rfl (fun H locs hw hP hD hS => ?_)
    obtain ⟨hwf, hk9⟩ := hw
    have hkp := hkp.tr hk9
    exact me_reti (me_kp M0) h hx hb hr hlocks hwf hkp hP hK hD hS d_M_does0_105
  have h := if_f (fun z => n18 (ew8.trans z)) h
  by_cases n21 : w8 = 5
  · have h := if_t (ew8.symm.trans n21) h
    subst n21
    refine lv_tableIn (off := 85) (tgt := 106) hx hb d_M_does0_21 (by decide) (by decide) (by decide) (by decide) ?_
    refine lv_aload_n hx hb d_M_does0_106 rfl (lv_at hl 1 rfl) ?_
    refine lv_lload_n hx hb d_M_does0_107 rfl (lv_at hl 0 rfl) ?_
    obtain ⟨M22, r23, eM22, h⟩ := b2_ob h
    refine me_theni0 (M1 := M22) (me_runV (C := "FilterGuardModel") (As := [.long v4]) (rest := []) ⟨hx, hb, hml, hown, hts⟩ (c_M_addTo l D ad ca N M5 M22 r23 j0 v4 eM22 hwf hj0 _) rfl (by show fg_nm y_M_addTo 1; decide +kernel) u_2203 u_2205 u_125 u_192 u_2206 ⟨Nat.le_of_ble_eq_true rfl, Nat.le_of_ble_eq_true rfl⟩ hX hz hK hP hD hwf hS hA hj0 (by decide) rfl rfl rfl hl.1 (Nat.le_of_ble_eq_true rfl) d_M_does0_108 ⟨Nat.le_of_ble_eq_true rfl, Nat.le_of_ble_eq_true rfl⟩) hP hD hK hS hA rfl rfl (fun H locs hw hP hD hS => ?_)
    obtain ⟨hwf, hk9⟩ := hw
    have hkp := hkp.tr hk9
    exact me_reti (me_kp M0) h hx hb hr hlocks hwf hkp hP hK hD hS d_M_does0_111
  have h := if_f (fun z => n21 (ew8.trans z)) h
  by_cases n24 : w8 = 6
  · have h := if_t (ew8.symm.trans n24) h
    subst n24
    refine lv_tableIn (off := 140) (tgt := 161) hx hb d_M_does0_21 (by decide) (by decide) (by decide) (by decide) ?_
    refine lv_aload_n hx hb d_M_does0_161 rfl (lv_at hl 1 rfl) ?_
    refine lv_iload_n hx hb d_M_does0_162 rfl (lv_at hl 2 rfl) ?_
    obtain ⟨M25, r26, eM25, h⟩ := b2_ob h
    refine me_theni0 (M1 := M25) (me_runV (C := "FilterGuardModel") (As := [.int x1]) (rest := []) ⟨hx, hb, hml, hown, hts⟩ (c_M_compute l D ad ca N M5 M25 r26 j0 x1 eM25 hwf hj0 _) rfl (by show fg_nm y_M_compute 1; decide +kernel) u_2312 u_2314 u_149 u_192 u_2315 ⟨Nat.le_of_ble_eq_true rfl, Nat.le_of_ble_eq_true rfl⟩ hX hz hK hP hD hwf hS hA hj0 (by decide) rfl rfl rfl hl.1 (Nat.le_of_ble_eq_true rfl) d_M_does0_163 ⟨Nat.le_of_ble_eq_true rfl, Nat.le_of_ble_eq_true rfl⟩) hP hD hK hS hA rfl rfl (fun H locs hw hP hD hS => ?_)
    obtain ⟨hwf, hk9⟩ := hw
    have hkp := hkp.tr hk9
    exact me_reti (me_kp M0) h hx hb hr hlocks hwf hkp hP hK hD hS d_M_does0_166
  have h := if_f (fun z => n24 (ew8.trans z)) h
  by_cases n27 : w8 = 7
  · have h := if_t (ew8.symm.trans n27) h
    subst n27
    refine lv_tableIn (off := 140) (tgt := 161) hx hb d_M_does0_21 (by decide) (by decide) (by decide) (by decide) ?_
    refine lv_aload_n hx hb d_M_does0_161 rfl (lv_at hl 1 rfl) ?_
    refine lv_iload_n hx hb d_M_does0_162 rfl (lv_at hl 2 rfl) ?_
    obtain ⟨M28, r29, eM28, h⟩ := b2_ob h
    refine me_theni0 (M1 := M28) (me_runV (C := "FilterGuardModel") (As := [.int x1]) (rest := []) ⟨hx, hb, hml, hown, hts⟩ (c_M_compute l D ad ca N M5 M28 r29 j0 x1 eM28 hwf hj0 _) rfl (by show fg_nm y_M_compute 1; decide +kernel) u_2312 u_2314 u_149 u_192 u_2315 ⟨Nat.le_of_ble_eq_true rfl, Nat.le_of_ble_eq_true rfl⟩ hX hz hK hP hD hwf hS hA hj0 (by decide) rfl rfl rfl hl.1 (Nat.le_of_ble_eq_true rfl) d_M_does0_163 ⟨Nat.le_of_ble_eq_true rfl, Nat.le_of_ble_eq_true rfl⟩) hP hD hK hS hA rfl rfl (fun H locs hw hP hD hS => ?_)
    obtain ⟨hwf, hk9⟩ := hw
    have hkp := hkp.tr hk9
    exact me_reti (me_kp M0) h hx hb hr hlocks hwf hkp hP hK hD hS d_M_does0_166
  have h := if_f (fun z => n27 (ew8.trans z)) h
  by_cases n30 : w8 = 8
  · have h := if_t (ew8.symm.trans n30) h
    subst n30
    refine lv_tableIn (off := 140) (tgt := 161) hx hb d_M_does0_21 (by decide) (by decide) (by decide) (by decide) ?_
    refine lv_aload_n hx hb d_M_does0_161 rfl (lv_at hl 1 rfl) ?_
    refine lv_iload_n hx hb d_M_does0_162 rfl (lv_at hl 2 rfl) ?_
    obtain ⟨M31, r32, eM31, h⟩ := b2_ob h
    refine me_theni0 (M1 := M31) (me_runV (C := "FilterGuardModel") (As := [.int x1]) (rest := []) ⟨hx, hb, hml, hown, hts⟩ (c_M_compute l D ad ca N M5 M31 r32 j0 x1 eM31 hwf hj0 _) rfl (by show fg_nm y_M_compute 1; decide +kernel) u_2312 u_2314 u_149 u_192 u_2315 ⟨Nat.le_of_ble_eq_true rfl, Nat.le_of_ble_eq_true rfl⟩ hX hz hK hP hD hwf hS hA hj0 (by decide) rfl rfl rfl hl.1 (Nat.le_of_ble_eq_true rfl) d_M_does0_163 ⟨Nat.le_of_ble_eq_true rfl, Nat.le_of_ble_eq_true rfl⟩) hP hD hK hS hA rfl rfl (fun H locs hw hP hD hS => ?_)
    obtain ⟨hwf, hk9⟩ := hw
    have hkp := hkp.tr hk9
    exact me_reti (me_kp M0) h hx hb hr hlocks hwf hkp hP hK hD hS d_M_does0_166
  have h := if_f (fun z => n30 (ew8.trans z)) h
  by_cases n33 : w8 = 9
  · have h := if_t (ew8.symm.trans n33) h
    subst n33
    refine lv_tableIn (off := 140) (tgt := 161) hx hb d_M_does0_21 (by decide) (by decide) (by decide) (by decide) ?_
    refine lv_aload_n hx hb d_M_does0_161 rfl (lv_at hl 1 rfl) ?_
    refine lv_iload_n hx hb d_M_does0_162 rfl (lv_at hl 2 rfl) ?_
    obtain ⟨M34, r35, eM34, h⟩ := b2_ob h
    refine me_theni0 (M1 := M34) (me_runV (C := "FilterGuardModel") (As := [.int x1]) (rest := []) ⟨hx, hb, hml, hown, hts⟩ (c_M_compute l D ad ca N M5 M34 r35 j0 x1 eM34 hwf hj0 _) rfl (by show fg_nm y_M_compute 1; decide +kernel) u_2312 u_2314 u_149 u_192 u_2315 ⟨Nat.le_of_ble_eq_true rfl, Nat.le_of_ble_eq_true rfl⟩ hX hz hK hP hD hwf hS hA hj0 (by decide) rfl rfl rfl hl.1 (Nat.le_of_ble_eq_true rfl) d_M_does0_163 ⟨Nat.le_of_ble_eq_true rfl, Nat.le_of_ble_eq_true rfl⟩) hP hD hK hS hA rfl rfl (fun H locs hw hP hD hS => ?_)
    obtain ⟨hwf, hk9⟩ := hw
    have hkp := hkp.tr hk9
    exact me_reti (me_kp M0) h hx hb hr hlocks hwf hkp hP hK hD hS d_M_does0_166
  have h := if_f (fun z => n33 (ew8.trans z)) h
  by_cases n36 : w8 = 10
  · have h := if_t (ew8.symm.trans n36) h
    subst n36
    refine lv_tableIn (off := 91) (tgt := 112) hx hb d_M_does0_21 (by decide) (by decide) (by decide) (by decide) ?_
    refine lv_aload_n hx hb d_M_does0_112 rfl (lv_at hl 1 rfl) ?_
    refine lv_iload_n hx hb d_M_does0_113 rfl (lv_at hl 2 rfl) ?_
    refine lv_iconst (v := 1) hx hb d_M_does0_114 (by decide) ?_
    refine lv_iadd hx hb d_M_does0_115 ?_
    refine lv_lload_n hx hb d_M_does0_116 rfl (lv_at hl 0 rfl) ?_
    obtain ⟨r37, er37, h⟩ := bd_ob h
    refine me_pani' (r0 := r37) (fg_runS (wc := []) (tc := []) (A2 := A) (As := [.long v4]) (rest := [.int (x1 + 1), .ref (ad 1 j0)]) ⟨hx, hb, hml, hown, hts⟩ (c_M_offsetOf l D r37 v4 er37 _) (by show fg_nm y_M_offsetOf 1; decide +kernel) u_2013 u_2014 u_192 u_2015 ⟨Nat.le_of_ble_eq_true rfl, Nat.le_of_ble_eq_true rfl⟩ hX me_P0 (hK.sub (tys' := []) [] rfl) me_D0 rfl hl.1 (Nat.le_of_ble_eq_true rfl) d_M_does0_117 ⟨Nat.le_of_ble_eq_true rfl, Nat.le_of_ble_eq_true rfl⟩) hP hD hK hS hA rfl rfl (fun H locs hw hP hD hS => ?_)
    refine lv_iadd hx hb d_M_does0_120 ?_
    obtain ⟨M38, eM38, h⟩ := st_ob h
    refine p_M_70 eM38 hx hb hts hown hK hP hD hwf hS hj0 (hts _ u_1811) d_M_does0_121 (fun H locs hP hD hwf hS => ?_)
    have hkp := kp_I eM38 hkp
    refine lv_iconst (v := 0) hx hb d_M_does0_124 (by decide) ?_
    exact me_reti (me_kp M0) h hx hb hr hlocks hwf hkp hP hK hD hS d_M_does0_125
  have h := if_f (fun z => n36 (ew8.trans z)) h
  by_cases n39 : w8 = 11
  · have h := if_t (ew8.symm.trans n39) h
    subst n39
    refine lv_tableIn (off := 105) (tgt := 126) hx hb d_M_does0_21 (by decide) (by decide) (by decide) (by decide) ?_
    refine lv_aload_n hx hb d_M_does0_126 rfl (lv_at hl 1 rfl) ?_
    refine lv_iload_n hx hb d_M_does0_127 rfl (lv_at hl 2 rfl) ?_
    obtain ⟨M40, r41, eM40, h⟩ := b2_ob h
    refine me_theni0 (M1 := M40) (me_runV (C := "FilterGuardModel") (As := [.int x1]) (rest := []) ⟨hx, hb, hml, hown, hts⟩ (c_M_jump l D ad ca N M5 M40 r41 j0 x1 eM40 hwf hj0 _) rfl (by show fg_nm y_M_jump 1; decide +kernel) u_2207 u_2209 u_126 u_192 u_2210 ⟨Nat.le_of_ble_eq_true rfl, Nat.le_of_ble_eq_true rfl⟩ hX hz hK hP hD hwf hS hA hj0 (by decide) rfl rfl rfl hl.1 (Nat.le_of_ble_eq_true rfl) d_M_does0_128 ⟨Nat.le_of_ble_eq_true rfl, Nat.le_of_ble_eq_true rfl⟩) hP hD hK hS hA rfl rfl (fun H locs hw hP hD hS => ?_)
    obtain ⟨hwf, hk9⟩ := hw
    have hkp := hkp.tr hk9
    exact me_reti (me_kp M0) h hx hb hr hlocks hwf hkp hP hK hD hS d_M_does0_131
  have h := if_f (fun z => n39 (ew8.trans z)) h
  by_cases n42 : w8 = 12
  · have h := if_t (ew8.symm.trans n42) h
    subst n42
    refine lv_tableIn (off := 111) (tgt := 132) hx hb d_M_does0_21 (by decide) (by decide) (by decide) (by decide) ?_
    refine lv_aload_n hx hb d_M_does0_132 rfl (lv_at hl 1 rfl) ?_
    refine lv_lload_n hx hb d_M_does0_133 rfl (lv_at hl 0 rfl) ?_
    obtain ⟨r43, er43, h⟩ := bd_ob h
    refine me_pani' (r0 := r43) (fg_runS (wc := []) (tc := []) (A2 := A) (As := [.long v4]) (rest := [.ref (ad 1 j0)]) ⟨hx, hb, hml, hown, hts⟩ (c_M_fieldOf l D r43 v4 er43 _) (by show fg_nm y_M_fieldOf 1; decide +kernel) u_2016 u_2017 u_192 u_2018 ⟨Nat.le_of_ble_eq_true rfl, Nat.le_of_ble_eq_true rfl⟩ hX me_P0 (hK.sub (tys' := []) [] rfl) me_D0 rfl hl.1 (Nat.le_of_ble_eq_true rfl) d_M_does0_134 ⟨Nat.le_of_ble_eq_true rfl, Nat.le_of_ble_eq_true rfl⟩) hP hD hK hS hA rfl rfl (fun H locs hw hP hD hS => ?_)
    obtain ⟨M44, r45, eM44, h⟩ := b2_ob h
    refine me_theni0 (M1 := M44) (me_runV (C := "FilterGuardModel") (As := [.int r43]) (rest := []) ⟨hx, hb, hml, hown, hts⟩ (c_M_call l D ad ca N M5 M44 r45 j0 r43 eM44 hwf hj0 _) rfl (by show fg_nm y_M_call 1; decide +kernel) u_2285 u_2287 u_143 u_192 u_2288 ⟨Nat.le_of_ble_eq_true rfl, Nat.le_of_ble_eq_true rfl⟩ hX hz hK hP hD hwf hS hA hj0 (by decide) rfl rfl rfl hl.1 (Nat.le_of_ble_eq_true rfl) d_M_does0_137 ⟨Nat.le_of_ble_eq_true rfl, Nat.le_of_ble_eq_true rfl⟩) hP hD hK hS hA rfl rfl (fun H locs hw hP hD hS => ?_)
    obtain ⟨hwf, hk9⟩ := hw
    have hkp := hkp.tr hk9
    exact me_reti (me_kp M0) h hx hb hr hlocks hwf hkp hP hK hD hS d_M_does0_140
  have h := if_f (fun z => n42 (ew8.trans z)) h
  by_cases n46 : w8 = 13
  · have h := if_t (ew8.symm.trans n46) h
    subst n46
    refine lv_tableIn (off := 120) (tgt := 141) hx hb d_M_does0_21 (by decide) (by decide) (by decide) (by decide) ?_
    refine lv_aload_n hx hb d_M_does0_141 rfl (lv_at hl 1 rfl) ?_
    refine lv_iconst (v := (-1)) hx hb d_M_does0_142 (by decide) ?_
    obtain ⟨M47, eM47, h⟩ := st_ob h
    refine p_M_70 eM47 hx hb hts hown hK hP hD hwf hS hj0 (hts _ u_1811) d_M_does0_143 (fun H locs hP hD hwf hS => ?_)
    have hkp := kp_I eM47 hkp
    refine lv_aload_n hx hb d_M_does0_146 rfl (lv_at hl 1 rfl) ?_
    refine lv_iconst (v := 0) hx hb d_M_does0_147 (by decide) ?_
    obtain ⟨M48, r49, eM48, h⟩ := b2_ob h
    refine me_theni0 (M1 := M48) (me_runV (C := "FilterGuardModel") (As := [.int 0]) (rest := []) ⟨hx, hb, hml, hown, hts⟩ (c_M_isNumber l D ad ca N M47 M48 r49 j0 (0 : Int32) eM48 hwf hj0 _) rfl (by show fg_nm y_M_isNumber 1; decide +kernel) u_2187 u_2189 u_121 u_192 u_2190 ⟨Nat.le_of_ble_eq_true rfl, Nat.le_of_ble_eq_true rfl⟩ hX hz hK hP hD hwf hS hA hj0 (by decide) rfl rfl rfl hl.1 (Nat.le_of_ble_eq_true rfl) d_M_does0_148 ⟨Nat.le_of_ble_eq_true rfl, Nat.le_of_ble_eq_true rfl⟩) hP hD hK hS hA rfl rfl (fun H locs hw hP hD hS => ?_)
    obtain ⟨hwf, hk9, zr49⟩ := hw
    have hkp := hkp.tr hk9
    refine lv_if_eq (tgt := 158) hx hb d_M_does0_151 (by decide) (fun c50 => ?_) (fun c50 => ?_)
    · have h := if_t c50 h
      refine lv_bipush (v := 18) hx hb d_M_does0_158 (by decide) ?_
      exact me_reti (me_kp M0) h hx hb hr hlocks hwf hkp hP hK hD hS d_M_does0_160
    have h := if_f c50 h
    refine lv_iconst (v := 0) hx hb d_M_does0_154 (by decide) ?_
    refine lv_goto (tgt := 160) hx hb d_M_does0_155 (by decide) ?_
    exact me_reti (me_kp M0) h hx hb hr hlocks hwf hkp hP hK hD hS d_M_does0_160
  have h := if_f (fun z => n46 (ew8.trans z)) h
  have in9 := lv_neT n9 (show (1 : Int32).toInt = 1 from rfl)
  have in12 := lv_neT n12 (show (2 : Int32).toInt = 2 from rfl)
  have in15 := lv_neT n15 (show (3 : Int32).toInt = 3 from rfl)
  have in18 := lv_neT n18 (show (4 : Int32).toInt = 4 from rfl)
  have in21 := lv_neT n21 (show (5 : Int32).toInt = 5 from rfl)
  have in24 := lv_neT n24 (show (6 : Int32).toInt = 6 from rfl)
  have in27 := lv_neT n27 (show (7 : Int32).toInt = 7 from rfl)
  have in30 := lv_neT n30 (show (8 : Int32).toInt = 8 from rfl)
  have in33 := lv_neT n33 (show (9 : Int32).toInt = 9 from rfl)
  have in36 := lv_neT n36 (show (10 : Int32).toInt = 10 from rfl)
  have in39 := lv_neT n39 (show (11 : Int32).toInt = 11 from rfl)
  have in42 := lv_neT n42 (show (12 : Int32).toInt = 12 from rfl)
  have in46 := lv_neT n46 (show (13 : Int32).toInt = 13 from rfl)
  refine lv_tableOut (tgt := 161) hx hb d_M_does0_21 (by omega) (by decide) ?_
  refine lv_aload_n hx hb d_M_does0_161 rfl (lv_at hl 1 rfl) ?_
  refine lv_iload_n hx hb d_M_does0_162 rfl (lv_at hl 2 rfl) ?_
  obtain ⟨M51, r52, eM51, h⟩ := b2_ob h
  refine me_theni0 (M1 := M51) (me_runV (C := "FilterGuardModel") (As := [.int x1]) (rest := []) ⟨hx, hb, hml, hown, hts⟩ (c_M_compute l D ad ca N M5 M51 r52 j0 x1 eM51 hwf hj0 _) rfl (by show fg_nm y_M_compute 1; decide +kernel) u_2312 u_2314 u_149 u_192 u_2315 ⟨Nat.le_of_ble_eq_true rfl, Nat.le_of_ble_eq_true rfl⟩ hX hz hK hP hD hwf hS hA hj0 (by decide) rfl rfl rfl hl.1 (Nat.le_of_ble_eq_true rfl) d_M_does0_163 ⟨Nat.le_of_ble_eq_true rfl, Nat.le_of_ble_eq_true rfl⟩) hP hD hK hS hA rfl rfl (fun H locs hw hP hD hS => ?_)
  obtain ⟨hwf, hk9⟩ := hw
  have hkp := hkp.tr hk9
  exact me_reti (me_kp M0) h hx hb hr hlocks hwf hkp hP hK hD hS d_M_does0_166
theorem d_M_explore_102 : decode prog_14_method_106_code 102 = .ok (.iload_n 2, 1) := by decide +kernel
theorem d_M_explore_103 : decode prog_14_method_106_code 103 = .ok (.ifCond .ge 66, 3) := by decide +kernel
theorem d_M_explore_169 : decode prog_14_method_106_code 169 = .ok (.goto (-158), 3) := by decide +kernel
theorem d_M_explore_106 : decode prog_14_method_106_code 106 = .ok (.aload_n 0, 1) := by decide +kernel
theorem d_M_explore_107 : decode prog_14_method_106_code 107 = .ok (.dup, 1) := by decide +kernel
theorem d_M_explore_108 : decode prog_14_method_106_code 108 = .ok (.getfield 558, 3) := by decide +kernel
theorem u_1766 : Cond.fieldLink "FilterGuardModel" 558 "FilterGuardModel" "paths" "I" ∈ fg_g := fg_in (List.mem_of_getElem? (i := 1766) (by decide +kernel)) rfl
theorem g_M_25 {p : Program} {l : Launch} {e : Env} {R : Room} {s : Jvm.State} {m : MethodId} {args : Array Value} {below : List Frame} {meth : Method} {c : Code} {H : Heap} {locs : List Loc} {cells slots : Nat} {Q : Jvm.State → Prop} {cc : ByteArray} {pc : Nat} {ls : Array Slot} {rest : List Value} {D : va_G} {ad : Nat → Nat → Nat} {ca : Nat → ClassId} {M : me_M} {N : Nat → Nat} {own : String} {index j : Nat} (hexec : p.tables.exec = Jvm.exec) (hb : c.code = cc) (hts : ∀ w ∈ fg_g, w.before args s = true) (hown : s.vm.findClass own = some m.cls) (hK : va_K D classes (me_T ca) s) (hP : va_P D classes (me_W ad ca M) H) (hwf : me_wf N M) (hj : j < N 1) (hlink : (Cond.fieldLink own index "FilterGuardModel" "paths" "I").before args s = true) (hdg : decode cc pc = .ok (.getfield index, 3)) (kk : W p l e R s m args below meth c H locs cells slots Q (F0 m (pc + 3) ls (.int (mI M 1 j 25) :: rest))) : W p l e R s m args below meth c H locs cells slots Q (F0 m pc ls (.ref (ad 1 j) :: rest)) := me_get (k := 1) (f := 25) (C := "FilterGuardModel") (T := F_M) (Nf := 75) hexec hb hts i_M hown hK hP hwf hj (by decide) rfl (by decide) (by decide) hlink (fun _ h9 => h9) hdg kk
theorem d_M_explore_111 : decode prog_14_method_106_code 111 = .ok (.iconst 1, 1) := by decide +kernel
theorem d_M_explore_112 : decode prog_14_method_106_code 112 = .ok (.iadd, 1) := by decide +kernel
theorem d_M_explore_113 : decode prog_14_method_106_code 113 = .ok (.putfield 558, 3) := by decide +kernel
theorem p_M_25 {p : Program} {l : Launch} {e : Env} {R : Room} {s : Jvm.State} {m : MethodId} {args : Array Value} {below : List Frame} {meth : Method} {c : Code} {H : Heap} {locs : List Loc} {cells slots : Nat} {Q : Jvm.State → Prop} {cc : ByteArray} {pc : Nat} {ls : Array Slot} {rest : List Value} {D : va_G} {A : Nat → Prop} {H0 : Heap} {ad : Nat → Nat → Nat} {ca : Nat → ClassId} {M M1 : me_M} {N : Nat → Nat} {own : String} {index j : Nat} {v : Int32} (he : M1 = wI M 1 j 25 v) (hexec : p.tables.exec = Jvm.exec) (hb : c.code = cc) (hts : ∀ w ∈ fg_g, w.before args s = true) (hown : s.vm.findClass own = some m.cls) (hK : va_K D classes (me_T ca) s) (hP : va_P D classes (me_W ad ca M) H) (hD : va_D A (me_W ad ca M)) (hwf : me_wf N M) (hS : va_S A H0 H locs) (hj : j < N 1) (hlink : (Cond.fieldLink own index "FilterGuardModel" "paths" "I").before args s = true) (hdg : decode cc pc = .ok (.putfield index, 3)) (kk : ∀ (H1 : Heap) (locs1 : List Loc), va_P D classes (me_W ad ca M1) H1 → va_D A (me_W ad ca M1) → me_wf N M1 → va_S A H0 H1 locs1 → W p l e R s m args below meth c H1 locs1 cells slots Q (F0 m (pc + 3) ls rest)) : W p l e R s m args below meth c H locs cells slots Q (F0 m pc ls (.int v :: .ref (ad 1 j) :: rest)) := by
  subst he
  exact me_put (M1 := wI M 1 j 25 v) (k := 1) (f := 25) (C := "FilterGuardModel") (T := F_M) (Nf := 75) hexec hb hts i_M t_M t_M_ok n_M hown hK hP hD hwf hS hj (by decide) rfl (by decide) (by decide) hlink (fun _ h9 => h9) rfl rfl rfl rfl (fun a b h => me_wIE h) (me_fIw (by decide) (by decide)) hdg (fun H1 locs1 a1 a2 a3 => kk H1 locs1 a1 a2 (me_wfI hwf (fun z => absurd z (by decide)) (fun z => absurd z (by decide))) a3)
theorem d_M_explore_116 : decode prog_14_method_106_code 116 = .ok (.aload_n 0, 1) := by decide +kernel
theorem d_M_explore_117 : decode prog_14_method_106_code 117 = .ok (.getfield 457, 3) := by decide +kernel
theorem d_M_explore_120 : decode prog_14_method_106_code 120 = .ok (.ifCond .le 49, 3) := by decide +kernel
theorem d_M_explore_123 : decode prog_14_method_106_code 123 = .ok (.aload_n 0, 1) := by decide +kernel
theorem d_M_explore_124 : decode prog_14_method_106_code 124 = .ok (.dup, 1) := by decide +kernel
theorem d_M_explore_125 : decode prog_14_method_106_code 125 = .ok (.getfield 457, 3) := by decide +kernel
theorem d_M_explore_128 : decode prog_14_method_106_code 128 = .ok (.iconst 1, 1) := by decide +kernel
theorem d_M_explore_129 : decode prog_14_method_106_code 129 = .ok (.isub, 1) := by decide +kernel
theorem d_M_explore_130 : decode prog_14_method_106_code 130 = .ok (.putfield 457, 3) := by decide +kernel
theorem d_M_explore_133 : decode prog_14_method_106_code 133 = .ok (.aload_n 0, 1) := by decide +kernel
theorem d_M_explore_134 : decode prog_14_method_106_code 134 = .ok (.sipush 201, 3) := by decide +kernel
theorem d_M_explore_137 : decode prog_14_method_106_code 137 = .ok (.aload_n 0, 1) := by decide +kernel
theorem d_M_explore_138 : decode prog_14_method_106_code 138 = .ok (.getfield 457, 3) := by decide +kernel
theorem d_M_explore_141 : decode prog_14_method_106_code 141 = .ok (.iadd, 1) := by decide +kernel
theorem d_M_explore_142 : decode prog_14_method_106_code 142 = .ok (.iconst 0, 1) := by decide +kernel
theorem d_M_explore_143 : decode prog_14_method_106_code 143 = .ok (.invokevirtual 467, 3) := by decide +kernel
theorem d_M_explore_146 : decode prog_14_method_106_code 146 = .ok (.aload_n 0, 1) := by decide +kernel
theorem d_M_explore_147 : decode prog_14_method_106_code 147 = .ok (.aload_n 0, 1) := by decide +kernel
theorem d_M_explore_148 : decode prog_14_method_106_code 148 = .ok (.getfield 134, 3) := by decide +kernel
theorem d_M_explore_151 : decode prog_14_method_106_code 151 = .ok (.aload_n 0, 1) := by decide +kernel
theorem d_M_explore_152 : decode prog_14_method_106_code 152 = .ok (.getfield 457, 3) := by decide +kernel
theorem d_M_explore_155 : decode prog_14_method_106_code 155 = .ok (.iaload, 1) := by decide +kernel
theorem d_M_explore_156 : decode prog_14_method_106_code 156 = .ok (.putfield 499, 3) := by decide +kernel
theorem d_M_explore_159 : decode prog_14_method_106_code 159 = .ok (.aload_n 0, 1) := by decide +kernel
theorem d_M_explore_160 : decode prog_14_method_106_code 160 = .ok (.getfield 131, 3) := by decide +kernel
theorem d_M_explore_163 : decode prog_14_method_106_code 163 = .ok (.aload_n 0, 1) := by decide +kernel
theorem d_M_explore_164 : decode prog_14_method_106_code 164 = .ok (.getfield 457, 3) := by decide +kernel
theorem d_M_explore_167 : decode prog_14_method_106_code 167 = .ok (.iaload, 1) := by decide +kernel
theorem d_M_explore_168 : decode prog_14_method_106_code 168 = .ok (.istore_n 2, 1) := by decide +kernel
theorem d_M_explore_38 : decode prog_14_method_106_code 38 = .ok (.istore_n 3, 1) := by decide +kernel
theorem d_M_explore_39 : decode prog_14_method_106_code 39 = .ok (.iload_n 3, 1) := by decide +kernel
theorem d_M_explore_40 : decode prog_14_method_106_code 40 = .ok (.ifCond .le 5, 3) := by decide +kernel
theorem d_M_explore_45 : decode prog_14_method_106_code 45 = .ok (.iload_n 3, 1) := by decide +kernel
theorem d_M_explore_46 : decode prog_14_method_106_code 46 = .ok (.ifCond .ne 54, 3) := by decide +kernel
theorem d_M_explore_100 : decode prog_14_method_106_code 100 = .ok (.iconst (-1), 1) := by decide +kernel
theorem d_M_explore_101 : decode prog_14_method_106_code 101 = .ok (.istore_n 2, 1) := by decide +kernel
theorem d_M_explore_49 : decode prog_14_method_106_code 49 = .ok (.aload_n 0, 1) := by decide +kernel
theorem d_M_explore_50 : decode prog_14_method_106_code 50 = .ok (.getfield 553, 3) := by decide +kernel
theorem u_1763 : Cond.fieldLink "FilterGuardModel" 553 "FilterGuardModel" "visits" "I" ∈ fg_g := fg_in (List.mem_of_getElem? (i := 1763) (by decide +kernel)) rfl
theorem g_M_22 {p : Program} {l : Launch} {e : Env} {R : Room} {s : Jvm.State} {m : MethodId} {args : Array Value} {below : List Frame} {meth : Method} {c : Code} {H : Heap} {locs : List Loc} {cells slots : Nat} {Q : Jvm.State → Prop} {cc : ByteArray} {pc : Nat} {ls : Array Slot} {rest : List Value} {D : va_G} {ad : Nat → Nat → Nat} {ca : Nat → ClassId} {M : me_M} {N : Nat → Nat} {own : String} {index j : Nat} (hexec : p.tables.exec = Jvm.exec) (hb : c.code = cc) (hts : ∀ w ∈ fg_g, w.before args s = true) (hown : s.vm.findClass own = some m.cls) (hK : va_K D classes (me_T ca) s) (hP : va_P D classes (me_W ad ca M) H) (hwf : me_wf N M) (hj : j < N 1) (hlink : (Cond.fieldLink own index "FilterGuardModel" "visits" "I").before args s = true) (hdg : decode cc pc = .ok (.getfield index, 3)) (kk : W p l e R s m args below meth c H locs cells slots Q (F0 m (pc + 3) ls (.int (mI M 1 j 22) :: rest))) : W p l e R s m args below meth c H locs cells slots Q (F0 m pc ls (.ref (ad 1 j) :: rest)) := me_get (k := 1) (f := 22) (C := "FilterGuardModel") (T := F_M) (Nf := 75) hexec hb hts i_M hown hK hP hwf hj (by decide) rfl (by decide) (by decide) hlink (fun _ h9 => h9) hdg kk
theorem d_M_explore_53 : decode prog_14_method_106_code 53 = .ok (.iload_n 1, 1) := by decide +kernel
theorem d_M_explore_54 : decode prog_14_method_106_code 54 = .ok (.if_icmp .ne 6, 3) := by decide +kernel
theorem d_M_explore_60 : decode prog_14_method_106_code 60 = .ok (.aload_n 0, 1) := by decide +kernel
theorem d_M_explore_61 : decode prog_14_method_106_code 61 = .ok (.dup, 1) := by decide +kernel
theorem d_M_explore_62 : decode prog_14_method_106_code 62 = .ok (.getfield 553, 3) := by decide +kernel
theorem d_M_explore_65 : decode prog_14_method_106_code 65 = .ok (.iconst 1, 1) := by decide +kernel
theorem d_M_explore_66 : decode prog_14_method_106_code 66 = .ok (.iadd, 1) := by decide +kernel
theorem d_M_explore_67 : decode prog_14_method_106_code 67 = .ok (.putfield 553, 3) := by decide +kernel
theorem p_M_22 {p : Program} {l : Launch} {e : Env} {R : Room} {s : Jvm.State} {m : MethodId} {args : Array Value} {below : List Frame} {meth : Method} {c : Code} {H : Heap} {locs : List Loc} {cells slots : Nat} {Q : Jvm.State → Prop} {cc : ByteArray} {pc : Nat} {ls : Array Slot} {rest : List Value} {D : va_G} {A : Nat → Prop} {H0 : Heap} {ad : Nat → Nat → Nat} {ca : Nat → ClassId} {M M1 : me_M} {N : Nat → Nat} {own : String} {index j : Nat} {v : Int32} (he : M1 = wI M 1 j 22 v) (hexec : p.tables.exec = Jvm.exec) (hb : c.code = cc) (hts : ∀ w ∈ fg_g, w.before args s = true) (hown : s.vm.findClass own = some m.cls) (hK : va_K D classes (me_T ca) s) (hP : va_P D classes (me_W ad ca M) H) (hD : va_D A (me_W ad ca M)) (hwf : me_wf N M) (hS : va_S A H0 H locs) (hj : j < N 1) (hlink : (Cond.fieldLink own index "FilterGuardModel" "visits" "I").before args s = true) (hdg : decode cc pc = .ok (.putfield index, 3)) (kk : ∀ (H1 : Heap) (locs1 : List Loc), va_P D classes (me_W ad ca M1) H1 → va_D A (me_W ad ca M1) → me_wf N M1 → va_S A H0 H1 locs1 → W p l e R s m args below meth c H1 locs1 cells slots Q (F0 m (pc + 3) ls rest)) : W p l e R s m args below meth c H locs cells slots Q (F0 m pc ls (.int v :: .ref (ad 1 j) :: rest)) := by
  subst he
  exact me_put (M1 := wI M 1 j 22 v) (k := 1) (f := 22) (C := "FilterGuardModel") (T := F_M) (Nf := 75) hexec hb hts i_M t_M t_M_ok n_M hown hK hP hD hwf hS hj (by decide) rfl (by decide) (by decide) hlink (fun _ h9 => h9) rfl rfl rfl rfl (fun a b h => me_wIE h) (me_fIw (by decide) (by decide)) hdg (fun H1 locs1 a1 a2 a3 => kk H1 locs1 a1 a2 (me_wfI hwf (fun z => absurd z (by decide)) (fun z => absurd z (by decide))) a3)
theorem d_M_explore_70 : decode prog_14_method_106_code 70 = .ok (.aload_n 0, 1) := by decide +kernel
theorem d_M_explore_71 : decode prog_14_method_106_code 71 = .ok (.getfield 47, 3) := by decide +kernel
theorem g_M_27 {p : Program} {l : Launch} {e : Env} {R : Room} {s : Jvm.State} {m : MethodId} {args : Array Value} {below : List Frame} {meth : Method} {c : Code} {H : Heap} {locs : List Loc} {cells slots : Nat} {Q : Jvm.State → Prop} {cc : ByteArray} {pc : Nat} {ls : Array Slot} {rest : List Value} {D : va_G} {ad : Nat → Nat → Nat} {ca : Nat → ClassId} {M : me_M} {N : Nat → Nat} {own : String} {index j : Nat} (hexec : p.tables.exec = Jvm.exec) (hb : c.code = cc) (hts : ∀ w ∈ fg_g, w.before args s = true) (hown : s.vm.findClass own = some m.cls) (hK : va_K D classes (me_T ca) s) (hP : va_P D classes (me_W ad ca M) H) (hwf : me_wf N M) (hj : j < N 1) (hlink : (Cond.fieldLink own index "FilterGuardModel" "visited" "[I").before args s = true) (hdg : decode cc pc = .ok (.getfield index, 3)) (kk : W p l e R s m args below meth c H locs cells slots Q (F0 m (pc + 3) ls (va_rf ((mR M 1 j 27).map (ad 13)) :: rest))) : W p l e R s m args below meth c H locs cells slots Q (F0 m pc ls (.ref (ad 1 j) :: rest)) := me_get (k := 1) (f := 27) (C := "FilterGuardModel") (T := F_M) (Nf := 75) hexec hb hts i_M hown hK hP hwf hj (by decide) rfl (by decide) (by decide) hlink (fun _ h9 => h9) hdg kk
theorem d_M_explore_74 : decode prog_14_method_106_code 74 = .ok (.iload_n 2, 1) := by decide +kernel
theorem d_M_explore_75 : decode prog_14_method_106_code 75 = .ok (.dup2, 1) := by decide +kernel
theorem d_M_explore_76 : decode prog_14_method_106_code 76 = .ok (.iaload, 1) := by decide +kernel
theorem d_M_explore_77 : decode prog_14_method_106_code 77 = .ok (.iconst 1, 1) := by decide +kernel
theorem d_M_explore_78 : decode prog_14_method_106_code 78 = .ok (.iadd, 1) := by decide +kernel
theorem d_M_explore_79 : decode prog_14_method_106_code 79 = .ok (.iastore, 1) := by decide +kernel
theorem d_M_explore_80 : decode prog_14_method_106_code 80 = .ok (.aload_n 0, 1) := by decide +kernel
theorem d_M_explore_81 : decode prog_14_method_106_code 81 = .ok (.iload_n 2, 1) := by decide +kernel
theorem d_M_explore_82 : decode prog_14_method_106_code 82 = .ok (.invokevirtual 556, 3) := by decide +kernel
theorem u_2100 : Cond.methodLink "FilterGuardModel" 556 ⟨"FilterGuardModel", "does", "(I)I"⟩ ∈ fg_g := fg_in (List.mem_of_getElem? (i := 2100) (by decide +kernel)) rfl
theorem u_2103 : Cond.code ⟨"FilterGuardModel", "does", "(I)I"⟩ prog_14_method_104_code 4 (some .int) ∈ fg_g := fg_in (List.mem_of_getElem? (i := 2103) (by decide +kernel)) rfl
theorem u_2102 : Cond.instanceMethod ⟨"FilterGuardModel", "does", "(I)I"⟩ ∈ fg_g := fg_in (List.mem_of_getElem? (i := 2102) (by decide +kernel)) rfl
theorem u_104 : Cond.selects "FilterGuardModel" ⟨"FilterGuardModel", "does", "(I)I"⟩ ⟨"FilterGuardModel", "does", "(I)I"⟩ ∈ fg_g := fg_in (List.mem_of_getElem? (i := 104) (by decide +kernel)) rfl
theorem d_M_explore_85 : decode prog_14_method_106_code 85 = .ok (.istore_n 3, 1) := by decide +kernel
theorem d_M_explore_86 : decode prog_14_method_106_code 86 = .ok (.iload_n 3, 1) := by decide +kernel
theorem d_M_explore_87 : decode prog_14_method_106_code 87 = .ok (.ifCond .le 5, 3) := by decide +kernel
theorem d_M_explore_92 : decode prog_14_method_106_code 92 = .ok (.aload_n 0, 1) := by decide +kernel
theorem d_M_explore_93 : decode prog_14_method_106_code 93 = .ok (.getfield 514, 3) := by decide +kernel
theorem g_M_70 {p : Program} {l : Launch} {e : Env} {R : Room} {s : Jvm.State} {m : MethodId} {args : Array Value} {below : List Frame} {meth : Method} {c : Code} {H : Heap} {locs : List Loc} {cells slots : Nat} {Q : Jvm.State → Prop} {cc : ByteArray} {pc : Nat} {ls : Array Slot} {rest : List Value} {D : va_G} {ad : Nat → Nat → Nat} {ca : Nat → ClassId} {M : me_M} {N : Nat → Nat} {own : String} {index j : Nat} (hexec : p.tables.exec = Jvm.exec) (hb : c.code = cc) (hts : ∀ w ∈ fg_g, w.before args s = true) (hown : s.vm.findClass own = some m.cls) (hK : va_K D classes (me_T ca) s) (hP : va_P D classes (me_W ad ca M) H) (hwf : me_wf N M) (hj : j < N 1) (hlink : (Cond.fieldLink own index "FilterGuardModel" "next" "I").before args s = true) (hdg : decode cc pc = .ok (.getfield index, 3)) (kk : W p l e R s m args below meth c H locs cells slots Q (F0 m (pc + 3) ls (.int (mI M 1 j 70) :: rest))) : W p l e R s m args below meth c H locs cells slots Q (F0 m pc ls (.ref (ad 1 j) :: rest)) := me_get (k := 1) (f := 70) (C := "FilterGuardModel") (T := F_M) (Nf := 75) hexec hb hts i_M hown hK hP hwf hj (by decide) rfl (by decide) (by decide) hlink (fun _ h9 => h9) hdg kk
theorem d_M_explore_96 : decode prog_14_method_106_code 96 = .ok (.istore_n 2, 1) := by decide +kernel
theorem d_M_explore_97 : decode prog_14_method_106_code 97 = .ok (.goto 5, 3) := by decide +kernel
theorem d_M_explore_90 : decode prog_14_method_106_code 90 = .ok (.iload_n 3, 1) := by decide +kernel
theorem d_M_explore_91 : decode prog_14_method_106_code 91 = .ok (.ireturn, 1) := by decide +kernel
theorem d_M_explore_57 : decode prog_14_method_106_code 57 = .ok (.bipush 20, 2) := by decide +kernel
theorem d_M_explore_59 : decode prog_14_method_106_code 59 = .ok (.ireturn, 1) := by decide +kernel
theorem d_M_explore_43 : decode prog_14_method_106_code 43 = .ok (.iload_n 3, 1) := by decide +kernel
theorem d_M_explore_44 : decode prog_14_method_106_code 44 = .ok (.ireturn, 1) := by decide +kernel
theorem d_M_explore_11 : decode prog_14_method_106_code 11 = .ok (.iload_n 2, 1) := by decide +kernel
theorem d_M_explore_12 : decode prog_14_method_106_code 12 = .ok (.ifCond .lt 160, 3) := by decide +kernel
theorem d_M_explore_172 : decode prog_14_method_106_code 172 = .ok (.iconst 0, 1) := by decide +kernel
theorem d_M_explore_173 : decode prog_14_method_106_code 173 = .ok (.ireturn, 1) := by decide +kernel
theorem d_M_explore_15 : decode prog_14_method_106_code 15 = .ok (.aload_n 0, 1) := by decide +kernel
theorem d_M_explore_16 : decode prog_14_method_106_code 16 = .ok (.iload_n 2, 1) := by decide +kernel
theorem d_M_explore_17 : decode prog_14_method_106_code 17 = .ok (.putfield 351, 3) := by decide +kernel
theorem d_M_explore_20 : decode prog_14_method_106_code 20 = .ok (.aload_n 0, 1) := by decide +kernel
theorem d_M_explore_21 : decode prog_14_method_106_code 21 = .ok (.getfield 65, 3) := by decide +kernel
theorem d_M_explore_24 : decode prog_14_method_106_code 24 = .ok (.iload_n 2, 1) := by decide +kernel
theorem d_M_explore_25 : decode prog_14_method_106_code 25 = .ok (.baload, 1) := by decide +kernel
theorem d_M_explore_26 : decode prog_14_method_106_code 26 = .ok (.ifCond .eq 11, 3) := by decide +kernel
theorem d_M_explore_37 : decode prog_14_method_106_code 37 = .ok (.iconst 0, 1) := by decide +kernel
theorem d_M_explore_29 : decode prog_14_method_106_code 29 = .ok (.aload_n 0, 1) := by decide +kernel
theorem d_M_explore_30 : decode prog_14_method_106_code 30 = .ok (.iload_n 2, 1) := by decide +kernel
theorem d_M_explore_31 : decode prog_14_method_106_code 31 = .ok (.invokevirtual 550, 3) := by decide +kernel
theorem u_2048 : Cond.methodLink "FilterGuardModel" 550 ⟨"FilterGuardModel", "lookAtKept", "(I)I"⟩ ∈ fg_g := fg_in (List.mem_of_getElem? (i := 2048) (by decide +kernel)) rfl
theorem u_2051 : Cond.code ⟨"FilterGuardModel", "lookAtKept", "(I)I"⟩ prog_14_method_101_code 3 (some .int) ∈ fg_g := fg_in (List.mem_of_getElem? (i := 2051) (by decide +kernel)) rfl
theorem u_2050 : Cond.instanceMethod ⟨"FilterGuardModel", "lookAtKept", "(I)I"⟩ ∈ fg_g := fg_in (List.mem_of_getElem? (i := 2050) (by decide +kernel)) rfl
theorem u_93 : Cond.selects "FilterGuardModel" ⟨"FilterGuardModel", "lookAtKept", "(I)I"⟩ ⟨"FilterGuardModel", "lookAtKept", "(I)I"⟩ ∈ fg_g := fg_in (List.mem_of_getElem? (i := 93) (by decide +kernel)) rfl
theorem d_M_explore_34 : decode prog_14_method_106_code 34 = .ok (.goto 4, 3) := by decide +kernel
theorem d_M_explore_0 : decode prog_14_method_106_code 0 = .ok (.aload_n 0, 1) := by decide +kernel
theorem d_M_explore_1 : decode prog_14_method_106_code 1 = .ok (.invokevirtual 547, 3) := by decide +kernel
theorem u_2036 : Cond.methodLink "FilterGuardModel" 547 ⟨"FilterGuardModel", "begin", "()V"⟩ ∈ fg_g := fg_in (List.mem_of_getElem? (i := 2036) (by decide +kernel)) rfl
theorem u_2039 : Cond.code ⟨"FilterGuardModel", "begin", "()V"⟩ prog_14_method_63_code 2 none ∈ fg_g := fg_in (List.mem_of_getElem? (i := 2039) (by decide +kernel)) rfl
theorem u_2038 : Cond.instanceMethod ⟨"FilterGuardModel", "begin", "()V"⟩ ∈ fg_g := fg_in (List.mem_of_getElem? (i := 2038) (by decide +kernel)) rfl
theorem u_90 : Cond.selects "FilterGuardModel" ⟨"FilterGuardModel", "begin", "()V"⟩ ⟨"FilterGuardModel", "begin", "()V"⟩ ∈ fg_g := fg_in (List.mem_of_getElem? (i := 90) (by decide +kernel)) rfl
theorem d_M_explore_4 : decode prog_14_method_106_code 4 = .ok (.aload_n 0, 1) := by decide +kernel
theorem d_M_explore_5 : decode prog_14_method_106_code 5 = .ok (.iconst 0, 1) := by decide +kernel
theorem d_M_explore_6 : decode prog_14_method_106_code 6 = .ok (.putfield 499, 3) := by decide +kernel
theorem d_M_explore_9 : decode prog_14_method_106_code 9 = .ok (.iconst 0, 1) := by decide +kernel
theorem d_M_explore_10 : decode prog_14_method_106_code 10 = .ok (.istore_n 2, 1) := by decide +kernel
abbrev y_M_explore : MethodName := ⟨"FilterGuardModel", "explore", "(I)I"⟩
def f_M_explore_b102 (k11 : me_M → Int32 → Option (me_M × Int32)) (j0 : Nat) (x1 : Int32) (M : me_M) (y2 : Int32) : Option (me_M × Int32) := (if 0 ≤ y2 then k11 M y2 else st (wI M 1 j0 25 ((mI M 1 j0 25) + 1)) (fun (M2 : me_M) => (if (mI M2 1 j0 62) ≤ 0 then k11 M2 y2 else st (wI M2 1 j0 62 ((mI M2 1 j0 62) - 1)) (fun (M4 : me_M) => bd (f_M_copyState M4 j0 (201 + (mI M4 1 j0 62)) (0 : Int32)) (fun (M5 : me_M) => bd (mR M 1 j0 64) (fun (j6 : Nat) => gd (¬ ((mI M5 1 j0 62) < 0 ∨ mZ M 13 j6 ≤ (mI M5 1 j0 62).toNatClampNeg)) (st (wI M5 1 j0 65 (mI M5 13 j6 (mI M5 1 j0 62).toNatClampNeg)) (fun (M9 : me_M) => bd (mR M 1 j0 63) (fun (j10 : Nat) => gd (¬ ((mI M9 1 j0 62) < 0 ∨ mZ M 13 j10 ≤ (mI M9 1 j0 62).toNatClampNeg)) (st (mI M9 13 j10 (mI M9 1 j0 62).toNatClampNeg) (fun (v13 : Int32) => k11 M9 v13)))))))))))
def f_M_explore_b38 (k11 : me_M → Int32 → Option (me_M × Int32)) (j0 : Nat) (x1 : Int32) (M : me_M) (y2 : Int32) (s0 : Int32) : Option (me_M × Int32) := (if s0 ≤ 0 then (if s0 = 0 then (if (mI M 1 j0 22) = x1 then some (M, (20 : Int32)) else st (wI M 1 j0 22 ((mI M 1 j0 22) + 1)) (fun (M17 : me_M) => bd (mR M 1 j0 27) (fun (j18 : Nat) => gd (¬ (y2 < 0 ∨ mZ M 13 j18 ≤ y2.toNatClampNeg)) (st (wI M17 13 j18 y2.toNatClampNeg ((mI M17 13 j18 y2.toNatClampNeg) + 1)) (fun (M21 : me_M) => b2 (f_M_does0 M21 j0 y2) (fun (M22 : me_M) (r23 : Int32) => (if r23 ≤ 0 then st (mI M22 1 j0 70) (fun (v25 : Int32) => f_M_explore_b102 k11 j0 x1 M22 v25) else some (M22, r23)))))))) else f_M_explore_b102 k11 j0 x1 M (-1 : Int32)) else some (M, s0))
def f_M_explore_l11 (j0 : Nat) (x1 : Int32) : Nat → me_M → Int32 → Option (me_M × Int32)
  | 0, _, _ => none
  | fu + 1, M, y2 => (if y2 < 0 then some (M, (0 : Int32)) else st (wI M 1 j0 21 y2) (fun (M27 : me_M) => bd (mR M 1 j0 33) (fun (j28 : Nat) => gd (¬ (y2 < 0 ∨ mZ M 15 j28 ≤ y2.toNatClampNeg)) ((if (mI M27 15 j28 y2.toNatClampNeg) = 0 then f_M_explore_b38 (f_M_explore_l11 j0 x1 fu) j0 x1 M27 y2 (0 : Int32) else b2 (f_M_lookAtKept M27 j0 y2) (fun (M33 : me_M) (r34 : Int32) => f_M_explore_b38 (f_M_explore_l11 j0 x1 fu) j0 x1 M33 y2 r34))))))
def f_M_explore (M0 : me_M) (j0 : Nat) (x1 : Int32) : Option (me_M × Int32) := bd (f_M_begin M0 j0) (fun (M35 : me_M) => st (wI M35 1 j0 65 0) (fun (M36 : me_M) => f_M_explore_l11 j0 x1 fuel M36 (0 : Int32)))
def rm_M_explore : Room := { frames := 12, cells := 0, slots := 0, locals := 294 }
abbrev q_M_explore (D : va_G) (ad : Nat → Nat → Nat) (ca : Nat → ClassId) (N : Nat → Nat) (M0 MZ : me_M) (RZ : Int32) (A : Nat → Prop) : Array Value → Jvm.State → Outcome → Jvm.State → Prop := va_Qi (fun r (_ : Unit) => r = RZ ∧ me_wf N MZ ∧ me_kp M0 MZ) (fg_B D A (fun _ => me_W ad ca MZ) (fun _ => [])) A
set_option maxHeartbeats 4000000 in
set_option maxRecDepth 100000 in
theorem c_M_explore (l : Launch) (D : va_G) (ad : Nat → Nat → Nat) (ca : Nat → ClassId) (N : Nat → Nat) (M0 MZ : me_M) (RZ : Int32) (j0 : Nat) (x1 : Int32) (h : f_M_explore M0 j0 x1 = (some (MZ, RZ))) (hwf : me_wf N M0) (hj0 : j0 < N 1) (sz : Nat) : Met l y_M_explore (fg_w y_M_explore prog_14_method_106_code 4 (some .int)) rm_M_explore (va_Pc [.ref (ad 1 j0), .int x1] (fz_P D (me_T ca) (me_W ad ca M0) sz)) (q_M_explore D ad ca N M0 MZ RZ (va_A (me_W ad ca M0) sz)) rm_M_explore.cells rm_M_explore.slots (va_A (me_W ad ca M0) sz) := by
  refine fz_enter (fun A => q_M_explore D ad ca N M0 MZ RZ A) (by decide +kernel) (Nat.le_of_ble_eq_true rfl) ?_
  intro p e s m below meth c ls A hx hb hml hown hts hr hlocks hin hP hK hD hS hA hX hl hz
  have hl : lv_has ls 4 [(0, .ref (ad 1 j0)), (1, .int x1)] := hl
  unfold f_M_explore at h
  have hkp : me_kp M0 M0 := me_kp.rf
  have hkb := hkp
  have b_102 : ∀ (k11 : me_M → Int32 → Option (me_M × Int32)) (hk11 : ∀ (M : me_M) (y2 : Int32) (H : Heap) (locs : List Loc) (ls : Array Slot), k11 M y2 = (some (MZ, RZ)) → me_wf N M → me_kp M0 M → va_P D classes (me_W ad ca M) H → va_D A (me_W ad ca M) → va_S A s.heap H locs → lv_has ls 4 [(0, .ref (ad 1 j0)), (1, .int x1), (2, .int y2)] → W p l e rm_M_explore s m [.ref (ad 1 j0), .int x1].toArray below meth c H locs 0 0 (MQ below (q_M_explore D ad ca N M0 MZ RZ A) [.ref (ad 1 j0), .int x1].toArray s rm_M_explore.cells rm_M_explore.slots A) (F0 m 11 ls [])), ∀ (M : me_M) (y2 : Int32) (H : Heap) (locs : List Loc) (ls : Array Slot), f_M_explore_b102 k11 j0 x1 M y2 = (some (MZ, RZ)) → me_wf N M → me_kp M0 M → va_P D classes (me_W ad ca M) H → va_D A (me_W ad ca M) → va_S A s.heap H locs → lv_has ls 4 [(0, .ref (ad 1 j0)), (1, .int x1), (2, .int y2)] → W p l e rm_M_explore s m [.ref (ad 1 j0), .int x1].toArray below meth c H locs 0 0 (MQ below (q_M_explore D ad ca N M0 MZ RZ A) [.ref (ad 1 j0), .int x1].toArray s rm_M_explore.cells rm_M_explore.slots A) (F0 m 102 ls []) := by
    intro k11 hk11 M y2 H locs ls h hwf hkp hP hD hS hl
    unfold f_M_explore_b102 at h
    have hkb := hkp
    refine lv_iload_n hx hb d_M_explore_102 rfl (lv_at hl 2 rfl) ?_
    refine lv_if_ge (tgt := 169) hx hb d_M_explore_103 (by decide) (fun c1 => ?_) (fun c1 => ?_)
    · have h := if_t c1 h
      refine lv_goto (tgt := 11) hx hb d_M_explore_169 (by decide) ?_
      exact hk11 M y2 _ _ _ h hwf hkp hP hD hS (lv_sub hl [0, 1, 2] rfl)
    have h := if_f c1 h
    refine lv_aload_n hx hb d_M_explore_106 rfl (lv_at hl 0 rfl) ?_
    refine lv_dup hx hb d_M_explore_107 rfl ?_
    refine g_M_25 hx hb hts hown hK hP hwf hj0 (hts _ u_1766) d_M_explore_108 ?_
    refine lv_iconst (v := 1) hx hb d_M_explore_111 (by decide) ?_
    refine lv_iadd hx hb d_M_explore_112 ?_
    obtain ⟨M2, eM2, h⟩ := st_ob h
    refine p_M_25 eM2 hx hb hts hown hK hP hD hwf hS hj0 (hts _ u_1766) d_M_explore_113 (fun H locs hP hD hwf hS => ?_)
    have hkp := kp_I eM2 hkp
    refine lv_aload_n hx hb d_M_explore_116 rfl (lv_at hl 0 rfl) ?_
    refine g_M_62 hx hb hts hown hK hP hwf hj0 (hts _ u_1803) d_M_explore_117 ?_
    refine lv_if_le (tgt := 169) hx hb d_M_explore_120 (by decide) (fun c3 => ?_) (fun c3 => ?_)
    · have h := if_t c3 h
      refine lv_goto (tgt := 11) hx hb d_M_explore_169 (by decide) ?_
      exact hk11 M2 y2 _ _ _ h hwf hkp hP hD hS (lv_sub hl [0, 1, 2] rfl)
    have h := if_f c3 h
    refine lv_aload_n hx hb d_M_explore_123 rfl (lv_at hl 0 rfl) ?_
    refine lv_dup hx hb d_M_explore_124 rfl ?_
    refine g_M_62 hx hb hts hown hK hP hwf hj0 (hts _ u_1803) d_M_explore_125 ?_
    refine lv_iconst (v := 1) hx hb d_M_explore_128 (by decide) ?_
    refine lv_isub hx hb d_M_explore_129 ?_
    obtain ⟨M4, eM4, h⟩ := st_ob h
    refine p_M_62 eM4 hx hb hts hown hK hP hD hwf hS hj0 (hts _ u_1803) d_M_explore_130 (fun H locs hP hD hwf hS => ?_)
    have hkp := kp_I eM4 hkp
    refine lv_aload_n hx hb d_M_explore_133 rfl (lv_at hl 0 rfl) ?_
    refine lv_sipush (v := 201) hx hb d_M_explore_134 (by decide) ?_
    refine lv_aload_n hx hb d_M_explore_137 rfl (lv_at hl 0 rfl) ?_
    refine g_M_62 hx hb hts hown hK hP hwf hj0 (hts _ u_1803) d_M_explore_138 ?_
    refine lv_iadd hx hb d_M_explore_141 ?_
    refine lv_iconst (v := 0) hx hb d_M_explore_142 (by decide) ?_
    obtain ⟨M5, eM5, h⟩ := bd_ob h
    refine me_thenv0 (M1 := M5) (me_runV (C := "FilterGuardModel") (As := [.int (201 + (mI M4 1 j0 62)), .int 0]) (rest := []) ⟨hx, hb, hml, hown, hts⟩ (c_M_copyState l D ad ca N M4 M5 j0 (201 + (mI M4 1 j0 62)) (0 : Int32) eM5 hwf hj0 _) rfl (by show fg_nm y_M_copyState 2; decide +kernel) u_2088 u_2090 u_101 u_192 u_2091 ⟨Nat.le_of_ble_eq_true rfl, Nat.le_of_ble_eq_true rfl⟩ hX hz hK hP hD hwf hS hA hj0 (by decide) rfl rfl rfl hl.1 (Nat.le_of_ble_eq_true rfl) d_M_explore_143 ⟨Nat.le_of_ble_eq_true rfl, Nat.le_of_ble_eq_true rfl⟩) hP hD hK hS hA rfl rfl (fun H locs hw hP hD hS => ?_)
    obtain ⟨hwf, hk9⟩ := hw
    have hkp := hkp.tr hk9
    refine lv_aload_n hx hb d_M_explore_146 rfl (lv_at hl 0 rfl) ?_
    refine lv_aload_n hx hb d_M_explore_147 rfl (lv_at hl 0 rfl) ?_
    refine g_M_64 hx hb hts hown hK hP hwf hj0 (hts _ u_1805) d_M_explore_148 ?_
    obtain ⟨j6, e7, h⟩ := bd_ob h
    have hj6 : j6 < N 13 := (hwf.2.1 1 j0 64 _ (kp_r hkb hkp e7) (by decide) hj0)
    refine me_opt (j := j6) (kp_r hkb hkp e7) ?_
    refine lv_aload_n hx hb d_M_explore_151 rfl (lv_at hl 0 rfl) ?_
    refine g_M_62 hx hb hts hown hK hP hwf hj0 (hts _ u_1803) d_M_explore_152 ?_
    obtain ⟨g8, h⟩ := gd_ob h
    refine me_iald hx hb hK hP hwf hj6 (kp_z hkb.z hkp.z g8) d_M_explore_155 ?_
    obtain ⟨M9, eM9, h⟩ := st_ob h
    refine p_M_65 eM9 hx hb hts hown hK hP hD hwf hS hj0 (hts _ u_1806) d_M_explore_156 (fun H locs hP hD hwf hS => ?_)
    have hkp := kp_I eM9 hkp
    refine lv_aload_n hx hb d_M_explore_159 rfl (lv_at hl 0 rfl) ?_
    refine g_M_63 hx hb hts hown hK hP hwf hj0 (hts _ u_1804) d_M_explore_160 ?_
    obtain ⟨j10, e11, h⟩ := bd_ob h
    have hj10 : j10 < N 13 := (hwf.2.1 1 j0 63 _ (kp_r hkb hkp e11) (by decide) hj0)
    refine me_opt (j := j10) (kp_r hkb hkp e11) ?_
    refine lv_aload_n hx hb d_M_explore_163 rfl (lv_at hl 0 rfl) ?_
    refine g_M_62 hx hb hts hown hK hP hwf hj0 (hts _ u_1803) d_M_explore_164 ?_
    obtain ⟨g12, h⟩ := gd_ob h
    refine me_iald hx hb hK hP hwf hj10 (kp_z hkb.z hkp.z g12) d_M_explore_167 ?_
    obtain ⟨v13, ev13, h⟩ := st_ob h
    refine fg_topi (y := v13) ev13.symm ?_
    refine lv_istore_n (lv' := [(2, .int v13), (0, .ref (ad 1 j0)), (1, .int x1)]) hx hb d_M_explore_168 rfl hl (by decide) rfl (fun ls hl => ?_)
    refine lv_goto (tgt := 11) hx hb d_M_explore_169 (by decide) ?_
    exact hk11 M9 v13 _ _ _ h hwf hkp hP hD hS (lv_sub hl [1, 2, 0] rfl)
  have b_38 : ∀ (k11 : me_M → Int32 → Option (me_M × Int32)) (hk11 : ∀ (M : me_M) (y2 : Int32) (H : Heap) (locs : List Loc) (ls : Array Slot), k11 M y2 = (some (MZ, RZ)) → me_wf N M → me_kp M0 M → va_P D classes (me_W ad ca M) H → va_D A (me_W ad ca M) → va_S A s.heap H locs → lv_has ls 4 [(0, .ref (ad 1 j0)), (1, .int x1), (2, .int y2)] → W p l e rm_M_explore s m [.ref (ad 1 j0), .int x1].toArray below meth c H locs 0 0 (MQ below (q_M_explore D ad ca N M0 MZ RZ A) [.ref (ad 1 j0), .int x1].toArray s rm_M_explore.cells rm_M_explore.slots A) (F0 m 11 ls [])), ∀ (M : me_M) (y2 : Int32) (s0 : Int32) (H : Heap) (locs : List Loc) (ls : Array Slot), f_M_explore_b38 k11 j0 x1 M y2 s0 = (some (MZ, RZ)) → me_wf N M → me_kp M0 M → va_P D classes (me_W ad ca M) H → va_D A (me_W ad ca M) → va_S A s.heap H locs → lv_has ls 4 [(0, .ref (ad 1 j0)), (1, .int x1), (2, .int y2)] → W p l e rm_M_explore s m [.ref (ad 1 j0), .int x1].toArray below meth c H locs 0 0 (MQ below (q_M_explore D ad ca N M0 MZ RZ A) [.ref (ad 1 j0), .int x1].toArray s rm_M_explore.cells rm_M_explore.slots A) (F0 m 38 ls [.int s0]) := by
    intro k11 hk11 M y2 s0 H locs ls h hwf hkp hP hD hS hl
    unfold f_M_explore_b38 at h
    have hkb := hkp
    refine lv_istore_n (lv' := [(3, .int s0), (0, .ref (ad 1 j0)), (1, .int x1), (2, .int y2)]) hx hb d_M_explore_38 rfl hl (by decide) rfl (fun ls hl => ?_)
    refine lv_iload_n hx hb d_M_explore_39 rfl (lv_at hl 0 rfl) ?_
    refine lv_if_le (tgt := 45) hx hb d_M_explore_40 (by decide) (fun c14 => ?_) (fun c14 => ?_)
    · have h := if_t c14 h
      refine lv_iload_n hx hb d_M_explore_45 rfl (lv_at hl 0 rfl) ?_
      refine lv_if_ne (tgt := 100) hx hb d_M_explore_46 (by decide) (fun c15 => ?_) (fun c15 => ?_)
      · have h := if_f c15 h
        refine lv_iconst (v := (-1)) hx hb d_M_explore_100 (by decide) ?_
        refine lv_istore_n (lv' := [(2, .int (-1)), (3, .int s0), (0, .ref (ad 1 j0)), (1, .int x1)]) hx hb d_M_explore_101 rfl hl (by decide) rfl (fun ls hl => ?_)
        exact b_102 _ hk11 M (-1 : Int32) _ _ _ h hwf hkp hP hD hS (lv_sub hl [2, 3, 0] rfl)
      have h := if_t c15 h
      refine lv_aload_n hx hb d_M_explore_49 rfl (lv_at hl 1 rfl) ?_
      refine g_M_22 hx hb hts hown hK hP hwf hj0 (hts _ u_1763) d_M_explore_50 ?_
      refine lv_iload_n hx hb d_M_explore_53 rfl (lv_at hl 2 rfl) ?_
      refine lv_icmp_ne (tgt := 60) hx hb d_M_explore_54 (by decide) (fun c16 => ?_) (fun c16 => ?_)
      · have h := if_f c16 h
        refine lv_aload_n hx hb d_M_explore_60 rfl (lv_at hl 1 rfl) ?_
        refine lv_dup hx hb d_M_explore_61 rfl ?_
        refine g_M_22 hx hb hts hown hK hP hwf hj0 (hts _ u_1763) d_M_explore_62 ?_
        refine lv_iconst (v := 1) hx hb d_M_explore_65 (by decide) ?_
        refine lv_iadd hx hb d_M_explore_66 ?_
        obtain ⟨M17, eM17, h⟩ := st_ob h
        refine p_M_22 eM17 hx hb hts hown hK hP hD hwf hS hj0 (hts _ u_1763) d_M_explore_67 (fun H locs hP hD hwf hS => ?_)
        have hkp := kp_I eM17 hkp
        refine lv_aload_n hx hb d_M_explore_70 rfl (lv_at hl 1 rfl) ?_
        refine g_M_27 hx hb hts hown hK hP hwf hj0 (hts _ u_1768) d_M_explore_71 ?_
        obtain ⟨j18, e19, h⟩ := bd_ob h
        have hj18 : j18 < N 13 := (hwf.2.1 1 j0 27 _ (kp_r hkb hkp e19) (by decide) hj0)
        refine me_opt (j := j18) (kp_r hkb hkp e19) ?_
        refine lv_iload_n hx hb d_M_explore_74 rfl (lv_at hl 3 rfl) ?_
        refine lv_dup2_11 hx hb d_M_explore_75 rfl rfl ?_
        obtain ⟨g20, h⟩ := gd_ob h
        refine me_iald hx hb hK hP hwf hj18 (kp_z hkb.z hkp.z g20) d_M_explore_76 ?_
        refine lv_iconst (v := 1) hx hb d_M_explore_77 (by decide) ?_
        refine lv_iadd hx hb d_M_explore_78 ?_
        obtain ⟨M21, eM21, h⟩ := st_ob h
        refine me_iast eM21 hx hb hK hP hD hwf hS hj18 (kp_z hkb.z hkp.z g20) d_M_explore_79 (fun H locs hP hD hwf hS => ?_)
        have hkp := kp_I eM21 hkp
        refine lv_aload_n hx hb d_M_explore_80 rfl (lv_at hl 1 rfl) ?_
        refine lv_iload_n hx hb d_M_explore_81 rfl (lv_at hl 3 rfl) ?_
        obtain ⟨M22, r23, eM22, h⟩ := b2_ob h
        refine me_theni0 (M1 := M22) (me_runV (C := "FilterGuardModel") (As := [.int y2]) (rest := []) ⟨hx, hb, hml, hown, hts⟩ (c_M_does0 l D ad ca N M21 M22 r23 j0 y2 eM22 hwf hj0 _) rfl (by show fg_nm y_M_does0 1; decide +kernel) u_2100 u_2102 u_104 u_192 u_2103 ⟨Nat.le_of_ble_eq_true rfl, Nat.le_of_ble_eq_true rfl⟩ hX hz hK hP hD hwf hS hA hj0 (by decide) rfl rfl rfl hl.1 (Nat.le_of_ble_eq_true rfl) d_M_explore_82 ⟨Nat.le_of_ble_eq_true rfl, Nat.le_of_ble_eq_true rfl⟩) hP hD hK hS hA rfl rfl (fun H locs hw hP hD hS => ?_)
        obtain ⟨hwf, hk9⟩ := hw
        have hkp := hkp.tr hk9
        refine lv_istore_n (lv' := [(3, .int r23), (0, .ref (ad 1 j0)), (1, .int x1), (2, .int y2)]) hx hb d_M_explore_85 rfl hl (by decide) rfl (fun ls hl => ?_)
        refine lv_iload_n hx hb d_M_explore_86 rfl (lv_at hl 0 rfl) ?_
        refine lv_if_le (tgt := 92) hx hb d_M_explore_87 (by decide) (fun c24 => ?_) (fun c24 => ?_)
        · have h := if_t c24 h
          refine lv_aload_n hx hb d_M_explore_92 rfl (lv_at hl 1 rfl) ?_
          refine g_M_70 hx hb hts hown hK hP hwf hj0 (hts _ u_1811) d_M_explore_93 ?_
          obtain ⟨v25, ev25, h⟩ := st_ob h
          refine fg_topi (y := v25) ev25.symm ?_
          refine lv_istore_n (lv' := [(2, .int v25), (3, .int r23), (0, .ref (ad 1 j0)), (1, .int x1)]) hx hb d_M_explore_96 rfl hl (by decide) rfl (fun ls hl => ?_)
          refine lv_goto (tgt := 102) hx hb d_M_explore_97 (by decide) ?_
          exact b_102 _ hk11 M22 v25 _ _ _ h hwf hkp hP hD hS (lv_sub hl [2, 3, 0] rfl)
        have h := if_f c24 h
        refine lv_iload_n hx hb d_M_explore_90 rfl (lv_at hl 0 rfl) ?_
        exact me_reti (me_kp M0) h hx hb hr hlocks hwf hkp hP hK hD hS d_M_explore_91
      have h := if_t c16 h
      refine lv_bipush (v := 20) hx hb d_M_explore_57 (by decide) ?_
      exact me_reti (me_kp M0) h hx hb hr hlocks hwf hkp hP hK hD hS d_M_explore_59
    have h := if_f c14 h
    refine lv_iload_n hx hb d_M_explore_43 rfl (lv_at hl 0 rfl) ?_
    exact me_reti (me_kp M0) h hx hb hr hlocks hwf hkp hP hK hD hS d_M_explore_44
  have b_11 : ∀ (fu : Nat), ∀ (M : me_M) (y2 : Int32) (H : Heap) (locs : List Loc) (ls : Array Slot), f_M_explore_l11 j0 x1 fu M y2 = (some (MZ, RZ)) → me_wf N M → me_kp M0 M → va_P D classes (me_W ad ca M) H → va_D A (me_W ad ca M) → va_S A s.heap H locs → lv_has ls 4 [(0, .ref (ad 1 j0)), (1, .int x1), (2, .int y2)] → W p l e rm_M_explore s m [.ref (ad 1 j0), .int x1].toArray below meth c H locs 0 0 (MQ below (q_M_explore D ad ca N M0 MZ RZ A) [.ref (ad 1 j0), .int x1].toArray s rm_M_explore.cells rm_M_explore.slots A) (F0 m 11 ls []) := by
    intro fu
    induction fu with
    | zero =>
      intro M y2 H locs ls h hwf hkp hP hD hS hl
      cases h
    | succ fu ih =>
      intro M y2 H locs ls h hwf hkp hP hD hS hl
      unfold f_M_explore_l11 at h
      have hkb := hkp
      refine lv_iload_n hx hb d_M_explore_11 rfl (lv_at hl 2 rfl) ?_
      refine lv_if_lt (tgt := 172) hx hb d_M_explore_12 (by decide) (fun c26 => ?_) (fun c26 => ?_)
      · have h := if_t c26 h
        refine lv_iconst (v := 0) hx hb d_M_explore_172 (by decide) ?_
        exact me_reti (me_kp M0) h hx hb hr hlocks hwf hkp hP hK hD hS d_M_explore_173
      have h := if_f c26 h
      refine lv_aload_n hx hb d_M_explore_15 rfl (lv_at hl 0 rfl) ?_
      refine lv_iload_n hx hb d_M_explore_16 rfl (lv_at hl 2 rfl) ?_
      obtain ⟨M27, eM27, h⟩ := st_ob h
      refine p_M_21 eM27 hx hb hts hown hK hP hD hwf hS hj0 (hts _ u_1762) d_M_explore_17 (fun H locs hP hD hwf hS => ?_)
      have hkp := kp_I eM27 hkp
      refine lv_aload_n hx hb d_M_explore_20 rfl (lv_at hl 0 rfl) ?_
      refine g_M_33 hx hb hts hown hK hP hwf hj0 (hts _ u_1774) d_M_explore_21 ?_
      obtain ⟨j28, e29, h⟩ := bd_ob h
      have hj28 : j28 < N 15 := (hwf.2.1 1 j0 33 _ (kp_r hkb hkp e29) (by decide) hj0)
      refine me_opt (j := j28) (kp_r hkb hkp e29) ?_
      refine lv_iload_n hx hb d_M_explore_24 rfl (lv_at hl 2 rfl) ?_
      obtain ⟨g30, h⟩ := gd_ob h
      refine me_zald hx hb hK hP hwf hj28 (kp_z hkb.z hkp.z g30) d_M_explore_25 ?_
      have z31 := hwf.2.2.2 15 j28 y2.toNatClampNeg rfl
      refine lv_if_eq (tgt := 37) hx hb d_M_explore_26 (by decide) (fun c32 => ?_) (fun c32 => ?_)
      · have h := if_t c32 h
        refine lv_iconst (v := 0) hx hb d_M_explore_37 (by decide) ?_
        exact b_38 _ ih M27 y2 (0 : Int32) _ _ _ h hwf hkp hP hD hS (lv_sub hl [0, 1, 2] rfl)
      have h := if_f c32 h
      refine lv_aload_n hx hb d_M_explore_29 rfl (lv_at hl 0 rfl) ?_
      refine lv_iload_n hx hb d_M_explore_30 rfl (lv_at hl 2 rfl) ?_
      obtain ⟨M33, r34, eM33, h⟩ := b2_ob h
      refine me_theni0 (M1 := M33) (me_runV (C := "FilterGuardModel") (As := [.int y2]) (rest := []) ⟨hx, hb, hml, hown, hts⟩ (c_M_lookAtKept l D ad ca N M27 M33 r34 j0 y2 eM33 hwf hj0 _) rfl (by show fg_nm y_M_lookAtKept 1; decide +kernel) u_2048 u_2050 u_93 u_192 u_2051 ⟨Nat.le_of_ble_eq_true rfl, Nat.le_of_ble_eq_true rfl⟩ hX hz hK hP hD hwf hS hA hj0 (by decide) rfl rfl rfl hl.1 (Nat.le_of_ble_eq_true rfl) d_M_explore_31 ⟨Nat.le_of_ble_eq_true rfl, Nat.le_of_ble_eq_true rfl⟩) hP hD hK hS hA rfl rfl (fun H locs hw hP hD hS => ?_)
      obtain ⟨hwf, hk9⟩ := hw
      have hkp := hkp.tr hk9
      refine lv_goto (tgt := 38) hx hb d_M_explore_34 (by decide) ?_
      exact b_38 _ ih M33 y2 r34 _ _ _ h hwf hkp hP hD hS (lv_sub hl [0, 1, 2] rfl)
  refine lv_aload_n hx hb d_M_explore_0 rfl (lv_at hl 0 rfl) ?_
  obtain ⟨M35, eM35, h⟩ := bd_ob h
  refine me_thenv0 (M1 := M35) (me_runV (C := "FilterGuardModel") (As := []) (rest := []) ⟨hx, hb, hml, hown, hts⟩ (c_M_begin l D ad ca N M0 M35 j0 eM35 hwf hj0 _) rfl (by show fg_nm y_M_begin 0; decide +kernel) u_2036 u_2038 u_90 u_192 u_2039 ⟨Nat.le_of_ble_eq_true rfl, Nat.le_of_ble_eq_true rfl⟩ hX hz hK hP hD hwf hS hA hj0 (by decide) rfl rfl rfl hl.1 (Nat.le_of_ble_eq_true rfl) d_M_explore_1 ⟨Nat.le_of_ble_eq_true rfl, Nat.le_of_ble_eq_true rfl⟩) hP hD hK hS hA rfl rfl (fun H locs hw hP hD hS => ?_)
  obtain ⟨hwf, hk9⟩ := hw
  have hkp := hkp.tr hk9
  refine lv_aload_n hx hb d_M_explore_4 rfl (lv_at hl 0 rfl) ?_
  refine lv_iconst (v := 0) hx hb d_M_explore_5 (by decide) ?_
  obtain ⟨M36, eM36, h⟩ := st_ob h
  refine p_M_65 eM36 hx hb hts hown hK hP hD hwf hS hj0 (hts _ u_1806) d_M_explore_6 (fun H locs hP hD hwf hS => ?_)
  have hkp := kp_I eM36 hkp
  refine lv_iconst (v := 0) hx hb d_M_explore_9 (by decide) ?_
  refine lv_istore_n (lv' := [(2, .int 0), (0, .ref (ad 1 j0)), (1, .int x1)]) hx hb d_M_explore_10 rfl hl (by decide) rfl (fun ls hl => ?_)
  exact b_11 _ M36 (0 : Int32) _ _ _ h hwf hkp hP hD hS (lv_sub hl [1, 2, 0] rfl)
