theorem d_M_sourceOf_0 : decode prog_14_method_70_code 0 = .ok (.lload_n 1, 1) := by decide +kernel
theorem d_M_sourceOf_1 : decode prog_14_method_70_code 1 = .ok (.invokestatic 308, 3) := by decide +kernel
theorem d_M_sourceOf_4 : decode prog_14_method_70_code 4 = .ok (.invokestatic 330, 3) := by decide +kernel
theorem d_M_sourceOf_7 : decode prog_14_method_70_code 7 = .ok (.ifCond .eq 8, 3) := by decide +kernel
theorem d_M_sourceOf_15 : decode prog_14_method_70_code 15 = .ok (.aload_n 0, 1) := by decide +kernel
theorem d_M_sourceOf_16 : decode prog_14_method_70_code 16 = .ok (.sipush 30078, 3) := by decide +kernel
theorem d_M_sourceOf_19 : decode prog_14_method_70_code 19 = .ok (.lload_n 1, 1) := by decide +kernel
theorem d_M_sourceOf_20 : decode prog_14_method_70_code 20 = .ok (.invokestatic 324, 3) := by decide +kernel
theorem d_M_sourceOf_23 : decode prog_14_method_70_code 23 = .ok (.i2l, 1) := by decide +kernel
theorem d_M_sourceOf_24 : decode prog_14_method_70_code 24 = .ok (.invokevirtual 375, 3) := by decide +kernel
theorem u_2112 : Cond.methodLink "FilterGuardModel" 375 ⟨"FilterGuardModel", "toNumber", "(IJ)V"⟩ ∈ fg_g := fg_in (List.mem_of_getElem? (i := 2112) (by decide +kernel)) rfl
theorem u_2115 : Cond.code ⟨"FilterGuardModel", "toNumber", "(IJ)V"⟩ prog_14_method_64_code 4 none ∈ fg_g := fg_in (List.mem_of_getElem? (i := 2115) (by decide +kernel)) rfl
theorem u_2114 : Cond.instanceMethod ⟨"FilterGuardModel", "toNumber", "(IJ)V"⟩ ∈ fg_g := fg_in (List.mem_of_getElem? (i := 2114) (by decide +kernel)) rfl
theorem u_107 : Cond.selects "FilterGuardModel" ⟨"FilterGuardModel", "toNumber", "(IJ)V"⟩ ⟨"FilterGuardModel", "toNumber", "(IJ)V"⟩ ∈ fg_g := fg_in (List.mem_of_getElem? (i := 107) (by decide +kernel)) rfl
theorem d_M_sourceOf_27 : decode prog_14_method_70_code 27 = .ok (.sipush 30078, 3) := by decide +kernel
theorem d_M_sourceOf_30 : decode prog_14_method_70_code 30 = .ok (.ireturn, 1) := by decide +kernel
theorem d_M_sourceOf_10 : decode prog_14_method_70_code 10 = .ok (.lload_n 1, 1) := by decide +kernel
theorem d_M_sourceOf_11 : decode prog_14_method_70_code 11 = .ok (.invokestatic 318, 3) := by decide +kernel
theorem d_M_sourceOf_14 : decode prog_14_method_70_code 14 = .ok (.ireturn, 1) := by decide +kernel
abbrev y_M_sourceOf : MethodName := ⟨"FilterGuardModel", "sourceOf", "(J)I"⟩
def rm_M_sourceOf : Room := { frames := 4, cells := 0, slots := 0, locals := 86 }
abbrev q_M_sourceOf (D : va_G) (ad : Nat → Nat → Nat) (ca : Nat → ClassId) (N : Nat → Nat) (M0 MZ : me_M) (RZ : Int32) (A : Nat → Prop) : Array Value → Jvm.State → Outcome → Jvm.State → Prop := va_Qi (fun r (_ : Unit) => r = RZ ∧ me_wf N MZ ∧ me_kp M0 MZ) (fg_B D A (fun _ => me_W ad ca MZ) (fun _ => [])) A
set_option maxHeartbeats 4000000 in
set_option maxRecDepth 100000 in
theorem c_M_sourceOf (l : Launch) (D : va_G) (ad : Nat → Nat → Nat) (ca : Nat → ClassId) (N : Nat → Nat) (M0 MZ : me_M) (RZ : Int32) (j0 : Nat) (x1 : Int64) (h : f_M_sourceOf M0 j0 x1 = (some (MZ, RZ))) (hwf : me_wf N M0) (hj0 : j0 < N 1) (sz : Nat) : Met l y_M_sourceOf (fg_w y_M_sourceOf prog_14_method_70_code 3 (some .int)) rm_M_sourceOf (va_Pc [.ref (ad 1 j0), .long x1] (fz_P D (me_T ca) (me_W ad ca M0) sz)) (q_M_sourceOf D ad ca N M0 MZ RZ (va_A (me_W ad ca M0) sz)) rm_M_sourceOf.cells rm_M_sourceOf.slots (va_A (me_W ad ca M0) sz) := by
  refine fz_enter (fun A => q_M_sourceOf D ad ca N M0 MZ RZ A) (by decide +kernel) (Nat.le_of_ble_eq_true rfl) ?_
  intro p e s m below meth c ls A hx hb hml hown hts hr hlocks hin hP hK hD hS hA hX hl hz
  have hl : lv_has ls 3 [(0, .ref (ad 1 j0)), (1, .long x1)] := hl
  unfold f_M_sourceOf at h
  have hkp : me_kp M0 M0 := me_kp.rf
  have hkb := hkp
  refine lv_lload_n hx hb d_M_sourceOf_0 rfl (lv_at hl 1 rfl) ?_
  obtain ⟨r1, er1, h⟩ := bd_ob h
  refine me_pani' (r0 := r1) (fg_runS (wc := []) (tc := []) (A2 := A) (As := [.long x1]) (rest := []) ⟨hx, hb, hml, hown, hts⟩ (c_M_opOf l D r1 x1 er1 _) (by show fg_nm y_M_opOf 1; decide +kernel) u_1997 u_1998 u_192 u_1999 ⟨Nat.le_of_ble_eq_true rfl, Nat.le_of_ble_eq_true rfl⟩ hX me_P0 (hK.sub (tys' := []) [] rfl) me_D0 rfl hl.1 (Nat.le_of_ble_eq_true rfl) d_M_sourceOf_1 ⟨Nat.le_of_ble_eq_true rfl, Nat.le_of_ble_eq_true rfl⟩) hP hD hK hS hA rfl rfl (fun H locs hw hP hD hS => ?_)
  obtain ⟨r2, er2, h⟩ := bd_ob h
  refine me_pani' (r0 := r2) (fg_runS (wc := []) (tc := []) (A2 := A) (As := [.int r1]) (rest := []) ⟨hx, hb, hml, hown, hts⟩ (c_M_hasFrom l D r2 r1 er2 _) (by show fg_nm y_M_hasFrom 1; decide +kernel) u_2020 u_2021 u_192 u_2022 ⟨Nat.le_of_ble_eq_true rfl, Nat.le_of_ble_eq_true rfl⟩ hX me_P0 (hK.sub (tys' := []) [] rfl) me_D0 rfl hl.1 (Nat.le_of_ble_eq_true rfl) d_M_sourceOf_4 ⟨Nat.le_of_ble_eq_true rfl, Nat.le_of_ble_eq_true rfl⟩) hP hD hK hS hA rfl rfl (fun H locs hw hP hD hS => ?_)
  have zr2 := hw
  refine lv_if_eq (tgt := 15) hx hb d_M_sourceOf_7 (by decide) (fun c3 => ?_) (fun c3 => ?_)
  · have h := if_t c3 h
    refine lv_aload_n hx hb d_M_sourceOf_15 rfl (lv_at hl 0 rfl) ?_
    refine lv_sipush (v := 30078) hx hb d_M_sourceOf_16 (by decide) ?_
    refine lv_lload_n hx hb d_M_sourceOf_19 rfl (lv_at hl 1 rfl) ?_
    obtain ⟨r4, er4, h⟩ := bd_ob h
    refine me_pani' (r0 := r4) (fg_runS (wc := []) (tc := []) (A2 := A) (As := [.long x1]) (rest := [.int 30078, .ref (ad 1 j0)]) ⟨hx, hb, hml, hown, hts⟩ (c_M_fieldOf l D r4 x1 er4 _) (by show fg_nm y_M_fieldOf 1; decide +kernel) u_2016 u_2017 u_192 u_2018 ⟨Nat.le_of_ble_eq_true rfl, Nat.le_of_ble_eq_true rfl⟩ hX me_P0 (hK.sub (tys' := []) [] rfl) me_D0 rfl hl.1 (Nat.le_of_ble_eq_true rfl) d_M_sourceOf_20 ⟨Nat.le_of_ble_eq_true rfl, Nat.le_of_ble_eq_true rfl⟩) hP hD hK hS hA rfl rfl (fun H locs hw hP hD hS => ?_)
    refine lv_i2l (v := r4.toInt64) hx hb d_M_sourceOf_23 rfl ?_
    obtain ⟨M5, eM5, h⟩ := bd_ob h
    refine me_thenv0 (M1 := M5) (me_runV (C := "FilterGuardModel") (As := [.int 30078, .long r4.toInt64]) (rest := []) ⟨hx, hb, hml, hown, hts⟩ (c_M_toNumber l D ad ca N M0 M5 j0 (30078 : Int32) r4.toInt64 eM5 hwf hj0 _) rfl (by show fg_nm y_M_toNumber 2; decide +kernel) u_2112 u_2114 u_107 u_192 u_2115 ⟨Nat.le_of_ble_eq_true rfl, Nat.le_of_ble_eq_true rfl⟩ hX hz hK hP hD hwf hS hA hj0 (by decide) rfl rfl rfl hl.1 (Nat.le_of_ble_eq_true rfl) d_M_sourceOf_24 ⟨Nat.le_of_ble_eq_true rfl, Nat.le_of_ble_eq_true rfl⟩) hP hD hK hS hA rfl rfl (fun H locs hw hP hD hS => ?_)
    obtain ⟨hwf, hk9⟩ := hw
    have hkp := hkp.tr hk9
    refine lv_sipush (v := 30078) hx hb d_M_sourceOf_27 (by decide) ?_
    exact me_reti (me_kp M0) h hx hb hr hlocks hwf hkp hP hK hD hS d_M_sourceOf_30
  have h := if_f c3 h
  refine lv_lload_n hx hb d_M_sourceOf_10 rfl (lv_at hl 1 rfl) ?_
  obtain ⟨r6, er6, h⟩ := bd_ob h
  refine me_pani' (r0 := r6) (fg_runS (wc := []) (tc := []) (A2 := A) (As := [.long x1]) (rest := []) ⟨hx, hb, hml, hown, hts⟩ (c_M_fromOf l D r6 x1 er6 _) (by show fg_nm y_M_fromOf 1; decide +kernel) u_2010 u_2011 u_192 u_2012 ⟨Nat.le_of_ble_eq_true rfl, Nat.le_of_ble_eq_true rfl⟩ hX me_P0 (hK.sub (tys' := []) [] rfl) me_D0 rfl hl.1 (Nat.le_of_ble_eq_true rfl) d_M_sourceOf_11 ⟨Nat.le_of_ble_eq_true rfl, Nat.le_of_ble_eq_true rfl⟩) hP hD hK hS hA rfl rfl (fun H locs hw hP hD hS => ?_)
  exact me_reti (me_kp M0) h hx hb hr hlocks hwf hkp hP hK hD hS d_M_sourceOf_14
theorem d_M_moves_35 : decode prog_14_method_73_code 35 = .ok (.ladd, 1) := by decide +kernel
theorem d_M_moves_36 : decode prog_14_method_73_code 36 = .ok (.lstore 6, 2) := by decide +kernel
theorem d_M_moves_38 : decode prog_14_method_73_code 38 = .ok (.lload 4, 2) := by decide +kernel
theorem d_M_moves_40 : decode prog_14_method_73_code 40 = .ok (.ldc2_w 401, 3) := by decide +kernel
theorem u_2391 : Cond.constantLong "FilterGuardModel" 401 (-65535) ∈ fg_g := fg_in (List.mem_of_getElem? (i := 2391) (by decide +kernel)) rfl
theorem d_M_moves_43 : decode prog_14_method_73_code 43 = .ok (.ldc2_w 216, 3) := by decide +kernel
theorem d_M_moves_46 : decode prog_14_method_73_code 46 = .ok (.invokestatic 342, 3) := by decide +kernel
theorem d_M_moves_49 : decode prog_14_method_73_code 49 = .ok (.ifCond .eq 17, 3) := by decide +kernel
theorem d_M_moves_66 : decode prog_14_method_73_code 66 = .ok (.bipush 11, 2) := by decide +kernel
theorem d_M_moves_68 : decode prog_14_method_73_code 68 = .ok (.ireturn, 1) := by decide +kernel
theorem d_M_moves_52 : decode prog_14_method_73_code 52 = .ok (.lload 6, 2) := by decide +kernel
theorem d_M_moves_54 : decode prog_14_method_73_code 54 = .ok (.ldc2_w 401, 3) := by decide +kernel
theorem d_M_moves_57 : decode prog_14_method_73_code 57 = .ok (.ldc2_w 216, 3) := by decide +kernel
theorem d_M_moves_60 : decode prog_14_method_73_code 60 = .ok (.invokestatic 342, 3) := by decide +kernel
theorem d_M_moves_63 : decode prog_14_method_73_code 63 = .ok (.ifCond .ne 6, 3) := by decide +kernel
theorem d_M_moves_69 : decode prog_14_method_73_code 69 = .ok (.aload_n 0, 1) := by decide +kernel
theorem d_M_moves_70 : decode prog_14_method_73_code 70 = .ok (.getfield 92, 3) := by decide +kernel
theorem d_M_moves_73 : decode prog_14_method_73_code 73 = .ok (.iload_n 1, 1) := by decide +kernel
theorem d_M_moves_74 : decode prog_14_method_73_code 74 = .ok (.lload 6, 2) := by decide +kernel
theorem d_M_moves_76 : decode prog_14_method_73_code 76 = .ok (.l2i, 1) := by decide +kernel
theorem d_M_moves_77 : decode prog_14_method_73_code 77 = .ok (.iastore, 1) := by decide +kernel
theorem d_M_moves_78 : decode prog_14_method_73_code 78 = .ok (.iconst 0, 1) := by decide +kernel
theorem d_M_moves_79 : decode prog_14_method_73_code 79 = .ok (.ireturn, 1) := by decide +kernel
theorem d_M_moves_0 : decode prog_14_method_73_code 0 = .ok (.aload_n 0, 1) := by decide +kernel
theorem d_M_moves_1 : decode prog_14_method_73_code 1 = .ok (.iload_n 2, 1) := by decide +kernel
theorem d_M_moves_2 : decode prog_14_method_73_code 2 = .ok (.invokevirtual 192, 3) := by decide +kernel
theorem d_M_moves_5 : decode prog_14_method_73_code 5 = .ok (.ifCond .eq 75, 3) := by decide +kernel
theorem d_M_moves_80 : decode prog_14_method_73_code 80 = .ok (.iload_n 3, 1) := by decide +kernel
theorem d_M_moves_81 : decode prog_14_method_73_code 81 = .ok (.ifCond .ne 38, 3) := by decide +kernel
theorem d_M_moves_119 : decode prog_14_method_73_code 119 = .ok (.bipush 11, 2) := by decide +kernel
theorem d_M_moves_121 : decode prog_14_method_73_code 121 = .ok (.ireturn, 1) := by decide +kernel
theorem d_M_moves_84 : decode prog_14_method_73_code 84 = .ok (.aload_n 0, 1) := by decide +kernel
theorem d_M_moves_85 : decode prog_14_method_73_code 85 = .ok (.getfield 89, 3) := by decide +kernel
theorem d_M_moves_88 : decode prog_14_method_73_code 88 = .ok (.iload_n 1, 1) := by decide +kernel
theorem d_M_moves_89 : decode prog_14_method_73_code 89 = .ok (.baload, 1) := by decide +kernel
theorem d_M_moves_90 : decode prog_14_method_73_code 90 = .ok (.iconst 2, 1) := by decide +kernel
theorem d_M_moves_91 : decode prog_14_method_73_code 91 = .ok (.if_icmp .eq 28, 3) := by decide +kernel
theorem d_M_moves_94 : decode prog_14_method_73_code 94 = .ok (.aload_n 0, 1) := by decide +kernel
theorem d_M_moves_95 : decode prog_14_method_73_code 95 = .ok (.getfield 89, 3) := by decide +kernel
theorem d_M_moves_98 : decode prog_14_method_73_code 98 = .ok (.iload_n 1, 1) := by decide +kernel
theorem d_M_moves_99 : decode prog_14_method_73_code 99 = .ok (.baload, 1) := by decide +kernel
theorem d_M_moves_100 : decode prog_14_method_73_code 100 = .ok (.iconst 3, 1) := by decide +kernel
theorem d_M_moves_101 : decode prog_14_method_73_code 101 = .ok (.if_icmp .eq 18, 3) := by decide +kernel
theorem d_M_moves_104 : decode prog_14_method_73_code 104 = .ok (.ldc2_w 216, 3) := by decide +kernel
theorem d_M_moves_107 : decode prog_14_method_73_code 107 = .ok (.aload_n 0, 1) := by decide +kernel
theorem d_M_moves_108 : decode prog_14_method_73_code 108 = .ok (.getfield 113, 3) := by decide +kernel
theorem d_M_moves_111 : decode prog_14_method_73_code 111 = .ok (.iload_n 2, 1) := by decide +kernel
theorem d_M_moves_112 : decode prog_14_method_73_code 112 = .ok (.laload, 1) := by decide +kernel
theorem d_M_moves_113 : decode prog_14_method_73_code 113 = .ok (.invokestatic 158, 3) := by decide +kernel
theorem d_M_moves_116 : decode prog_14_method_73_code 116 = .ok (.ifCond .eq 6, 3) := by decide +kernel
theorem d_M_moves_122 : decode prog_14_method_73_code 122 = .ok (.aload_n 0, 1) := by decide +kernel
theorem d_M_moves_123 : decode prog_14_method_73_code 123 = .ok (.sipush 30080, 3) := by decide +kernel
theorem d_M_moves_126 : decode prog_14_method_73_code 126 = .ok (.iconst 0, 1) := by decide +kernel
theorem d_M_moves_127 : decode prog_14_method_73_code 127 = .ok (.iload_n 1, 1) := by decide +kernel
theorem d_M_moves_128 : decode prog_14_method_73_code 128 = .ok (.iload_n 2, 1) := by decide +kernel
theorem d_M_moves_129 : decode prog_14_method_73_code 129 = .ok (.iconst 0, 1) := by decide +kernel
theorem d_M_moves_130 : decode prog_14_method_73_code 130 = .ok (.invokevirtual 381, 3) := by decide +kernel
theorem u_2320 : Cond.methodLink "FilterGuardModel" 381 ⟨"FilterGuardModel", "operate", "(IIIIZ)V"⟩ ∈ fg_g := fg_in (List.mem_of_getElem? (i := 2320) (by decide +kernel)) rfl
theorem u_2323 : Cond.code ⟨"FilterGuardModel", "operate", "(IIIIZ)V"⟩ prog_14_method_41_code 6 none ∈ fg_g := fg_in (List.mem_of_getElem? (i := 2323) (by decide +kernel)) rfl
theorem u_2322 : Cond.instanceMethod ⟨"FilterGuardModel", "operate", "(IIIIZ)V"⟩ ∈ fg_g := fg_in (List.mem_of_getElem? (i := 2322) (by decide +kernel)) rfl
theorem u_151 : Cond.selects "FilterGuardModel" ⟨"FilterGuardModel", "operate", "(IIIIZ)V"⟩ ⟨"FilterGuardModel", "operate", "(IIIIZ)V"⟩ ∈ fg_g := fg_in (List.mem_of_getElem? (i := 151) (by decide +kernel)) rfl
theorem d_M_moves_133 : decode prog_14_method_73_code 133 = .ok (.ldc2_w 216, 3) := by decide +kernel
theorem d_M_moves_136 : decode prog_14_method_73_code 136 = .ok (.aload_n 0, 1) := by decide +kernel
theorem d_M_moves_137 : decode prog_14_method_73_code 137 = .ok (.getfield 113, 3) := by decide +kernel
theorem d_M_moves_140 : decode prog_14_method_73_code 140 = .ok (.sipush 30080, 3) := by decide +kernel
theorem d_M_moves_143 : decode prog_14_method_73_code 143 = .ok (.laload, 1) := by decide +kernel
theorem d_M_moves_144 : decode prog_14_method_73_code 144 = .ok (.invokestatic 158, 3) := by decide +kernel
theorem d_M_moves_147 : decode prog_14_method_73_code 147 = .ok (.ifCond .eq 6, 3) := by decide +kernel
theorem d_M_moves_153 : decode prog_14_method_73_code 153 = .ok (.aload_n 0, 1) := by decide +kernel
theorem d_M_moves_154 : decode prog_14_method_73_code 154 = .ok (.sipush 30080, 3) := by decide +kernel
theorem d_M_moves_157 : decode prog_14_method_73_code 157 = .ok (.iload_n 1, 1) := by decide +kernel
theorem d_M_moves_158 : decode prog_14_method_73_code 158 = .ok (.invokevirtual 208, 3) := by decide +kernel
theorem d_M_moves_161 : decode prog_14_method_73_code 161 = .ok (.aload_n 0, 1) := by decide +kernel
theorem d_M_moves_162 : decode prog_14_method_73_code 162 = .ok (.getfield 89, 3) := by decide +kernel
theorem d_M_moves_165 : decode prog_14_method_73_code 165 = .ok (.iload_n 1, 1) := by decide +kernel
theorem d_M_moves_166 : decode prog_14_method_73_code 166 = .ok (.baload, 1) := by decide +kernel
theorem d_M_moves_167 : decode prog_14_method_73_code 167 = .ok (.iconst 4, 1) := by decide +kernel
theorem d_M_moves_168 : decode prog_14_method_73_code 168 = .ok (.if_icmp .ne 30, 3) := by decide +kernel
theorem d_M_moves_198 : decode prog_14_method_73_code 198 = .ok (.iconst 0, 1) := by decide +kernel
theorem d_M_moves_199 : decode prog_14_method_73_code 199 = .ok (.ireturn, 1) := by decide +kernel
theorem d_M_moves_171 : decode prog_14_method_73_code 171 = .ok (.aload_n 0, 1) := by decide +kernel
theorem d_M_moves_172 : decode prog_14_method_73_code 172 = .ok (.dup, 1) := by decide +kernel
theorem d_M_moves_173 : decode prog_14_method_73_code 173 = .ok (.getfield 369, 3) := by decide +kernel
theorem g_M_59 {p : Program} {l : Launch} {e : Env} {R : Room} {s : Jvm.State} {m : MethodId} {args : Array Value} {below : List Frame} {meth : Method} {c : Code} {H : Heap} {locs : List Loc} {cells slots : Nat} {Q : Jvm.State → Prop} {cc : ByteArray} {pc : Nat} {ls : Array Slot} {rest : List Value} {D : va_G} {ad : Nat → Nat → Nat} {ca : Nat → ClassId} {M : me_M} {N : Nat → Nat} {own : String} {index j : Nat} (hexec : p.tables.exec = Jvm.exec) (hb : c.code = cc) (hts : ∀ w ∈ fg_g, w.before args s = true) (hown : s.vm.findClass own = some m.cls) (hK : va_K D classes (me_T ca) s) (hP : va_P D classes (me_W ad ca M) H) (hwf : me_wf N M) (hj : j < N 1) (hlink : (Cond.fieldLink own index "FilterGuardModel" "identities" "I").before args s = true) (hdg : decode cc pc = .ok (.getfield index, 3)) (kk : W p l e R s m args below meth c H locs cells slots Q (F0 m (pc + 3) ls (.int (mI M 1 j 59) :: rest))) : W p l e R s m args below meth c H locs cells slots Q (F0 m pc ls (.ref (ad 1 j) :: rest)) := me_get (k := 1) (f := 59) (C := "FilterGuardModel") (T := F_M) (Nf := 75) hexec hb hts i_M hown hK hP hwf hj (by decide) rfl (by decide) (by decide) hlink (fun _ h9 => h9) hdg kk
theorem d_M_moves_176 : decode prog_14_method_73_code 176 = .ok (.iconst 1, 1) := by decide +kernel
theorem d_M_moves_177 : decode prog_14_method_73_code 177 = .ok (.iadd, 1) := by decide +kernel
theorem d_M_moves_178 : decode prog_14_method_73_code 178 = .ok (.putfield 369, 3) := by decide +kernel
theorem d_M_moves_181 : decode prog_14_method_73_code 181 = .ok (.aload_n 0, 1) := by decide +kernel
theorem d_M_moves_182 : decode prog_14_method_73_code 182 = .ok (.getfield 98, 3) := by decide +kernel
theorem d_M_moves_185 : decode prog_14_method_73_code 185 = .ok (.iload_n 1, 1) := by decide +kernel
theorem d_M_moves_186 : decode prog_14_method_73_code 186 = .ok (.aload_n 0, 1) := by decide +kernel
theorem d_M_moves_187 : decode prog_14_method_73_code 187 = .ok (.getfield 369, 3) := by decide +kernel
theorem d_M_moves_190 : decode prog_14_method_73_code 190 = .ok (.iastore, 1) := by decide +kernel
theorem d_M_moves_191 : decode prog_14_method_73_code 191 = .ok (.aload_n 0, 1) := by decide +kernel
theorem d_M_moves_192 : decode prog_14_method_73_code 192 = .ok (.getfield 101, 3) := by decide +kernel
theorem d_M_moves_195 : decode prog_14_method_73_code 195 = .ok (.iload_n 1, 1) := by decide +kernel
theorem d_M_moves_196 : decode prog_14_method_73_code 196 = .ok (.iconst 0, 1) := by decide +kernel
theorem d_M_moves_197 : decode prog_14_method_73_code 197 = .ok (.iastore, 1) := by decide +kernel
theorem d_M_moves_150 : decode prog_14_method_73_code 150 = .ok (.bipush 11, 2) := by decide +kernel
theorem d_M_moves_152 : decode prog_14_method_73_code 152 = .ok (.ireturn, 1) := by decide +kernel
theorem d_M_moves_8 : decode prog_14_method_73_code 8 = .ok (.aload_n 0, 1) := by decide +kernel
theorem d_M_moves_9 : decode prog_14_method_73_code 9 = .ok (.getfield 104, 3) := by decide +kernel
theorem d_M_moves_12 : decode prog_14_method_73_code 12 = .ok (.iload_n 2, 1) := by decide +kernel
theorem d_M_moves_13 : decode prog_14_method_73_code 13 = .ok (.laload, 1) := by decide +kernel
theorem d_M_moves_14 : decode prog_14_method_73_code 14 = .ok (.lstore 4, 2) := by decide +kernel
theorem d_M_moves_16 : decode prog_14_method_73_code 16 = .ok (.aload_n 0, 1) := by decide +kernel
theorem d_M_moves_17 : decode prog_14_method_73_code 17 = .ok (.getfield 92, 3) := by decide +kernel
theorem d_M_moves_20 : decode prog_14_method_73_code 20 = .ok (.iload_n 1, 1) := by decide +kernel
theorem d_M_moves_21 : decode prog_14_method_73_code 21 = .ok (.iaload, 1) := by decide +kernel
theorem d_M_moves_22 : decode prog_14_method_73_code 22 = .ok (.i2l, 1) := by decide +kernel
theorem d_M_moves_23 : decode prog_14_method_73_code 23 = .ok (.iload_n 3, 1) := by decide +kernel
theorem d_M_moves_24 : decode prog_14_method_73_code 24 = .ok (.ifCond .eq 9, 3) := by decide +kernel
theorem d_M_moves_33 : decode prog_14_method_73_code 33 = .ok (.lload 4, 2) := by decide +kernel
theorem d_M_moves_27 : decode prog_14_method_73_code 27 = .ok (.lload 4, 2) := by decide +kernel
theorem d_M_moves_29 : decode prog_14_method_73_code 29 = .ok (.lneg, 1) := by decide +kernel
theorem d_M_moves_30 : decode prog_14_method_73_code 30 = .ok (.goto 5, 3) := by decide +kernel
abbrev y_M_moves : MethodName := ⟨"FilterGuardModel", "moves", "(IIZ)I"⟩
def rm_M_moves : Room := { frames := 7, cells := 0, slots := 0, locals := 166 }
abbrev q_M_moves (D : va_G) (ad : Nat → Nat → Nat) (ca : Nat → ClassId) (N : Nat → Nat) (M0 MZ : me_M) (RZ : Int32) (A : Nat → Prop) : Array Value → Jvm.State → Outcome → Jvm.State → Prop := va_Qi (fun r (_ : Unit) => r = RZ ∧ me_wf N MZ ∧ me_kp M0 MZ) (fg_B D A (fun _ => me_W ad ca MZ) (fun _ => [])) A
set_option maxHeartbeats 4000000 in
set_option maxRecDepth 100000 in
theorem c_M_moves (l : Launch) (D : va_G) (ad : Nat → Nat → Nat) (ca : Nat → ClassId) (N : Nat → Nat) (M0 MZ : me_M) (RZ : Int32) (j0 : Nat) (x1 : Int32) (x2 : Int32) (x3 : Int32) (h : f_M_moves M0 j0 x1 x2 x3 = (some (MZ, RZ))) (hwf : me_wf N M0) (hj0 : j0 < N 1) (zx3 : x3 = 1 ∨ x3 = 0) (sz : Nat) : Met l y_M_moves (fg_w y_M_moves prog_14_method_73_code 8 (some .int)) rm_M_moves (va_Pc [.ref (ad 1 j0), .int x1, .int x2, .int x3] (fz_P D (me_T ca) (me_W ad ca M0) sz)) (q_M_moves D ad ca N M0 MZ RZ (va_A (me_W ad ca M0) sz)) rm_M_moves.cells rm_M_moves.slots (va_A (me_W ad ca M0) sz) := by
  refine fz_enter (fun A => q_M_moves D ad ca N M0 MZ RZ A) (by decide +kernel) (Nat.le_of_ble_eq_true rfl) ?_
  intro p e s m below meth c ls A hx hb hml hown hts hr hlocks hin hP hK hD hS hA hX hl hz
  have hl : lv_has ls 8 [(0, .ref (ad 1 j0)), (1, .int x1), (2, .int x2), (3, .int x3)] := hl
  unfold f_M_moves at h
  have hkp : me_kp M0 M0 := me_kp.rf
  have hkb := hkp
  have b_35 : ∀ (M : me_M) (y4 : Int64) (s0 : Int64) (s1 : Int64) (H : Heap) (locs : List Loc) (ls : Array Slot), f_M_moves_b35 j0 x1 M y4 s0 s1 = (some (MZ, RZ)) → me_wf N M → me_kp M0 M → va_P D classes (me_W ad ca M) H → va_D A (me_W ad ca M) → va_S A s.heap H locs → lv_has ls 8 [(0, .ref (ad 1 j0)), (1, .int x1), (4, .long y4)] → W p l e rm_M_moves s m [.ref (ad 1 j0), .int x1, .int x2, .int x3].toArray below meth c H locs 0 0 (MQ below (q_M_moves D ad ca N M0 MZ RZ A) [.ref (ad 1 j0), .int x1, .int x2, .int x3].toArray s rm_M_moves.cells rm_M_moves.slots A) (F0 m 35 ls [.long s0, .long s1]) := by
    intro M y4 s0 s1 H locs ls h hwf hkp hP hD hS hl
    unfold f_M_moves_b35 at h
    have hkb := hkp
    refine lv_ladd hx hb d_M_moves_35 ?_
    obtain ⟨v1, ev1, h⟩ := st_ob h
    refine fg_topl (y := v1) ev1.symm ?_
    refine lv_lstore (lv' := [(6, .long v1), (0, .ref (ad 1 j0)), (1, .int x1), (4, .long y4)]) hx hb d_M_moves_36 hl (by decide) rfl (fun ls hl => ?_)
    refine lv_lload hx hb d_M_moves_38 (lv_at hl 3 rfl) ?_
    refine lv_ldc2 hx hb hown (hts _ u_2391) d_M_moves_40 ?_
    refine lv_ldc2 hx hb hown (hts _ u_2370) d_M_moves_43 ?_
    obtain ⟨r2, er2, h⟩ := bd_ob h
    refine me_pani' (r0 := r2) (fg_runS (wc := []) (tc := []) (A2 := A) (As := [.long y4, .long (-65535), .long 65535]) (rest := []) ⟨hx, hb, hml, hown, hts⟩ (c_M_in l D r2 y4 (-65535 : Int64) (65535 : Int64) er2 _) (by show fg_nm y_M_in 3; decide +kernel) u_1976 u_1977 u_192 u_1978 ⟨Nat.le_of_ble_eq_true rfl, Nat.le_of_ble_eq_true rfl⟩ hX me_P0 (hK.sub (tys' := []) [] rfl) me_D0 rfl hl.1 (Nat.le_of_ble_eq_true rfl) d_M_moves_46 ⟨Nat.le_of_ble_eq_true rfl, Nat.le_of_ble_eq_true rfl⟩) hP hD hK hS hA rfl rfl (fun H locs hw hP hD hS => ?_)
    have zr2 := hw
    refine lv_if_eq (tgt := 66) hx hb d_M_moves_49 (by decide) (fun c3 => ?_) (fun c3 => ?_)
    · have h := if_t c3 h
      refine lv_bipush (v := 11) hx hb d_M_moves_66 (by decide) ?_
      exact me_reti (me_kp M0) h hx hb hr hlocks hwf hkp hP hK hD hS d_M_moves_68
    have h := if_f c3 h
    refine lv_lload hx hb d_M_moves_52 (lv_at hl 0 rfl) ?_
    refine lv_ldc2 hx hb hown (hts _ u_2391) d_M_moves_54 ?_
    refine lv_ldc2 hx hb hown (hts _ u_2370) d_M_moves_57 ?_
    obtain ⟨r4, er4, h⟩ := bd_ob h
    refine me_pani' (r0 := r4) (fg_runS (wc := []) (tc := []) (A2 := A) (As := [.long v1, .long (-65535), .long 65535]) (rest := []) ⟨hx, hb, hml, hown, hts⟩ (c_M_in l D r4 v1 (-65535 : Int64) (65535 : Int64) er4 _) (by show fg_nm y_M_in 3; decide +kernel) u_1976 u_1977 u_192 u_1978 ⟨Nat.le_of_ble_eq_true rfl, Nat.le_of_ble_eq_true rfl⟩ hX me_P0 (hK.sub (tys' := []) [] rfl) me_D0 rfl hl.1 (Nat.le_of_ble_eq_true rfl) d_M_moves_60 ⟨Nat.le_of_ble_eq_true rfl, Nat.le_of_ble_eq_true rfl⟩) hP hD hK hS hA rfl rfl (fun H locs hw hP hD hS => ?_)
    have zr4 := hw
    refine lv_if_ne (tgt := 69) hx hb d_M_moves_63 (by decide) (fun c5 => ?_) (fun c5 => ?_)
    · have h := if_f c5 h
      refine lv_aload_n hx hb d_M_moves_69 rfl (lv_at hl 1 rfl) ?_
      refine g_M_48 hx hb hts hown hK hP hwf hj0 (hts _ u_1789) d_M_moves_70 ?_
      obtain ⟨j6, e7, h⟩ := bd_ob h
      have hj6 : j6 < N 13 := (hwf.2.1 1 j0 48 _ e7 (by decide) hj0)
      refine me_opt (j := j6) e7 ?_
      refine lv_iload_n hx hb d_M_moves_73 rfl (lv_at hl 2 rfl) ?_
      refine lv_lload hx hb d_M_moves_74 (lv_at hl 0 rfl) ?_
      refine lv_l2i (v := v1.toInt32) hx hb d_M_moves_76 rfl ?_
      obtain ⟨g8, h⟩ := gd_ob h
      obtain ⟨M9, eM9, h⟩ := st_ob h
      refine me_iast eM9 hx hb hK hP hD hwf hS hj6 g8 d_M_moves_77 (fun H locs hP hD hwf hS => ?_)
      have hkp := kp_I eM9 hkp
      refine lv_iconst (v := 0) hx hb d_M_moves_78 (by decide) ?_
      exact me_reti (me_kp M0) h hx hb hr hlocks hwf hkp hP hK hD hS d_M_moves_79
    have h := if_t c5 h
    refine lv_bipush (v := 11) hx hb d_M_moves_66 (by decide) ?_
    exact me_reti (me_kp M0) h hx hb hr hlocks hwf hkp hP hK hD hS d_M_moves_68
  refine lv_aload_n hx hb d_M_moves_0 rfl (lv_at hl 0 rfl) ?_
  refine lv_iload_n hx hb d_M_moves_1 rfl (lv_at hl 2 rfl) ?_
  obtain ⟨M10, r11, eM10, h⟩ := b2_ob h
  refine me_theni0 (M1 := M10) (me_runV (C := "FilterGuardModel") (As := [.int x2]) (rest := []) ⟨hx, hb, hml, hown, hts⟩ (c_M_isExact l D ad ca N M0 M10 r11 j0 x2 eM10 hwf hj0 _) rfl (by show fg_nm y_M_isExact 1; decide +kernel) u_2251 u_2253 u_136 u_192 u_2254 ⟨Nat.le_of_ble_eq_true rfl, Nat.le_of_ble_eq_true rfl⟩ hX hz hK hP hD hwf hS hA hj0 (by decide) rfl rfl rfl hl.1 (Nat.le_of_ble_eq_true rfl) d_M_moves_2 ⟨Nat.le_of_ble_eq_true rfl, Nat.le_of_ble_eq_true rfl⟩) hP hD hK hS hA rfl rfl (fun H locs hw hP hD hS => ?_)
  obtain ⟨hwf, hk9, zr11⟩ := hw
  have hkp := hkp.tr hk9
  refine lv_if_eq (tgt := 80) hx hb d_M_moves_5 (by decide) (fun c12 => ?_) (fun c12 => ?_)
  · have h := if_t c12 h
    refine lv_iload_n hx hb d_M_moves_80 rfl (lv_at hl 3 rfl) ?_
    refine lv_if_ne (tgt := 119) hx hb d_M_moves_81 (by decide) (fun c13 => ?_) (fun c13 => ?_)
    · have h := if_f c13 h
      refine lv_bipush (v := 11) hx hb d_M_moves_119 (by decide) ?_
      exact me_reti (me_kp M0) h hx hb hr hlocks hwf hkp hP hK hD hS d_M_moves_121
    have h := if_t c13 h
    refine lv_aload_n hx hb d_M_moves_84 rfl (lv_at hl 0 rfl) ?_
    refine g_M_47 hx hb hts hown hK hP hwf hj0 (hts _ u_1788) d_M_moves_85 ?_
    obtain ⟨j14, e15, h⟩ := bd_ob h
    have hj14 : j14 < N 14 := (hwf.2.1 1 j0 47 _ (kp_r hkb hkp e15) (by decide) hj0)
    refine me_opt (j := j14) (kp_r hkb hkp e15) ?_
    refine lv_iload_n hx hb d_M_moves_88 rfl (lv_at hl 1 rfl) ?_
    obtain ⟨g16, h⟩ := gd_ob h
    refine me_bald hx hb hK hP hwf hj14 (kp_z hkb.z hkp.z g16) d_M_moves_89 ?_
    refine lv_iconst (v := 2) hx hb d_M_moves_90 (by decide) ?_
    refine lv_icmp_eq (tgt := 119) hx hb d_M_moves_91 (by decide) (fun c17 => ?_) (fun c17 => ?_)
    · have h := if_t c17 h
      refine lv_bipush (v := 11) hx hb d_M_moves_119 (by decide) ?_
      exact me_reti (me_kp M0) h hx hb hr hlocks hwf hkp hP hK hD hS d_M_moves_121
    have h := if_f c17 h
    refine lv_aload_n hx hb d_M_moves_94 rfl (lv_at hl 0 rfl) ?_
    refine g_M_47 hx hb hts hown hK hP hwf hj0 (hts _ u_1788) d_M_moves_95 ?_
    refine me_opt (j := j14) (kp_r hkb hkp e15) ?_
    refine lv_iload_n hx hb d_M_moves_98 rfl (lv_at hl 1 rfl) ?_
    refine me_bald hx hb hK hP hwf hj14 (kp_z hkb.z hkp.z g16) d_M_moves_99 ?_
    refine lv_iconst (v := 3) hx hb d_M_moves_100 (by decide) ?_
    refine lv_icmp_eq (tgt := 119) hx hb d_M_moves_101 (by decide) (fun c18 => ?_) (fun c18 => ?_)
    · have h := if_t c18 h
      refine lv_bipush (v := 11) hx hb d_M_moves_119 (by decide) ?_
      exact me_reti (me_kp M0) h hx hb hr hlocks hwf hkp hP hK hD hS d_M_moves_121
    have h := if_f c18 h
    refine lv_ldc2 hx hb hown (hts _ u_2370) d_M_moves_104 ?_
    refine lv_aload_n hx hb d_M_moves_107 rfl (lv_at hl 0 rfl) ?_
    refine g_M_55 hx hb hts hown hK hP hwf hj0 (hts _ u_1796) d_M_moves_108 ?_
    obtain ⟨j19, e20, h⟩ := bd_ob h
    have hj19 : j19 < N 16 := (hwf.2.1 1 j0 55 _ (kp_r hkb hkp e20) (by decide) hj0)
    refine me_opt (j := j19) (kp_r hkb hkp e20) ?_
    refine lv_iload_n hx hb d_M_moves_111 rfl (lv_at hl 2 rfl) ?_
    obtain ⟨g21, h⟩ := gd_ob h
    refine me_lald hx hb hK hP hwf hj19 (kp_z hkb.z hkp.z g21) d_M_moves_112 ?_
    obtain ⟨r22, er22, h⟩ := bd_ob h
    refine me_pani' (r0 := r22) (fg_runS (wc := []) (tc := []) (A2 := A) (As := [.long 65535, .long (mL M10 16 j19 x2.toNatClampNeg)]) (rest := []) ⟨hx, hb, hml, hown, hts⟩ (c_M_below l D r22 (65535 : Int64) (mL M10 16 j19 x2.toNatClampNeg) er22 _) (by show fg_nm y_M_below 2; decide +kernel) u_2072 u_2073 u_192 u_2074 ⟨Nat.le_of_ble_eq_true rfl, Nat.le_of_ble_eq_true rfl⟩ hX me_P0 (hK.sub (tys' := []) [] rfl) me_D0 rfl hl.1 (Nat.le_of_ble_eq_true rfl) d_M_moves_113 ⟨Nat.le_of_ble_eq_true rfl, Nat.le_of_ble_eq_true rfl⟩) hP hD hK hS hA rfl rfl (fun H locs hw hP hD hS => ?_)
    have zr22 := hw
    refine lv_if_eq (tgt := 122) hx hb d_M_moves_116 (by decide) (fun c23 => ?_) (fun c23 => ?_)
    · have h := if_t c23 h
      refine lv_aload_n hx hb d_M_moves_122 rfl (lv_at hl 0 rfl) ?_
      refine lv_sipush (v := 30080) hx hb d_M_moves_123 (by decide) ?_
      refine lv_iconst (v := 0) hx hb d_M_moves_126 (by decide) ?_
      refine lv_iload_n hx hb d_M_moves_127 rfl (lv_at hl 1 rfl) ?_
      refine lv_iload_n hx hb d_M_moves_128 rfl (lv_at hl 2 rfl) ?_
      refine lv_iconst (v := 0) hx hb d_M_moves_129 (by decide) ?_
      obtain ⟨M24, eM24, h⟩ := bd_ob h
      refine me_thenv0 (M1 := M24) (me_runV (C := "FilterGuardModel") (As := [.int 30080, .int 0, .int x1, .int x2, .int 0]) (rest := []) ⟨hx, hb, hml, hown, hts⟩ (c_M_operate l D ad ca N M10 M24 j0 (30080 : Int32) (0 : Int32) x1 x2 (0 : Int32) eM24 hwf hj0 (by decide) _) rfl (by show fg_nm y_M_operate 5; decide +kernel) u_2320 u_2322 u_151 u_192 u_2323 ⟨Nat.le_of_ble_eq_true rfl, Nat.le_of_ble_eq_true rfl⟩ hX hz hK hP hD hwf hS hA hj0 (by decide) rfl rfl rfl hl.1 (Nat.le_of_ble_eq_true rfl) d_M_moves_130 ⟨Nat.le_of_ble_eq_true rfl, Nat.le_of_ble_eq_true rfl⟩) hP hD hK hS hA rfl rfl (fun H locs hw hP hD hS => ?_)
      obtain ⟨hwf, hk9⟩ := hw
      have hkp := hkp.tr hk9
      refine lv_ldc2 hx hb hown (hts _ u_2370) d_M_moves_133 ?_
      refine lv_aload_n hx hb d_M_moves_136 rfl (lv_at hl 0 rfl) ?_
      refine g_M_55 hx hb hts hown hK hP hwf hj0 (hts _ u_1796) d_M_moves_137 ?_
      refine me_opt (j := j19) (kp_r hkb hkp e20) ?_
      refine lv_sipush (v := 30080) hx hb d_M_moves_140 (by decide) ?_
      obtain ⟨g25, h⟩ := gd_ob h
      refine me_lald hx hb hK hP hwf hj19 (me_in (i := (30080 : Int32)) (k := 30080) (by decide) (by decide) (kp_c hkb.z hkp.z g25)) d_M_moves_143 ?_
      refine fg_topl (y := mL M24 16 j19 30080) (congrArg _ (by decide)) ?_
      obtain ⟨r26, er26, h⟩ := bd_ob h
      refine me_pani' (r0 := r26) (fg_runS (wc := []) (tc := []) (A2 := A) (As := [.long 65535, .long (mL M24 16 j19 30080)]) (rest := []) ⟨hx, hb, hml, hown, hts⟩ (c_M_below l D r26 (65535 : Int64) (mL M24 16 j19 30080) er26 _) (by show fg_nm y_M_below 2; decide +kernel) u_2072 u_2073 u_192 u_2074 ⟨Nat.le_of_ble_eq_true rfl, Nat.le_of_ble_eq_true rfl⟩ hX me_P0 (hK.sub (tys' := []) [] rfl) me_D0 rfl hl.1 (Nat.le_of_ble_eq_true rfl) d_M_moves_144 ⟨Nat.le_of_ble_eq_true rfl, Nat.le_of_ble_eq_true rfl⟩) hP hD hK hS hA rfl rfl (fun H locs hw hP hD hS => ?_)
      have zr26 := hw
      refine lv_if_eq (tgt := 153) hx hb d_M_moves_147 (by decide) (fun c27 => ?_) (fun c27 => ?_)
      · have h := if_t c27 h
        refine lv_aload_n hx hb d_M_moves_153 rfl (lv_at hl 0 rfl) ?_
        refine lv_sipush (v := 30080) hx hb d_M_moves_154 (by decide) ?_
        refine lv_iload_n hx hb d_M_moves_157 rfl (lv_at hl 1 rfl) ?_
        obtain ⟨M28, eM28, h⟩ := bd_ob h
        refine me_thenv0 (M1 := M28) (me_runV (C := "FilterGuardModel") (As := [.int 30080, .int x1]) (rest := []) ⟨hx, hb, hml, hown, hts⟩ (c_M_copyNumber l D ad ca N M24 M28 j0 (30080 : Int32) x1 eM28 hwf hj0 _) rfl (by show fg_nm y_M_copyNumber 2; decide +kernel) u_2096 u_2098 u_103 u_192 u_2099 ⟨Nat.le_of_ble_eq_true rfl, Nat.le_of_ble_eq_true rfl⟩ hX hz hK hP hD hwf hS hA hj0 (by decide) rfl rfl rfl hl.1 (Nat.le_of_ble_eq_true rfl) d_M_moves_158 ⟨Nat.le_of_ble_eq_true rfl, Nat.le_of_ble_eq_true rfl⟩) hP hD hK hS hA rfl rfl (fun H locs hw hP hD hS => ?_)
        obtain ⟨hwf, hk9⟩ := hw
        have hkp := hkp.tr hk9
        refine lv_aload_n hx hb d_M_moves_161 rfl (lv_at hl 0 rfl) ?_
        refine g_M_47 hx hb hts hown hK hP hwf hj0 (hts _ u_1788) d_M_moves_162 ?_
        refine me_opt (j := j14) (kp_r hkb hkp e15) ?_
        refine lv_iload_n hx hb d_M_moves_165 rfl (lv_at hl 1 rfl) ?_
        refine me_bald hx hb hK hP hwf hj14 (kp_z hkb.z hkp.z g16) d_M_moves_166 ?_
        refine lv_iconst (v := 4) hx hb d_M_moves_167 (by decide) ?_
        refine lv_icmp_ne (tgt := 198) hx hb d_M_moves_168 (by decide) (fun c29 => ?_) (fun c29 => ?_)
        · have h := if_f c29 h
          refine lv_iconst (v := 0) hx hb d_M_moves_198 (by decide) ?_
          exact me_reti (me_kp M0) h hx hb hr hlocks hwf hkp hP hK hD hS d_M_moves_199
        have h := if_t c29 h
        refine lv_aload_n hx hb d_M_moves_171 rfl (lv_at hl 0 rfl) ?_
        refine lv_dup hx hb d_M_moves_172 rfl ?_
        refine g_M_59 hx hb hts hown hK hP hwf hj0 (hts _ u_1800) d_M_moves_173 ?_
        refine lv_iconst (v := 1) hx hb d_M_moves_176 (by decide) ?_
        refine lv_iadd hx hb d_M_moves_177 ?_
        obtain ⟨M30, eM30, h⟩ := st_ob h
        refine p_M_59 eM30 hx hb hts hown hK hP hD hwf hS hj0 (hts _ u_1800) d_M_moves_178 (fun H locs hP hD hwf hS => ?_)
        have hkp := kp_I eM30 hkp
        refine lv_aload_n hx hb d_M_moves_181 rfl (lv_at hl 0 rfl) ?_
        refine g_M_50 hx hb hts hown hK hP hwf hj0 (hts _ u_1791) d_M_moves_182 ?_
        obtain ⟨j31, e32, h⟩ := bd_ob h
        have hj31 : j31 < N 13 := (hwf.2.1 1 j0 50 _ (kp_r hkb hkp e32) (by decide) hj0)
        refine me_opt (j := j31) (kp_r hkb hkp e32) ?_
        refine lv_iload_n hx hb d_M_moves_185 rfl (lv_at hl 1 rfl) ?_
        refine lv_aload_n hx hb d_M_moves_186 rfl (lv_at hl 0 rfl) ?_
        refine g_M_59 hx hb hts hown hK hP hwf hj0 (hts _ u_1800) d_M_moves_187 ?_
        obtain ⟨g33, h⟩ := gd_ob h
        obtain ⟨M34, eM34, h⟩ := st_ob h
        refine me_iast eM34 hx hb hK hP hD hwf hS hj31 (kp_z hkb.z hkp.z g33) d_M_moves_190 (fun H locs hP hD hwf hS => ?_)
        have hkp := kp_I eM34 hkp
        refine lv_aload_n hx hb d_M_moves_191 rfl (lv_at hl 0 rfl) ?_
        refine g_M_51 hx hb hts hown hK hP hwf hj0 (hts _ u_1792) d_M_moves_192 ?_
        obtain ⟨j35, e36, h⟩ := bd_ob h
        have hj35 : j35 < N 13 := (hwf.2.1 1 j0 51 _ (kp_r hkb hkp e36) (by decide) hj0)
        refine me_opt (j := j35) (kp_r hkb hkp e36) ?_
        refine lv_iload_n hx hb d_M_moves_195 rfl (lv_at hl 1 rfl) ?_
        refine lv_iconst (v := 0) hx hb d_M_moves_196 (by decide) ?_
        obtain ⟨g37, h⟩ := gd_ob h
        obtain ⟨M38, eM38, h⟩ := st_ob h
        refine me_iast eM38 hx hb hK hP hD hwf hS hj35 (kp_z hkb.z hkp.z g37) d_M_moves_197 (fun H locs hP hD hwf hS => ?_)
        have hkp := kp_I eM38 hkp
        refine lv_iconst (v := 0) hx hb d_M_moves_198 (by decide) ?_
        exact me_reti (me_kp M0) h hx hb hr hlocks hwf hkp hP hK hD hS d_M_moves_199
      have h := if_f c27 h
      refine lv_bipush (v := 11) hx hb d_M_moves_150 (by decide) ?_
      exact me_reti (me_kp M0) h hx hb hr hlocks hwf hkp hP hK hD hS d_M_moves_152
    have h := if_f c23 h
    refine lv_bipush (v := 11) hx hb d_M_moves_119 (by decide) ?_
    exact me_reti (me_kp M0) h hx hb hr hlocks hwf hkp hP hK hD hS d_M_moves_121
  have h := if_f c12 h
  refine lv_aload_n hx hb d_M_moves_8 rfl (lv_at hl 0 rfl) ?_
  refine g_M_52 hx hb hts hown hK hP hwf hj0 (hts _ u_1793) d_M_moves_9 ?_
  obtain ⟨j39, e40, h⟩ := bd_ob h
  have hj39 : j39 < N 16 := (hwf.2.1 1 j0 52 _ (kp_r hkb hkp e40) (by decide) hj0)
  refine me_opt (j := j39) (kp_r hkb hkp e40) ?_
  refine lv_iload_n hx hb d_M_moves_12 rfl (lv_at hl 2 rfl) ?_
  obtain ⟨g41, h⟩ := gd_ob h
  refine me_lald hx hb hK hP hwf hj39 (kp_z hkb.z hkp.z g41) d_M_moves_13 ?_
  obtain ⟨v42, ev42, h⟩ := st_ob h
  refine fg_topl (y := v42) ev42.symm ?_
  refine lv_lstore (lv' := [(4, .long v42), (0, .ref (ad 1 j0)), (1, .int x1), (2, .int x2), (3, .int x3)]) hx hb d_M_moves_14 hl (by decide) rfl (fun ls hl => ?_)
  refine lv_aload_n hx hb d_M_moves_16 rfl (lv_at hl 1 rfl) ?_
  refine g_M_48 hx hb hts hown hK hP hwf hj0 (hts _ u_1789) d_M_moves_17 ?_
  obtain ⟨j43, e44, h⟩ := bd_ob h
  have hj43 : j43 < N 13 := (hwf.2.1 1 j0 48 _ (kp_r hkb hkp e44) (by decide) hj0)
  refine me_opt (j := j43) (kp_r hkb hkp e44) ?_
  refine lv_iload_n hx hb d_M_moves_20 rfl (lv_at hl 2 rfl) ?_
  obtain ⟨g45, h⟩ := gd_ob h
  refine me_iald hx hb hK hP hwf hj43 (kp_z hkb.z hkp.z g45) d_M_moves_21 ?_
  refine lv_i2l (v := (mI M10 13 j43 x1.toNatClampNeg).toInt64) hx hb d_M_moves_22 rfl ?_
  refine lv_iload_n hx hb d_M_moves_23 rfl (lv_at hl 4 rfl) ?_
  refine lv_if_eq (tgt := 33) hx hb d_M_moves_24 (by decide) (fun c46 => ?_) (fun c46 => ?_)
  · have h := if_t c46 h
    refine lv_lload hx hb d_M_moves_33 (lv_at hl 0 rfl) ?_
    exact b_35 M10 v42 v42 ((mI M10 13 j43 x1.toNatClampNeg).toInt64) _ _ _ h hwf hkp hP hD hS (lv_sub hl [1, 2, 0] rfl)
  have h := if_f c46 h
  refine lv_lload hx hb d_M_moves_27 (lv_at hl 0 rfl) ?_
  refine lv_lneg hx hb d_M_moves_29 ?_
  refine lv_goto (tgt := 35) hx hb d_M_moves_30 (by decide) ?_
  exact b_35 M10 v42 (-v42) ((mI M10 13 j43 x1.toNatClampNeg).toInt64) _ _ _ h hwf hkp hP hD hS (lv_sub hl [1, 2, 0] rfl)
theorem d_M_pointers_87 : decode prog_14_method_72_code 87 = .ok (.iload_n 3, 1) := by decide +kernel
theorem d_M_pointers_88 : decode prog_14_method_72_code 88 = .ok (.ifCond .ne 19, 3) := by decide +kernel
theorem d_M_pointers_107 : decode prog_14_method_72_code 107 = .ok (.bipush 11, 2) := by decide +kernel
theorem d_M_pointers_109 : decode prog_14_method_72_code 109 = .ok (.ireturn, 1) := by decide +kernel
theorem d_M_pointers_91 : decode prog_14_method_72_code 91 = .ok (.aload_n 0, 1) := by decide +kernel
theorem d_M_pointers_92 : decode prog_14_method_72_code 92 = .ok (.iload_n 2, 1) := by decide +kernel
theorem d_M_pointers_93 : decode prog_14_method_72_code 93 = .ok (.invokevirtual 395, 3) := by decide +kernel
theorem u_2301 : Cond.methodLink "FilterGuardModel" 395 ⟨"FilterGuardModel", "isPointer", "(I)Z"⟩ ∈ fg_g := fg_in (List.mem_of_getElem? (i := 2301) (by decide +kernel)) rfl
theorem u_2304 : Cond.code ⟨"FilterGuardModel", "isPointer", "(I)Z"⟩ prog_14_method_68_code 2 (some .boolean) ∈ fg_g := fg_in (List.mem_of_getElem? (i := 2304) (by decide +kernel)) rfl
theorem u_2303 : Cond.instanceMethod ⟨"FilterGuardModel", "isPointer", "(I)Z"⟩ ∈ fg_g := fg_in (List.mem_of_getElem? (i := 2303) (by decide +kernel)) rfl
theorem u_147 : Cond.selects "FilterGuardModel" ⟨"FilterGuardModel", "isPointer", "(I)Z"⟩ ⟨"FilterGuardModel", "isPointer", "(I)Z"⟩ ∈ fg_g := fg_in (List.mem_of_getElem? (i := 147) (by decide +kernel)) rfl
theorem d_M_pointers_96 : decode prog_14_method_72_code 96 = .ok (.ifCond .eq 11, 3) := by decide +kernel
theorem d_M_pointers_99 : decode prog_14_method_72_code 99 = .ok (.aload_n 0, 1) := by decide +kernel
theorem d_M_pointers_100 : decode prog_14_method_72_code 100 = .ok (.iload_n 1, 1) := by decide +kernel
theorem d_M_pointers_101 : decode prog_14_method_72_code 101 = .ok (.invokevirtual 378, 3) := by decide +kernel
theorem u_2187 : Cond.methodLink "FilterGuardModel" 378 ⟨"FilterGuardModel", "isNumber", "(I)Z"⟩ ∈ fg_g := fg_in (List.mem_of_getElem? (i := 2187) (by decide +kernel)) rfl
theorem u_2190 : Cond.code ⟨"FilterGuardModel", "isNumber", "(I)Z"⟩ prog_14_method_67_code 2 (some .boolean) ∈ fg_g := fg_in (List.mem_of_getElem? (i := 2190) (by decide +kernel)) rfl
theorem u_2189 : Cond.instanceMethod ⟨"FilterGuardModel", "isNumber", "(I)Z"⟩ ∈ fg_g := fg_in (List.mem_of_getElem? (i := 2189) (by decide +kernel)) rfl
theorem u_121 : Cond.selects "FilterGuardModel" ⟨"FilterGuardModel", "isNumber", "(I)Z"⟩ ⟨"FilterGuardModel", "isNumber", "(I)Z"⟩ ∈ fg_g := fg_in (List.mem_of_getElem? (i := 121) (by decide +kernel)) rfl
theorem d_M_pointers_104 : decode prog_14_method_72_code 104 = .ok (.ifCond .ne 6, 3) := by decide +kernel
theorem d_M_pointers_110 : decode prog_14_method_72_code 110 = .ok (.aload_n 0, 1) := by decide +kernel
theorem d_M_pointers_111 : decode prog_14_method_72_code 111 = .ok (.iload_n 2, 1) := by decide +kernel
theorem d_M_pointers_112 : decode prog_14_method_72_code 112 = .ok (.sipush 30079, 3) := by decide +kernel
theorem d_M_pointers_115 : decode prog_14_method_72_code 115 = .ok (.invokevirtual 360, 3) := by decide +kernel
theorem d_M_pointers_118 : decode prog_14_method_72_code 118 = .ok (.aload_n 0, 1) := by decide +kernel
theorem d_M_pointers_119 : decode prog_14_method_72_code 119 = .ok (.iload_n 1, 1) := by decide +kernel
theorem d_M_pointers_120 : decode prog_14_method_72_code 120 = .ok (.sipush 30078, 3) := by decide +kernel
theorem d_M_pointers_123 : decode prog_14_method_72_code 123 = .ok (.invokevirtual 360, 3) := by decide +kernel
theorem d_M_pointers_126 : decode prog_14_method_72_code 126 = .ok (.aload_n 0, 1) := by decide +kernel
theorem d_M_pointers_127 : decode prog_14_method_72_code 127 = .ok (.sipush 30079, 3) := by decide +kernel
theorem d_M_pointers_130 : decode prog_14_method_72_code 130 = .ok (.sipush 30078, 3) := by decide +kernel
theorem d_M_pointers_133 : decode prog_14_method_72_code 133 = .ok (.iconst 0, 1) := by decide +kernel
theorem d_M_pointers_134 : decode prog_14_method_72_code 134 = .ok (.invokevirtual 398, 3) := by decide +kernel
theorem u_2387 : Cond.methodLink "FilterGuardModel" 398 ⟨"FilterGuardModel", "moves", "(IIZ)I"⟩ ∈ fg_g := fg_in (List.mem_of_getElem? (i := 2387) (by decide +kernel)) rfl
theorem u_2390 : Cond.code ⟨"FilterGuardModel", "moves", "(IIZ)I"⟩ prog_14_method_73_code 8 (some .int) ∈ fg_g := fg_in (List.mem_of_getElem? (i := 2390) (by decide +kernel)) rfl
theorem u_2389 : Cond.instanceMethod ⟨"FilterGuardModel", "moves", "(IIZ)I"⟩ ∈ fg_g := fg_in (List.mem_of_getElem? (i := 2389) (by decide +kernel)) rfl
theorem u_165 : Cond.selects "FilterGuardModel" ⟨"FilterGuardModel", "moves", "(IIZ)I"⟩ ⟨"FilterGuardModel", "moves", "(IIZ)I"⟩ ∈ fg_g := fg_in (List.mem_of_getElem? (i := 165) (by decide +kernel)) rfl
theorem d_M_pointers_137 : decode prog_14_method_72_code 137 = .ok (.istore 5, 2) := by decide +kernel
theorem d_M_pointers_139 : decode prog_14_method_72_code 139 = .ok (.iload 5, 2) := by decide +kernel
theorem d_M_pointers_141 : decode prog_14_method_72_code 141 = .ok (.ifCond .ne 11, 3) := by decide +kernel
theorem d_M_pointers_152 : decode prog_14_method_72_code 152 = .ok (.iload 5, 2) := by decide +kernel
theorem d_M_pointers_154 : decode prog_14_method_72_code 154 = .ok (.ireturn, 1) := by decide +kernel
theorem d_M_pointers_144 : decode prog_14_method_72_code 144 = .ok (.aload_n 0, 1) := by decide +kernel
theorem d_M_pointers_145 : decode prog_14_method_72_code 145 = .ok (.sipush 30079, 3) := by decide +kernel
theorem d_M_pointers_148 : decode prog_14_method_72_code 148 = .ok (.iload_n 1, 1) := by decide +kernel
theorem d_M_pointers_149 : decode prog_14_method_72_code 149 = .ok (.invokevirtual 360, 3) := by decide +kernel
theorem d_M_pointers_63 : decode prog_14_method_72_code 63 = .ok (.aload_n 0, 1) := by decide +kernel
theorem d_M_pointers_64 : decode prog_14_method_72_code 64 = .ok (.iload_n 1, 1) := by decide +kernel
theorem d_M_pointers_65 : decode prog_14_method_72_code 65 = .ok (.invokevirtual 395, 3) := by decide +kernel
theorem d_M_pointers_68 : decode prog_14_method_72_code 68 = .ok (.ifCond .eq 19, 3) := by decide +kernel
theorem d_M_pointers_71 : decode prog_14_method_72_code 71 = .ok (.aload_n 0, 1) := by decide +kernel
theorem d_M_pointers_72 : decode prog_14_method_72_code 72 = .ok (.iload_n 2, 1) := by decide +kernel
theorem d_M_pointers_73 : decode prog_14_method_72_code 73 = .ok (.invokevirtual 378, 3) := by decide +kernel
theorem d_M_pointers_76 : decode prog_14_method_72_code 76 = .ok (.ifCond .eq 11, 3) := by decide +kernel
theorem d_M_pointers_79 : decode prog_14_method_72_code 79 = .ok (.aload_n 0, 1) := by decide +kernel
theorem d_M_pointers_80 : decode prog_14_method_72_code 80 = .ok (.iload_n 1, 1) := by decide +kernel
theorem d_M_pointers_81 : decode prog_14_method_72_code 81 = .ok (.iload_n 2, 1) := by decide +kernel
theorem d_M_pointers_82 : decode prog_14_method_72_code 82 = .ok (.iload_n 3, 1) := by decide +kernel
theorem d_M_pointers_83 : decode prog_14_method_72_code 83 = .ok (.invokevirtual 398, 3) := by decide +kernel
theorem d_M_pointers_86 : decode prog_14_method_72_code 86 = .ok (.ireturn, 1) := by decide +kernel
theorem d_M_pointers_45 : decode prog_14_method_72_code 45 = .ok (.istore 4, 2) := by decide +kernel
theorem d_M_pointers_47 : decode prog_14_method_72_code 47 = .ok (.iload_n 3, 1) := by decide +kernel
theorem d_M_pointers_48 : decode prog_14_method_72_code 48 = .ok (.ifCond .eq 15, 3) := by decide +kernel
theorem d_M_pointers_51 : decode prog_14_method_72_code 51 = .ok (.iload 4, 2) := by decide +kernel
theorem d_M_pointers_53 : decode prog_14_method_72_code 53 = .ok (.ifCond .eq 10, 3) := by decide +kernel
theorem d_M_pointers_56 : decode prog_14_method_72_code 56 = .ok (.aload_n 0, 1) := by decide +kernel
theorem d_M_pointers_57 : decode prog_14_method_72_code 57 = .ok (.iload_n 1, 1) := by decide +kernel
theorem d_M_pointers_58 : decode prog_14_method_72_code 58 = .ok (.invokevirtual 372, 3) := by decide +kernel
theorem d_M_pointers_61 : decode prog_14_method_72_code 61 = .ok (.iconst 0, 1) := by decide +kernel
theorem d_M_pointers_62 : decode prog_14_method_72_code 62 = .ok (.ireturn, 1) := by decide +kernel
theorem d_M_pointers_44 : decode prog_14_method_72_code 44 = .ok (.iconst 0, 1) := by decide +kernel
theorem d_M_pointers_40 : decode prog_14_method_72_code 40 = .ok (.iconst 1, 1) := by decide +kernel
theorem d_M_pointers_41 : decode prog_14_method_72_code 41 = .ok (.goto 4, 3) := by decide +kernel
theorem d_M_pointers_20 : decode prog_14_method_72_code 20 = .ok (.aload_n 0, 1) := by decide +kernel
theorem d_M_pointers_21 : decode prog_14_method_72_code 21 = .ok (.getfield 89, 3) := by decide +kernel
theorem d_M_pointers_24 : decode prog_14_method_72_code 24 = .ok (.iload_n 2, 1) := by decide +kernel
theorem d_M_pointers_25 : decode prog_14_method_72_code 25 = .ok (.baload, 1) := by decide +kernel
theorem d_M_pointers_26 : decode prog_14_method_72_code 26 = .ok (.iconst 4, 1) := by decide +kernel
theorem d_M_pointers_27 : decode prog_14_method_72_code 27 = .ok (.if_icmp .eq 13, 3) := by decide +kernel
theorem d_M_pointers_30 : decode prog_14_method_72_code 30 = .ok (.aload_n 0, 1) := by decide +kernel
theorem d_M_pointers_31 : decode prog_14_method_72_code 31 = .ok (.getfield 89, 3) := by decide +kernel
theorem d_M_pointers_34 : decode prog_14_method_72_code 34 = .ok (.iload_n 2, 1) := by decide +kernel
theorem d_M_pointers_35 : decode prog_14_method_72_code 35 = .ok (.baload, 1) := by decide +kernel
theorem d_M_pointers_36 : decode prog_14_method_72_code 36 = .ok (.iconst 5, 1) := by decide +kernel
theorem d_M_pointers_37 : decode prog_14_method_72_code 37 = .ok (.if_icmp .ne 7, 3) := by decide +kernel
theorem d_M_pointers_0 : decode prog_14_method_72_code 0 = .ok (.aload_n 0, 1) := by decide +kernel
theorem d_M_pointers_1 : decode prog_14_method_72_code 1 = .ok (.getfield 89, 3) := by decide +kernel
theorem d_M_pointers_4 : decode prog_14_method_72_code 4 = .ok (.iload_n 1, 1) := by decide +kernel
theorem d_M_pointers_5 : decode prog_14_method_72_code 5 = .ok (.baload, 1) := by decide +kernel
theorem d_M_pointers_6 : decode prog_14_method_72_code 6 = .ok (.iconst 4, 1) := by decide +kernel
theorem d_M_pointers_7 : decode prog_14_method_72_code 7 = .ok (.if_icmp .eq 13, 3) := by decide +kernel
theorem d_M_pointers_10 : decode prog_14_method_72_code 10 = .ok (.aload_n 0, 1) := by decide +kernel
theorem d_M_pointers_11 : decode prog_14_method_72_code 11 = .ok (.getfield 89, 3) := by decide +kernel
theorem d_M_pointers_14 : decode prog_14_method_72_code 14 = .ok (.iload_n 1, 1) := by decide +kernel
theorem d_M_pointers_15 : decode prog_14_method_72_code 15 = .ok (.baload, 1) := by decide +kernel
theorem d_M_pointers_16 : decode prog_14_method_72_code 16 = .ok (.iconst 5, 1) := by decide +kernel
theorem d_M_pointers_17 : decode prog_14_method_72_code 17 = .ok (.if_icmp .ne 27, 3) := by decide +kernel
abbrev y_M_pointers : MethodName := ⟨"FilterGuardModel", "pointers", "(IIZ)I"⟩
def rm_M_pointers : Room := { frames := 8, cells := 0, slots := 0, locals := 193 }
abbrev q_M_pointers (D : va_G) (ad : Nat → Nat → Nat) (ca : Nat → ClassId) (N : Nat → Nat) (M0 MZ : me_M) (RZ : Int32) (A : Nat → Prop) : Array Value → Jvm.State → Outcome → Jvm.State → Prop := va_Qi (fun r (_ : Unit) => r = RZ ∧ me_wf N MZ ∧ me_kp M0 MZ) (fg_B D A (fun _ => me_W ad ca MZ) (fun _ => [])) A
set_option maxHeartbeats 4000000 in
set_option maxRecDepth 100000 in
theorem c_M_pointers (l : Launch) (D : va_G) (ad : Nat → Nat → Nat) (ca : Nat → ClassId) (N : Nat → Nat) (M0 MZ : me_M) (RZ : Int32) (j0 : Nat) (x1 : Int32) (x2 : Int32) (x3 : Int32) (h : f_M_pointers M0 j0 x1 x2 x3 = (some (MZ, RZ))) (hwf : me_wf N M0) (hj0 : j0 < N 1) (zx3 : x3 = 1 ∨ x3 = 0) (sz : Nat) : Met l y_M_pointers (fg_w y_M_pointers prog_14_method_72_code 6 (some .int)) rm_M_pointers (va_Pc [.ref (ad 1 j0), .int x1, .int x2, .int x3] (fz_P D (me_T ca) (me_W ad ca M0) sz)) (q_M_pointers D ad ca N M0 MZ RZ (va_A (me_W ad ca M0) sz)) rm_M_pointers.cells rm_M_pointers.slots (va_A (me_W ad ca M0) sz) := by
  refine fz_enter (fun A => q_M_pointers D ad ca N M0 MZ RZ A) (by decide +kernel) (Nat.le_of_ble_eq_true rfl) ?_
  intro p e s m below meth c ls A hx hb hml hown hts hr hlocks hin hP hK hD hS hA hX hl hz
  have hl : lv_has ls 6 [(0, .ref (ad 1 j0)), (1, .int x1), (2, .int x2), (3, .int x3)] := hl
  unfold f_M_pointers at h
  have hkp : me_kp M0 M0 := me_kp.rf
  have hkb := hkp
  have b_87 : ∀ (M : me_M) (H : Heap) (locs : List Loc) (ls : Array Slot), f_M_pointers_b87 j0 x1 x2 x3 M = (some (MZ, RZ)) → me_wf N M → me_kp M0 M → va_P D classes (me_W ad ca M) H → va_D A (me_W ad ca M) → va_S A s.heap H locs → lv_has ls 6 [(0, .ref (ad 1 j0)), (1, .int x1), (2, .int x2), (3, .int x3)] → W p l e rm_M_pointers s m [.ref (ad 1 j0), .int x1, .int x2, .int x3].toArray below meth c H locs 0 0 (MQ below (q_M_pointers D ad ca N M0 MZ RZ A) [.ref (ad 1 j0), .int x1, .int x2, .int x3].toArray s rm_M_pointers.cells rm_M_pointers.slots A) (F0 m 87 ls []) := by
    intro M H locs ls h hwf hkp hP hD hS hl
    unfold f_M_pointers_b87 at h
    have hkb := hkp
    refine lv_iload_n hx hb d_M_pointers_87 rfl (lv_at hl 3 rfl) ?_
    refine lv_if_ne (tgt := 107) hx hb d_M_pointers_88 (by decide) (fun c1 => ?_) (fun c1 => ?_)
    · have h := if_f c1 h
      refine lv_bipush (v := 11) hx hb d_M_pointers_107 (by decide) ?_
      exact me_reti (me_kp M0) h hx hb hr hlocks hwf hkp hP hK hD hS d_M_pointers_109
    have h := if_t c1 h
    refine lv_aload_n hx hb d_M_pointers_91 rfl (lv_at hl 0 rfl) ?_
    refine lv_iload_n hx hb d_M_pointers_92 rfl (lv_at hl 2 rfl) ?_
    obtain ⟨M2, r3, eM2, h⟩ := b2_ob h
    refine me_theni0 (M1 := M2) (me_runV (C := "FilterGuardModel") (As := [.int x2]) (rest := []) ⟨hx, hb, hml, hown, hts⟩ (c_M_isPointer l D ad ca N M M2 r3 j0 x2 eM2 hwf hj0 _) rfl (by show fg_nm y_M_isPointer 1; decide +kernel) u_2301 u_2303 u_147 u_192 u_2304 ⟨Nat.le_of_ble_eq_true rfl, Nat.le_of_ble_eq_true rfl⟩ hX hz hK hP hD hwf hS hA hj0 (by decide) rfl rfl rfl hl.1 (Nat.le_of_ble_eq_true rfl) d_M_pointers_93 ⟨Nat.le_of_ble_eq_true rfl, Nat.le_of_ble_eq_true rfl⟩) hP hD hK hS hA rfl rfl (fun H locs hw hP hD hS => ?_)
    obtain ⟨hwf, hk9, zr3⟩ := hw
    have hkp := hkp.tr hk9
    refine lv_if_eq (tgt := 107) hx hb d_M_pointers_96 (by decide) (fun c4 => ?_) (fun c4 => ?_)
    · have h := if_t c4 h
      refine lv_bipush (v := 11) hx hb d_M_pointers_107 (by decide) ?_
      exact me_reti (me_kp M0) h hx hb hr hlocks hwf hkp hP hK hD hS d_M_pointers_109
    have h := if_f c4 h
    refine lv_aload_n hx hb d_M_pointers_99 rfl (lv_at hl 0 rfl) ?_
    refine lv_iload_n hx hb d_M_pointers_100 rfl (lv_at hl 1 rfl) ?_
    obtain ⟨M5, r6, eM5, h⟩ := b2_ob h
    refine me_theni0 (M1 := M5) (me_runV (C := "FilterGuardModel") (As := [.int x1]) (rest := []) ⟨hx, hb, hml, hown, hts⟩ (c_M_isNumber l D ad ca N M2 M5 r6 j0 x1 eM5 hwf hj0 _) rfl (by show fg_nm y_M_isNumber 1; decide +kernel) u_2187 u_2189 u_121 u_192 u_2190 ⟨Nat.le_of_ble_eq_true rfl, Nat.le_of_ble_eq_true rfl⟩ hX hz hK hP hD hwf hS hA hj0 (by decide) rfl rfl rfl hl.1 (Nat.le_of_ble_eq_true rfl) d_M_pointers_101 ⟨Nat.le_of_ble_eq_true rfl, Nat.le_of_ble_eq_true rfl⟩) hP hD hK hS hA rfl rfl (fun H locs hw hP hD hS => ?_)
    obtain ⟨hwf, hk9, zr6⟩ := hw
    have hkp := hkp.tr hk9
    refine lv_if_ne (tgt := 110) hx hb d_M_pointers_104 (by decide) (fun c7 => ?_) (fun c7 => ?_)
    · have h := if_f c7 h
      refine lv_aload_n hx hb d_M_pointers_110 rfl (lv_at hl 0 rfl) ?_
      refine lv_iload_n hx hb d_M_pointers_111 rfl (lv_at hl 2 rfl) ?_
      refine lv_sipush (v := 30079) hx hb d_M_pointers_112 (by decide) ?_
      obtain ⟨M8, eM8, h⟩ := bd_ob h
      refine me_thenv0 (M1 := M8) (me_runV (C := "FilterGuardModel") (As := [.int x2, .int 30079]) (rest := []) ⟨hx, hb, hml, hown, hts⟩ (c_M_copyItem l D ad ca N M5 M8 j0 x2 (30079 : Int32) eM8 hwf hj0 _) rfl (by show fg_nm y_M_copyItem 2; decide +kernel) u_2092 u_2094 u_102 u_192 u_2095 ⟨Nat.le_of_ble_eq_true rfl, Nat.le_of_ble_eq_true rfl⟩ hX hz hK hP hD hwf hS hA hj0 (by decide) rfl rfl rfl hl.1 (Nat.le_of_ble_eq_true rfl) d_M_pointers_115 ⟨Nat.le_of_ble_eq_true rfl, Nat.le_of_ble_eq_true rfl⟩) hP hD hK hS hA rfl rfl (fun H locs hw hP hD hS => ?_)
      obtain ⟨hwf, hk9⟩ := hw
      have hkp := hkp.tr hk9
      refine lv_aload_n hx hb d_M_pointers_118 rfl (lv_at hl 0 rfl) ?_
      refine lv_iload_n hx hb d_M_pointers_119 rfl (lv_at hl 1 rfl) ?_
      refine lv_sipush (v := 30078) hx hb d_M_pointers_120 (by decide) ?_
      obtain ⟨M9, eM9, h⟩ := bd_ob h
      refine me_thenv0 (M1 := M9) (me_runV (C := "FilterGuardModel") (As := [.int x1, .int 30078]) (rest := []) ⟨hx, hb, hml, hown, hts⟩ (c_M_copyItem l D ad ca N M8 M9 j0 x1 (30078 : Int32) eM9 hwf hj0 _) rfl (by show fg_nm y_M_copyItem 2; decide +kernel) u_2092 u_2094 u_102 u_192 u_2095 ⟨Nat.le_of_ble_eq_true rfl, Nat.le_of_ble_eq_true rfl⟩ hX hz hK hP hD hwf hS hA hj0 (by decide) rfl rfl rfl hl.1 (Nat.le_of_ble_eq_true rfl) d_M_pointers_123 ⟨Nat.le_of_ble_eq_true rfl, Nat.le_of_ble_eq_true rfl⟩) hP hD hK hS hA rfl rfl (fun H locs hw hP hD hS => ?_)
      obtain ⟨hwf, hk9⟩ := hw
      have hkp := hkp.tr hk9
      refine lv_aload_n hx hb d_M_pointers_126 rfl (lv_at hl 0 rfl) ?_
      refine lv_sipush (v := 30079) hx hb d_M_pointers_127 (by decide) ?_
      refine lv_sipush (v := 30078) hx hb d_M_pointers_130 (by decide) ?_
      refine lv_iconst (v := 0) hx hb d_M_pointers_133 (by decide) ?_
      obtain ⟨M10, r11, eM10, h⟩ := b2_ob h
      refine me_theni0 (M1 := M10) (me_runV (C := "FilterGuardModel") (As := [.int 30079, .int 30078, .int 0]) (rest := []) ⟨hx, hb, hml, hown, hts⟩ (c_M_moves l D ad ca N M9 M10 r11 j0 (30079 : Int32) (30078 : Int32) (0 : Int32) eM10 hwf hj0 (by decide) _) rfl (by show fg_nm y_M_moves 3; decide +kernel) u_2387 u_2389 u_165 u_192 u_2390 ⟨Nat.le_of_ble_eq_true rfl, Nat.le_of_ble_eq_true rfl⟩ hX hz hK hP hD hwf hS hA hj0 (by decide) rfl rfl rfl hl.1 (Nat.le_of_ble_eq_true rfl) d_M_pointers_134 ⟨Nat.le_of_ble_eq_true rfl, Nat.le_of_ble_eq_true rfl⟩) hP hD hK hS hA rfl rfl (fun H locs hw hP hD hS => ?_)
      obtain ⟨hwf, hk9⟩ := hw
      have hkp := hkp.tr hk9
      refine lv_istore (lv' := [(5, .int r11), (0, .ref (ad 1 j0)), (1, .int x1), (2, .int x2), (3, .int x3)]) hx hb d_M_pointers_137 hl (by decide) rfl (fun ls hl => ?_)
      refine lv_iload hx hb d_M_pointers_139 (lv_at hl 0 rfl) ?_
      refine lv_if_ne (tgt := 152) hx hb d_M_pointers_141 (by decide) (fun c12 => ?_) (fun c12 => ?_)
      · have h := if_f c12 h
        refine lv_iload hx hb d_M_pointers_152 (lv_at hl 0 rfl) ?_
        exact me_reti (me_kp M0) h hx hb hr hlocks hwf hkp hP hK hD hS d_M_pointers_154
      have h := if_t c12 h
      refine lv_aload_n hx hb d_M_pointers_144 rfl (lv_at hl 1 rfl) ?_
      refine lv_sipush (v := 30079) hx hb d_M_pointers_145 (by decide) ?_
      refine lv_iload_n hx hb d_M_pointers_148 rfl (lv_at hl 2 rfl) ?_
      obtain ⟨M13, eM13, h⟩ := bd_ob h
      refine me_thenv0 (M1 := M13) (me_runV (C := "FilterGuardModel") (As := [.int 30079, .int x1]) (rest := []) ⟨hx, hb, hml, hown, hts⟩ (c_M_copyItem l D ad ca N M10 M13 j0 (30079 : Int32) x1 eM13 hwf hj0 _) rfl (by show fg_nm y_M_copyItem 2; decide +kernel) u_2092 u_2094 u_102 u_192 u_2095 ⟨Nat.le_of_ble_eq_true rfl, Nat.le_of_ble_eq_true rfl⟩ hX hz hK hP hD hwf hS hA hj0 (by decide) rfl rfl rfl hl.1 (Nat.le_of_ble_eq_true rfl) d_M_pointers_149 ⟨Nat.le_of_ble_eq_true rfl, Nat.le_of_ble_eq_true rfl⟩) hP hD hK hS hA rfl rfl (fun H locs hw hP hD hS => ?_)
      obtain ⟨hwf, hk9⟩ := hw
      have hkp := hkp.tr hk9
      refine lv_iload hx hb d_M_pointers_152 (lv_at hl 0 rfl) ?_
      exact me_reti (me_kp M0) h hx hb hr hlocks hwf hkp hP hK hD hS d_M_pointers_154
    have h := if_t c7 h
    refine lv_bipush (v := 11) hx hb d_M_pointers_107 (by decide) ?_
    exact me_reti (me_kp M0) h hx hb hr hlocks hwf hkp hP hK hD hS d_M_pointers_109
  have b_63 : ∀ (M : me_M) (H : Heap) (locs : List Loc) (ls : Array Slot), f_M_pointers_b63 j0 x1 x2 x3 M = (some (MZ, RZ)) → me_wf N M → me_kp M0 M → va_P D classes (me_W ad ca M) H → va_D A (me_W ad ca M) → va_S A s.heap H locs → lv_has ls 6 [(0, .ref (ad 1 j0)), (1, .int x1), (2, .int x2), (3, .int x3)] → W p l e rm_M_pointers s m [.ref (ad 1 j0), .int x1, .int x2, .int x3].toArray below meth c H locs 0 0 (MQ below (q_M_pointers D ad ca N M0 MZ RZ A) [.ref (ad 1 j0), .int x1, .int x2, .int x3].toArray s rm_M_pointers.cells rm_M_pointers.slots A) (F0 m 63 ls []) := by
    intro M H locs ls h hwf hkp hP hD hS hl
    unfold f_M_pointers_b63 at h
    have hkb := hkp
    refine lv_aload_n hx hb d_M_pointers_63 rfl (lv_at hl 0 rfl) ?_
    refine lv_iload_n hx hb d_M_pointers_64 rfl (lv_at hl 1 rfl) ?_
    obtain ⟨M14, r15, eM14, h⟩ := b2_ob h
    refine me_theni0 (M1 := M14) (me_runV (C := "FilterGuardModel") (As := [.int x1]) (rest := []) ⟨hx, hb, hml, hown, hts⟩ (c_M_isPointer l D ad ca N M M14 r15 j0 x1 eM14 hwf hj0 _) rfl (by show fg_nm y_M_isPointer 1; decide +kernel) u_2301 u_2303 u_147 u_192 u_2304 ⟨Nat.le_of_ble_eq_true rfl, Nat.le_of_ble_eq_true rfl⟩ hX hz hK hP hD hwf hS hA hj0 (by decide) rfl rfl rfl hl.1 (Nat.le_of_ble_eq_true rfl) d_M_pointers_65 ⟨Nat.le_of_ble_eq_true rfl, Nat.le_of_ble_eq_true rfl⟩) hP hD hK hS hA rfl rfl (fun H locs hw hP hD hS => ?_)
    obtain ⟨hwf, hk9, zr15⟩ := hw
    have hkp := hkp.tr hk9
    refine lv_if_eq (tgt := 87) hx hb d_M_pointers_68 (by decide) (fun c16 => ?_) (fun c16 => ?_)
    · have h := if_t c16 h
      exact b_87 M14 _ _ _ h hwf hkp hP hD hS (lv_sub hl [0, 1, 2, 3] rfl)
    have h := if_f c16 h
    refine lv_aload_n hx hb d_M_pointers_71 rfl (lv_at hl 0 rfl) ?_
    refine lv_iload_n hx hb d_M_pointers_72 rfl (lv_at hl 2 rfl) ?_
    obtain ⟨M17, r18, eM17, h⟩ := b2_ob h
    refine me_theni0 (M1 := M17) (me_runV (C := "FilterGuardModel") (As := [.int x2]) (rest := []) ⟨hx, hb, hml, hown, hts⟩ (c_M_isNumber l D ad ca N M14 M17 r18 j0 x2 eM17 hwf hj0 _) rfl (by show fg_nm y_M_isNumber 1; decide +kernel) u_2187 u_2189 u_121 u_192 u_2190 ⟨Nat.le_of_ble_eq_true rfl, Nat.le_of_ble_eq_true rfl⟩ hX hz hK hP hD hwf hS hA hj0 (by decide) rfl rfl rfl hl.1 (Nat.le_of_ble_eq_true rfl) d_M_pointers_73 ⟨Nat.le_of_ble_eq_true rfl, Nat.le_of_ble_eq_true rfl⟩) hP hD hK hS hA rfl rfl (fun H locs hw hP hD hS => ?_)
    obtain ⟨hwf, hk9, zr18⟩ := hw
    have hkp := hkp.tr hk9
    refine lv_if_eq (tgt := 87) hx hb d_M_pointers_76 (by decide) (fun c19 => ?_) (fun c19 => ?_)
    · have h := if_t c19 h
      exact b_87 M17 _ _ _ h hwf hkp hP hD hS (lv_sub hl [0, 1, 2, 3] rfl)
    have h := if_f c19 h
    refine lv_aload_n hx hb d_M_pointers_79 rfl (lv_at hl 0 rfl) ?_
    refine lv_iload_n hx hb d_M_pointers_80 rfl (lv_at hl 1 rfl) ?_
    refine lv_iload_n hx hb d_M_pointers_81 rfl (lv_at hl 2 rfl) ?_
    refine lv_iload_n hx hb d_M_pointers_82 rfl (lv_at hl 3 rfl) ?_
    obtain ⟨M20, r21, eM20, h⟩ := b2_ob h
    refine me_theni0 (M1 := M20) (me_runV (C := "FilterGuardModel") (As := [.int x1, .int x2, .int x3]) (rest := []) ⟨hx, hb, hml, hown, hts⟩ (c_M_moves l D ad ca N M17 M20 r21 j0 x1 x2 x3 eM20 hwf hj0 zx3 _) rfl (by show fg_nm y_M_moves 3; decide +kernel) u_2387 u_2389 u_165 u_192 u_2390 ⟨Nat.le_of_ble_eq_true rfl, Nat.le_of_ble_eq_true rfl⟩ hX hz hK hP hD hwf hS hA hj0 (by decide) rfl rfl rfl hl.1 (Nat.le_of_ble_eq_true rfl) d_M_pointers_83 ⟨Nat.le_of_ble_eq_true rfl, Nat.le_of_ble_eq_true rfl⟩) hP hD hK hS hA rfl rfl (fun H locs hw hP hD hS => ?_)
    obtain ⟨hwf, hk9⟩ := hw
    have hkp := hkp.tr hk9
    exact me_reti (me_kp M0) h hx hb hr hlocks hwf hkp hP hK hD hS d_M_pointers_86
  have b_45 : ∀ (M : me_M) (s0 : Int32) (H : Heap) (locs : List Loc) (ls : Array Slot), f_M_pointers_b45 j0 x1 x2 x3 M s0 = (some (MZ, RZ)) → (s0 = 1 ∨ s0 = 0) → me_wf N M → me_kp M0 M → va_P D classes (me_W ad ca M) H → va_D A (me_W ad ca M) → va_S A s.heap H locs → lv_has ls 6 [(0, .ref (ad 1 j0)), (1, .int x1), (2, .int x2), (3, .int x3)] → W p l e rm_M_pointers s m [.ref (ad 1 j0), .int x1, .int x2, .int x3].toArray below meth c H locs 0 0 (MQ below (q_M_pointers D ad ca N M0 MZ RZ A) [.ref (ad 1 j0), .int x1, .int x2, .int x3].toArray s rm_M_pointers.cells rm_M_pointers.slots A) (F0 m 45 ls [.int s0]) := by
    intro M s0 H locs ls h zs0 hwf hkp hP hD hS hl
    unfold f_M_pointers_b45 at h
    have hkb := hkp
    refine lv_istore (lv' := [(4, .int s0), (0, .ref (ad 1 j0)), (1, .int x1), (2, .int x2), (3, .int x3)]) hx hb d_M_pointers_45 hl (by decide) rfl (fun ls hl => ?_)
    refine lv_iload_n hx hb d_M_pointers_47 rfl (lv_at hl 4 rfl) ?_
    refine lv_if_eq (tgt := 63) hx hb d_M_pointers_48 (by decide) (fun c22 => ?_) (fun c22 => ?_)
    · have h := if_t c22 h
      exact b_63 M _ _ _ h hwf hkp hP hD hS (lv_sub hl [1, 2, 3, 4] rfl)
    have h := if_f c22 h
    refine lv_iload hx hb d_M_pointers_51 (lv_at hl 0 rfl) ?_
    refine lv_if_eq (tgt := 63) hx hb d_M_pointers_53 (by decide) (fun c23 => ?_) (fun c23 => ?_)
    · have h := if_t c23 h
      exact b_63 M _ _ _ h hwf hkp hP hD hS (lv_sub hl [1, 2, 3, 4] rfl)
    have h := if_f c23 h
    refine lv_aload_n hx hb d_M_pointers_56 rfl (lv_at hl 1 rfl) ?_
    refine lv_iload_n hx hb d_M_pointers_57 rfl (lv_at hl 2 rfl) ?_
    obtain ⟨M24, eM24, h⟩ := bd_ob h
    refine me_thenv0 (M1 := M24) (me_runV (C := "FilterGuardModel") (As := [.int x1]) (rest := []) ⟨hx, hb, hml, hown, hts⟩ (c_M_toAny l D ad ca N M M24 j0 x1 eM24 hwf hj0 _) rfl (by show fg_nm y_M_toAny 1; decide +kernel) u_2134 u_2136 u_111 u_192 u_2137 ⟨Nat.le_of_ble_eq_true rfl, Nat.le_of_ble_eq_true rfl⟩ hX hz hK hP hD hwf hS hA hj0 (by decide) rfl rfl rfl hl.1 (Nat.le_of_ble_eq_true rfl) d_M_pointers_58 ⟨Nat.le_of_ble_eq_true rfl, Nat.le_of_ble_eq_true rfl⟩) hP hD hK hS hA rfl rfl (fun H locs hw hP hD hS => ?_)
    obtain ⟨hwf, hk9⟩ := hw
    have hkp := hkp.tr hk9
    refine lv_iconst (v := 0) hx hb d_M_pointers_61 (by decide) ?_
    exact me_reti (me_kp M0) h hx hb hr hlocks hwf hkp hP hK hD hS d_M_pointers_62
  have b_44 : ∀ (M : me_M) (H : Heap) (locs : List Loc) (ls : Array Slot), f_M_pointers_b44 j0 x1 x2 x3 M = (some (MZ, RZ)) → me_wf N M → me_kp M0 M → va_P D classes (me_W ad ca M) H → va_D A (me_W ad ca M) → va_S A s.heap H locs → lv_has ls 6 [(0, .ref (ad 1 j0)), (1, .int x1), (2, .int x2), (3, .int x3)] → W p l e rm_M_pointers s m [.ref (ad 1 j0), .int x1, .int x2, .int x3].toArray below meth c H locs 0 0 (MQ below (q_M_pointers D ad ca N M0 MZ RZ A) [.ref (ad 1 j0), .int x1, .int x2, .int x3].toArray s rm_M_pointers.cells rm_M_pointers.slots A) (F0 m 44 ls []) := by
    intro M H locs ls h hwf hkp hP hD hS hl
    unfold f_M_pointers_b44 at h
    have hkb := hkp
    refine lv_iconst (v := 0) hx hb d_M_pointers_44 (by decide) ?_
    exact b_45 M (0 : Int32) _ _ _ h (by decide) hwf hkp hP hD hS (lv_sub hl [0, 1, 2, 3] rfl)
  have b_40 : ∀ (M : me_M) (H : Heap) (locs : List Loc) (ls : Array Slot), f_M_pointers_b40 j0 x1 x2 x3 M = (some (MZ, RZ)) → me_wf N M → me_kp M0 M → va_P D classes (me_W ad ca M) H → va_D A (me_W ad ca M) → va_S A s.heap H locs → lv_has ls 6 [(0, .ref (ad 1 j0)), (1, .int x1), (2, .int x2), (3, .int x3)] → W p l e rm_M_pointers s m [.ref (ad 1 j0), .int x1, .int x2, .int x3].toArray below meth c H locs 0 0 (MQ below (q_M_pointers D ad ca N M0 MZ RZ A) [.ref (ad 1 j0), .int x1, .int x2, .int x3].toArray s rm_M_pointers.cells rm_M_pointers.slots A) (F0 m 40 ls []) := by
    intro M H locs ls h hwf hkp hP hD hS hl
    unfold f_M_pointers_b40 at h
    have hkb := hkp
    refine lv_iconst (v := 1) hx hb d_M_pointers_40 (by decide) ?_
    refine lv_goto (tgt := 45) hx hb d_M_pointers_41 (by decide) ?_
    exact b_45 M (1 : Int32) _ _ _ h (by decide) hwf hkp hP hD hS (lv_sub hl [0, 1, 2, 3] rfl)
  have b_20 : ∀ (M : me_M) (H : Heap) (locs : List Loc) (ls : Array Slot), f_M_pointers_b20 j0 x1 x2 x3 M = (some (MZ, RZ)) → me_wf N M → me_kp M0 M → va_P D classes (me_W ad ca M) H → va_D A (me_W ad ca M) → va_S A s.heap H locs → lv_has ls 6 [(0, .ref (ad 1 j0)), (1, .int x1), (2, .int x2), (3, .int x3)] → W p l e rm_M_pointers s m [.ref (ad 1 j0), .int x1, .int x2, .int x3].toArray below meth c H locs 0 0 (MQ below (q_M_pointers D ad ca N M0 MZ RZ A) [.ref (ad 1 j0), .int x1, .int x2, .int x3].toArray s rm_M_pointers.cells rm_M_pointers.slots A) (F0 m 20 ls []) := by
    intro M H locs ls h hwf hkp hP hD hS hl
    unfold f_M_pointers_b20 at h
    have hkb := hkp
    refine lv_aload_n hx hb d_M_pointers_20 rfl (lv_at hl 0 rfl) ?_
    refine g_M_47 hx hb hts hown hK hP hwf hj0 (hts _ u_1788) d_M_pointers_21 ?_
    obtain ⟨j25, e26, h⟩ := bd_ob h
    have hj25 : j25 < N 14 := (hwf.2.1 1 j0 47 _ e26 (by decide) hj0)
    refine me_opt (j := j25) e26 ?_
    refine lv_iload_n hx hb d_M_pointers_24 rfl (lv_at hl 2 rfl) ?_
    obtain ⟨g27, h⟩ := gd_ob h
    refine me_bald hx hb hK hP hwf hj25 g27 d_M_pointers_25 ?_
    refine lv_iconst (v := 4) hx hb d_M_pointers_26 (by decide) ?_
    refine lv_icmp_eq (tgt := 40) hx hb d_M_pointers_27 (by decide) (fun c28 => ?_) (fun c28 => ?_)
    · have h := if_t c28 h
      exact b_40 M _ _ _ h hwf hkp hP hD hS (lv_sub hl [0, 1, 2, 3] rfl)
    have h := if_f c28 h
    refine lv_aload_n hx hb d_M_pointers_30 rfl (lv_at hl 0 rfl) ?_
    refine g_M_47 hx hb hts hown hK hP hwf hj0 (hts _ u_1788) d_M_pointers_31 ?_
    refine me_opt (j := j25) e26 ?_
    refine lv_iload_n hx hb d_M_pointers_34 rfl (lv_at hl 2 rfl) ?_
    refine me_bald hx hb hK hP hwf hj25 g27 d_M_pointers_35 ?_
    refine lv_iconst (v := 5) hx hb d_M_pointers_36 (by decide) ?_
    refine lv_icmp_ne (tgt := 44) hx hb d_M_pointers_37 (by decide) (fun c29 => ?_) (fun c29 => ?_)
    · have h := if_f c29 h
      exact b_44 M _ _ _ h hwf hkp hP hD hS (lv_sub hl [0, 1, 2, 3] rfl)
    have h := if_t c29 h
    exact b_40 M _ _ _ h hwf hkp hP hD hS (lv_sub hl [0, 1, 2, 3] rfl)
  refine lv_aload_n hx hb d_M_pointers_0 rfl (lv_at hl 0 rfl) ?_
  refine g_M_47 hx hb hts hown hK hP hwf hj0 (hts _ u_1788) d_M_pointers_1 ?_
  obtain ⟨j30, e31, h⟩ := bd_ob h
  have hj30 : j30 < N 14 := (hwf.2.1 1 j0 47 _ e31 (by decide) hj0)
  refine me_opt (j := j30) e31 ?_
  refine lv_iload_n hx hb d_M_pointers_4 rfl (lv_at hl 1 rfl) ?_
  obtain ⟨g32, h⟩ := gd_ob h
  refine me_bald hx hb hK hP hwf hj30 g32 d_M_pointers_5 ?_
  refine lv_iconst (v := 4) hx hb d_M_pointers_6 (by decide) ?_
  refine lv_icmp_eq (tgt := 20) hx hb d_M_pointers_7 (by decide) (fun c33 => ?_) (fun c33 => ?_)
  · have h := if_t c33 h
    exact b_20 M0 _ _ _ h hwf hkp hP hD hS (lv_sub hl [0, 1, 2, 3] rfl)
  have h := if_f c33 h
  refine lv_aload_n hx hb d_M_pointers_10 rfl (lv_at hl 0 rfl) ?_
  refine g_M_47 hx hb hts hown hK hP hwf hj0 (hts _ u_1788) d_M_pointers_11 ?_
  refine me_opt (j := j30) e31 ?_
  refine lv_iload_n hx hb d_M_pointers_14 rfl (lv_at hl 1 rfl) ?_
  refine me_bald hx hb hK hP hwf hj30 g32 d_M_pointers_15 ?_
  refine lv_iconst (v := 5) hx hb d_M_pointers_16 (by decide) ?_
  refine lv_icmp_ne (tgt := 44) hx hb d_M_pointers_17 (by decide) (fun c34 => ?_) (fun c34 => ?_)
  · have h := if_f c34 h
    exact b_44 M0 _ _ _ h hwf hkp hP hD hS (lv_sub hl [0, 1, 2, 3] rfl)
  have h := if_t c34 h
  exact b_20 M0 _ _ _ h hwf hkp hP hD hS (lv_sub hl [0, 1, 2, 3] rfl)
theorem d_M_arithmetic_266 : decode prog_14_method_71_code 266 = .ok (.iload 7, 2) := by decide +kernel
theorem d_M_arithmetic_268 : decode prog_14_method_71_code 268 = .ok (.ifCond .ne 9, 3) := by decide +kernel
theorem d_M_arithmetic_277 : decode prog_14_method_71_code 277 = .ok (.bipush 11, 2) := by decide +kernel
theorem d_M_arithmetic_279 : decode prog_14_method_71_code 279 = .ok (.goto 22, 3) := by decide +kernel
theorem d_M_arithmetic_301 : decode prog_14_method_71_code 301 = .ok (.ireturn, 1) := by decide +kernel
theorem d_M_arithmetic_271 : decode prog_14_method_71_code 271 = .ok (.iload 5, 2) := by decide +kernel
theorem d_M_arithmetic_273 : decode prog_14_method_71_code 273 = .ok (.iconst 1, 1) := by decide +kernel
theorem d_M_arithmetic_274 : decode prog_14_method_71_code 274 = .ok (.if_icmp .le 8, 3) := by decide +kernel
theorem d_M_arithmetic_282 : decode prog_14_method_71_code 282 = .ok (.aload_n 0, 1) := by decide +kernel
theorem d_M_arithmetic_283 : decode prog_14_method_71_code 283 = .ok (.iload 6, 2) := by decide +kernel
theorem d_M_arithmetic_285 : decode prog_14_method_71_code 285 = .ok (.iload 9, 2) := by decide +kernel
theorem d_M_arithmetic_287 : decode prog_14_method_71_code 287 = .ok (.iload 5, 2) := by decide +kernel
theorem d_M_arithmetic_289 : decode prog_14_method_71_code 289 = .ok (.iconst 1, 1) := by decide +kernel
theorem d_M_arithmetic_290 : decode prog_14_method_71_code 290 = .ok (.if_icmp .ne 7, 3) := by decide +kernel
theorem d_M_arithmetic_297 : decode prog_14_method_71_code 297 = .ok (.iconst 0, 1) := by decide +kernel
theorem d_M_arithmetic_298 : decode prog_14_method_71_code 298 = .ok (.invokevirtual 391, 3) := by decide +kernel
theorem u_2383 : Cond.methodLink "FilterGuardModel" 391 ⟨"FilterGuardModel", "pointers", "(IIZ)I"⟩ ∈ fg_g := fg_in (List.mem_of_getElem? (i := 2383) (by decide +kernel)) rfl
theorem u_2386 : Cond.code ⟨"FilterGuardModel", "pointers", "(IIZ)I"⟩ prog_14_method_72_code 6 (some .int) ∈ fg_g := fg_in (List.mem_of_getElem? (i := 2386) (by decide +kernel)) rfl
theorem u_2385 : Cond.instanceMethod ⟨"FilterGuardModel", "pointers", "(IIZ)I"⟩ ∈ fg_g := fg_in (List.mem_of_getElem? (i := 2385) (by decide +kernel)) rfl
theorem u_164 : Cond.selects "FilterGuardModel" ⟨"FilterGuardModel", "pointers", "(IIZ)I"⟩ ⟨"FilterGuardModel", "pointers", "(IIZ)I"⟩ ∈ fg_g := fg_in (List.mem_of_getElem? (i := 164) (by decide +kernel)) rfl
theorem d_M_arithmetic_293 : decode prog_14_method_71_code 293 = .ok (.iconst 1, 1) := by decide +kernel
theorem d_M_arithmetic_294 : decode prog_14_method_71_code 294 = .ok (.goto 4, 3) := by decide +kernel
theorem d_M_arithmetic_241 : decode prog_14_method_71_code 241 = .ok (.iload 9, 2) := by decide +kernel
theorem d_M_arithmetic_243 : decode prog_14_method_71_code 243 = .ok (.iload 7, 2) := by decide +kernel
theorem d_M_arithmetic_245 : decode prog_14_method_71_code 245 = .ok (.invokevirtual 381, 3) := by decide +kernel
theorem d_M_arithmetic_248 : decode prog_14_method_71_code 248 = .ok (.aload_n 0, 1) := by decide +kernel
theorem d_M_arithmetic_249 : decode prog_14_method_71_code 249 = .ok (.iload 6, 2) := by decide +kernel
theorem d_M_arithmetic_251 : decode prog_14_method_71_code 251 = .ok (.lconst 0, 1) := by decide +kernel
theorem d_M_arithmetic_252 : decode prog_14_method_71_code 252 = .ok (.invokevirtual 375, 3) := by decide +kernel
theorem d_M_arithmetic_255 : decode prog_14_method_71_code 255 = .ok (.aload_n 0, 1) := by decide +kernel
theorem d_M_arithmetic_256 : decode prog_14_method_71_code 256 = .ok (.sipush 30080, 3) := by decide +kernel
theorem d_M_arithmetic_259 : decode prog_14_method_71_code 259 = .ok (.iload 6, 2) := by decide +kernel
theorem d_M_arithmetic_261 : decode prog_14_method_71_code 261 = .ok (.invokevirtual 208, 3) := by decide +kernel
theorem d_M_arithmetic_264 : decode prog_14_method_71_code 264 = .ok (.iconst 0, 1) := by decide +kernel
theorem d_M_arithmetic_265 : decode prog_14_method_71_code 265 = .ok (.ireturn, 1) := by decide +kernel
theorem d_M_arithmetic_220 : decode prog_14_method_71_code 220 = .ok (.aload_n 0, 1) := by decide +kernel
theorem d_M_arithmetic_221 : decode prog_14_method_71_code 221 = .ok (.sipush 30080, 3) := by decide +kernel
theorem d_M_arithmetic_224 : decode prog_14_method_71_code 224 = .ok (.iload 5, 2) := by decide +kernel
theorem d_M_arithmetic_226 : decode prog_14_method_71_code 226 = .ok (.invokestatic 388, 3) := by decide +kernel
theorem u_2380 : Cond.methodLink "FilterGuardModel" 388 ⟨"FilterGuardModel", "operationOf", "(I)I"⟩ ∈ fg_g := fg_in (List.mem_of_getElem? (i := 2380) (by decide +kernel)) rfl
theorem u_2382 : Cond.code ⟨"FilterGuardModel", "operationOf", "(I)I"⟩ prog_14_method_69_code 1 (some .int) ∈ fg_g := fg_in (List.mem_of_getElem? (i := 2382) (by decide +kernel)) rfl
theorem u_2381 : Cond.static ⟨"FilterGuardModel", "operationOf", "(I)I"⟩ ∈ fg_g := fg_in (List.mem_of_getElem? (i := 2381) (by decide +kernel)) rfl
theorem d_M_arithmetic_229 : decode prog_14_method_71_code 229 = .ok (.iload 8, 2) := by decide +kernel
theorem d_M_arithmetic_231 : decode prog_14_method_71_code 231 = .ok (.ifCond .eq 8, 3) := by decide +kernel
theorem d_M_arithmetic_239 : decode prog_14_method_71_code 239 = .ok (.iload 6, 2) := by decide +kernel
theorem d_M_arithmetic_234 : decode prog_14_method_71_code 234 = .ok (.iload 9, 2) := by decide +kernel
theorem d_M_arithmetic_236 : decode prog_14_method_71_code 236 = .ok (.goto 5, 3) := by decide +kernel
theorem d_M_arithmetic_197 : decode prog_14_method_71_code 197 = .ok (.aload_n 0, 1) := by decide +kernel
theorem d_M_arithmetic_198 : decode prog_14_method_71_code 198 = .ok (.iload 9, 2) := by decide +kernel
theorem d_M_arithmetic_200 : decode prog_14_method_71_code 200 = .ok (.invokevirtual 378, 3) := by decide +kernel
theorem d_M_arithmetic_203 : decode prog_14_method_71_code 203 = .ok (.ifCond .eq 63, 3) := by decide +kernel
theorem d_M_arithmetic_206 : decode prog_14_method_71_code 206 = .ok (.iload 8, 2) := by decide +kernel
theorem d_M_arithmetic_208 : decode prog_14_method_71_code 208 = .ok (.ifCond .ne 12, 3) := by decide +kernel
theorem d_M_arithmetic_211 : decode prog_14_method_71_code 211 = .ok (.aload_n 0, 1) := by decide +kernel
theorem d_M_arithmetic_212 : decode prog_14_method_71_code 212 = .ok (.iload 6, 2) := by decide +kernel
theorem d_M_arithmetic_214 : decode prog_14_method_71_code 214 = .ok (.invokevirtual 378, 3) := by decide +kernel
theorem d_M_arithmetic_217 : decode prog_14_method_71_code 217 = .ok (.ifCond .eq 49, 3) := by decide +kernel
theorem d_M_arithmetic_130 : decode prog_14_method_71_code 130 = .ok (.iload 6, 2) := by decide +kernel
theorem d_M_arithmetic_132 : decode prog_14_method_71_code 132 = .ok (.sipush 30078, 3) := by decide +kernel
theorem d_M_arithmetic_135 : decode prog_14_method_71_code 135 = .ok (.iload 4, 2) := by decide +kernel
theorem d_M_arithmetic_137 : decode prog_14_method_71_code 137 = .ok (.bipush 7, 2) := by decide +kernel
theorem d_M_arithmetic_139 : decode prog_14_method_71_code 139 = .ok (.if_icmp .ne 12, 3) := by decide +kernel
theorem d_M_arithmetic_151 : decode prog_14_method_71_code 151 = .ok (.iconst 0, 1) := by decide +kernel
theorem d_M_arithmetic_152 : decode prog_14_method_71_code 152 = .ok (.invokevirtual 381, 3) := by decide +kernel
theorem d_M_arithmetic_155 : decode prog_14_method_71_code 155 = .ok (.iconst 0, 1) := by decide +kernel
theorem d_M_arithmetic_156 : decode prog_14_method_71_code 156 = .ok (.ireturn, 1) := by decide +kernel
theorem d_M_arithmetic_142 : decode prog_14_method_71_code 142 = .ok (.iload 7, 2) := by decide +kernel
theorem d_M_arithmetic_144 : decode prog_14_method_71_code 144 = .ok (.ifCond .eq 7, 3) := by decide +kernel
theorem d_M_arithmetic_147 : decode prog_14_method_71_code 147 = .ok (.iconst 1, 1) := by decide +kernel
theorem d_M_arithmetic_148 : decode prog_14_method_71_code 148 = .ok (.goto 4, 3) := by decide +kernel
theorem d_M_arithmetic_67 : decode prog_14_method_71_code 67 = .ok (.iload 4, 2) := by decide +kernel
theorem d_M_arithmetic_69 : decode prog_14_method_71_code 69 = .ok (.bipush 6, 2) := by decide +kernel
theorem d_M_arithmetic_71 : decode prog_14_method_71_code 71 = .ok (.if_icmp .eq 86, 3) := by decide +kernel
theorem d_M_arithmetic_157 : decode prog_14_method_71_code 157 = .ok (.aload_n 0, 1) := by decide +kernel
theorem d_M_arithmetic_158 : decode prog_14_method_71_code 158 = .ok (.lload_n 1, 1) := by decide +kernel
theorem d_M_arithmetic_159 : decode prog_14_method_71_code 159 = .ok (.invokevirtual 385, 3) := by decide +kernel
theorem u_2215 : Cond.methodLink "FilterGuardModel" 385 ⟨"FilterGuardModel", "sourceOf", "(J)I"⟩ ∈ fg_g := fg_in (List.mem_of_getElem? (i := 2215) (by decide +kernel)) rfl
theorem u_2218 : Cond.code ⟨"FilterGuardModel", "sourceOf", "(J)I"⟩ prog_14_method_70_code 3 (some .int) ∈ fg_g := fg_in (List.mem_of_getElem? (i := 2218) (by decide +kernel)) rfl
theorem u_2217 : Cond.instanceMethod ⟨"FilterGuardModel", "sourceOf", "(J)I"⟩ ∈ fg_g := fg_in (List.mem_of_getElem? (i := 2217) (by decide +kernel)) rfl
theorem u_128 : Cond.selects "FilterGuardModel" ⟨"FilterGuardModel", "sourceOf", "(J)I"⟩ ⟨"FilterGuardModel", "sourceOf", "(J)I"⟩ ∈ fg_g := fg_in (List.mem_of_getElem? (i := 128) (by decide +kernel)) rfl
theorem d_M_arithmetic_162 : decode prog_14_method_71_code 162 = .ok (.istore 9, 2) := by decide +kernel
theorem d_M_arithmetic_164 : decode prog_14_method_71_code 164 = .ok (.aload_n 0, 1) := by decide +kernel
theorem d_M_arithmetic_165 : decode prog_14_method_71_code 165 = .ok (.getfield 89, 3) := by decide +kernel
theorem d_M_arithmetic_168 : decode prog_14_method_71_code 168 = .ok (.iload 9, 2) := by decide +kernel
theorem d_M_arithmetic_170 : decode prog_14_method_71_code 170 = .ok (.baload, 1) := by decide +kernel
theorem d_M_arithmetic_171 : decode prog_14_method_71_code 171 = .ok (.ifCond .ne 6, 3) := by decide +kernel
theorem d_M_arithmetic_177 : decode prog_14_method_71_code 177 = .ok (.iload 8, 2) := by decide +kernel
theorem d_M_arithmetic_179 : decode prog_14_method_71_code 179 = .ok (.ifCond .eq 18, 3) := by decide +kernel
theorem d_M_arithmetic_182 : decode prog_14_method_71_code 182 = .ok (.iload 7, 2) := by decide +kernel
theorem d_M_arithmetic_184 : decode prog_14_method_71_code 184 = .ok (.ifCond .ne 13, 3) := by decide +kernel
theorem d_M_arithmetic_187 : decode prog_14_method_71_code 187 = .ok (.aload_n 0, 1) := by decide +kernel
theorem d_M_arithmetic_188 : decode prog_14_method_71_code 188 = .ok (.iload 9, 2) := by decide +kernel
theorem d_M_arithmetic_190 : decode prog_14_method_71_code 190 = .ok (.iload 6, 2) := by decide +kernel
theorem d_M_arithmetic_192 : decode prog_14_method_71_code 192 = .ok (.invokevirtual 360, 3) := by decide +kernel
theorem d_M_arithmetic_195 : decode prog_14_method_71_code 195 = .ok (.iconst 0, 1) := by decide +kernel
theorem d_M_arithmetic_196 : decode prog_14_method_71_code 196 = .ok (.ireturn, 1) := by decide +kernel
theorem d_M_arithmetic_174 : decode prog_14_method_71_code 174 = .ok (.bipush 10, 2) := by decide +kernel
theorem d_M_arithmetic_176 : decode prog_14_method_71_code 176 = .ok (.ireturn, 1) := by decide +kernel
theorem d_M_arithmetic_74 : decode prog_14_method_71_code 74 = .ok (.aload_n 0, 1) := by decide +kernel
theorem d_M_arithmetic_75 : decode prog_14_method_71_code 75 = .ok (.iload 6, 2) := by decide +kernel
theorem d_M_arithmetic_77 : decode prog_14_method_71_code 77 = .ok (.invokevirtual 378, 3) := by decide +kernel
theorem d_M_arithmetic_80 : decode prog_14_method_71_code 80 = .ok (.ifCond .ne 6, 3) := by decide +kernel
theorem d_M_arithmetic_86 : decode prog_14_method_71_code 86 = .ok (.aload_n 0, 1) := by decide +kernel
theorem d_M_arithmetic_87 : decode prog_14_method_71_code 87 = .ok (.sipush 30078, 3) := by decide +kernel
theorem d_M_arithmetic_90 : decode prog_14_method_71_code 90 = .ok (.lload_n 1, 1) := by decide +kernel
theorem d_M_arithmetic_91 : decode prog_14_method_71_code 91 = .ok (.invokestatic 324, 3) := by decide +kernel
theorem d_M_arithmetic_94 : decode prog_14_method_71_code 94 = .ok (.bipush 8, 2) := by decide +kernel
theorem d_M_arithmetic_96 : decode prog_14_method_71_code 96 = .ok (.idiv, 1) := by decide +kernel
theorem d_M_arithmetic_97 : decode prog_14_method_71_code 97 = .ok (.i2l, 1) := by decide +kernel
theorem d_M_arithmetic_98 : decode prog_14_method_71_code 98 = .ok (.invokevirtual 375, 3) := by decide +kernel
theorem d_M_arithmetic_101 : decode prog_14_method_71_code 101 = .ok (.aload_n 0, 1) := by decide +kernel
theorem d_M_arithmetic_102 : decode prog_14_method_71_code 102 = .ok (.iload 6, 2) := by decide +kernel
theorem d_M_arithmetic_104 : decode prog_14_method_71_code 104 = .ok (.iload 4, 2) := by decide +kernel
theorem d_M_arithmetic_106 : decode prog_14_method_71_code 106 = .ok (.bipush 7, 2) := by decide +kernel
theorem d_M_arithmetic_108 : decode prog_14_method_71_code 108 = .ok (.if_icmp .ne 8, 3) := by decide +kernel
theorem d_M_arithmetic_116 : decode prog_14_method_71_code 116 = .ok (.iload 4, 2) := by decide +kernel
theorem d_M_arithmetic_118 : decode prog_14_method_71_code 118 = .ok (.bipush 8, 2) := by decide +kernel
theorem d_M_arithmetic_120 : decode prog_14_method_71_code 120 = .ok (.if_icmp .ne 8, 3) := by decide +kernel
theorem d_M_arithmetic_128 : decode prog_14_method_71_code 128 = .ok (.bipush 13, 2) := by decide +kernel
theorem d_M_arithmetic_123 : decode prog_14_method_71_code 123 = .ok (.bipush 14, 2) := by decide +kernel
theorem d_M_arithmetic_125 : decode prog_14_method_71_code 125 = .ok (.goto 5, 3) := by decide +kernel
theorem d_M_arithmetic_111 : decode prog_14_method_71_code 111 = .ok (.bipush 11, 2) := by decide +kernel
theorem d_M_arithmetic_113 : decode prog_14_method_71_code 113 = .ok (.goto 17, 3) := by decide +kernel
theorem d_M_arithmetic_83 : decode prog_14_method_71_code 83 = .ok (.bipush 11, 2) := by decide +kernel
theorem d_M_arithmetic_85 : decode prog_14_method_71_code 85 = .ok (.ireturn, 1) := by decide +kernel
theorem d_M_arithmetic_47 : decode prog_14_method_71_code 47 = .ok (.istore 8, 2) := by decide +kernel
theorem d_M_arithmetic_49 : decode prog_14_method_71_code 49 = .ok (.iload 8, 2) := by decide +kernel
theorem d_M_arithmetic_51 : decode prog_14_method_71_code 51 = .ok (.ifCond .ne 16, 3) := by decide +kernel
theorem d_M_arithmetic_54 : decode prog_14_method_71_code 54 = .ok (.aload_n 0, 1) := by decide +kernel
theorem d_M_arithmetic_55 : decode prog_14_method_71_code 55 = .ok (.getfield 89, 3) := by decide +kernel
theorem d_M_arithmetic_58 : decode prog_14_method_71_code 58 = .ok (.iload 6, 2) := by decide +kernel
theorem d_M_arithmetic_60 : decode prog_14_method_71_code 60 = .ok (.baload, 1) := by decide +kernel
theorem d_M_arithmetic_61 : decode prog_14_method_71_code 61 = .ok (.ifCond .ne 6, 3) := by decide +kernel
theorem d_M_arithmetic_64 : decode prog_14_method_71_code 64 = .ok (.bipush 10, 2) := by decide +kernel
theorem d_M_arithmetic_66 : decode prog_14_method_71_code 66 = .ok (.ireturn, 1) := by decide +kernel
theorem d_M_arithmetic_46 : decode prog_14_method_71_code 46 = .ok (.iconst 0, 1) := by decide +kernel
theorem d_M_arithmetic_0 : decode prog_14_method_71_code 0 = .ok (.lload_n 1, 1) := by decide +kernel
theorem d_M_arithmetic_1 : decode prog_14_method_71_code 1 = .ok (.invokestatic 308, 3) := by decide +kernel
theorem d_M_arithmetic_4 : decode prog_14_method_71_code 4 = .ok (.istore_n 3, 1) := by decide +kernel
theorem d_M_arithmetic_5 : decode prog_14_method_71_code 5 = .ok (.iload_n 3, 1) := by decide +kernel
theorem d_M_arithmetic_6 : decode prog_14_method_71_code 6 = .ok (.invokestatic 312, 3) := by decide +kernel
theorem d_M_arithmetic_9 : decode prog_14_method_71_code 9 = .ok (.istore 4, 2) := by decide +kernel
theorem d_M_arithmetic_11 : decode prog_14_method_71_code 11 = .ok (.iload_n 3, 1) := by decide +kernel
theorem d_M_arithmetic_12 : decode prog_14_method_71_code 12 = .ok (.iconst 4, 1) := by decide +kernel
theorem d_M_arithmetic_13 : decode prog_14_method_71_code 13 = .ok (.ishr, 1) := by decide +kernel
theorem d_M_arithmetic_14 : decode prog_14_method_71_code 14 = .ok (.istore 5, 2) := by decide +kernel
theorem d_M_arithmetic_16 : decode prog_14_method_71_code 16 = .ok (.lload_n 1, 1) := by decide +kernel
theorem d_M_arithmetic_17 : decode prog_14_method_71_code 17 = .ok (.invokestatic 315, 3) := by decide +kernel
theorem d_M_arithmetic_20 : decode prog_14_method_71_code 20 = .ok (.istore 6, 2) := by decide +kernel
theorem d_M_arithmetic_22 : decode prog_14_method_71_code 22 = .ok (.iload_n 3, 1) := by decide +kernel
theorem d_M_arithmetic_23 : decode prog_14_method_71_code 23 = .ok (.invokestatic 339, 3) := by decide +kernel
theorem d_M_arithmetic_26 : decode prog_14_method_71_code 26 = .ok (.istore 7, 2) := by decide +kernel
theorem d_M_arithmetic_28 : decode prog_14_method_71_code 28 = .ok (.iload 4, 2) := by decide +kernel
theorem d_M_arithmetic_30 : decode prog_14_method_71_code 30 = .ok (.bipush 6, 2) := by decide +kernel
theorem d_M_arithmetic_32 : decode prog_14_method_71_code 32 = .ok (.if_icmp .ne 14, 3) := by decide +kernel
theorem d_M_arithmetic_35 : decode prog_14_method_71_code 35 = .ok (.iload 5, 2) := by decide +kernel
theorem d_M_arithmetic_37 : decode prog_14_method_71_code 37 = .ok (.bipush 11, 2) := by decide +kernel
theorem d_M_arithmetic_39 : decode prog_14_method_71_code 39 = .ok (.if_icmp .ne 7, 3) := by decide +kernel
theorem d_M_arithmetic_42 : decode prog_14_method_71_code 42 = .ok (.iconst 1, 1) := by decide +kernel
theorem d_M_arithmetic_43 : decode prog_14_method_71_code 43 = .ok (.goto 4, 3) := by decide +kernel
abbrev y_M_arithmetic : MethodName := ⟨"FilterGuardModel", "arithmetic", "(J)I"⟩
def rm_M_arithmetic : Room := { frames := 9, cells := 0, slots := 0, locals := 218 }
abbrev q_M_arithmetic (D : va_G) (ad : Nat → Nat → Nat) (ca : Nat → ClassId) (N : Nat → Nat) (M0 MZ : me_M) (RZ : Int32) (A : Nat → Prop) : Array Value → Jvm.State → Outcome → Jvm.State → Prop := va_Qi (fun r (_ : Unit) => r = RZ ∧ me_wf N MZ ∧ me_kp M0 MZ) (fg_B D A (fun _ => me_W ad ca MZ) (fun _ => [])) A
set_option maxHeartbeats 4000000 in
set_option maxRecDepth 100000 in
theorem c_M_arithmetic (l : Launch) (D : va_G) (ad : Nat → Nat → Nat) (ca : Nat → ClassId) (N : Nat → Nat) (M0 MZ : me_M) (RZ : Int32) (j0 : Nat) (x1 : Int64) (h : f_M_arithmetic M0 j0 x1 = (some (MZ, RZ))) (hwf : me_wf N M0) (hj0 : j0 < N 1) (sz : Nat) : Met l y_M_arithmetic (fg_w y_M_arithmetic prog_14_method_71_code 10 (some .int)) rm_M_arithmetic (va_Pc [.ref (ad 1 j0), .long x1] (fz_P D (me_T ca) (me_W ad ca M0) sz)) (q_M_arithmetic D ad ca N M0 MZ RZ (va_A (me_W ad ca M0) sz)) rm_M_arithmetic.cells rm_M_arithmetic.slots (va_A (me_W ad ca M0) sz) := by
  refine fz_enter (fun A => q_M_arithmetic D ad ca N M0 MZ RZ A) (by decide +kernel) (Nat.le_of_ble_eq_true rfl) ?_
  intro p e s m below meth c ls A hx hb hml hown hts hr hlocks hin hP hK hD hS hA hX hl hz
  have hl : lv_has ls 10 [(0, .ref (ad 1 j0)), (1, .long x1)] := hl
  unfold f_M_arithmetic at h
  have hkp : me_kp M0 M0 := me_kp.rf
  have hkb := hkp
  have b_266 : ∀ (M : me_M) (y5 : Int32) (y6 : Int32) (y7 : Int32) (y9 : Int32) (H : Heap) (locs : List Loc) (ls : Array Slot), f_M_arithmetic_b266 j0 M y5 y6 y7 y9 = (some (MZ, RZ)) → (y7 = 1 ∨ y7 = 0) → me_wf N M → me_kp M0 M → va_P D classes (me_W ad ca M) H → va_D A (me_W ad ca M) → va_S A s.heap H locs → lv_has ls 10 [(0, .ref (ad 1 j0)), (5, .int y5), (6, .int y6), (7, .int y7), (9, .int y9)] → W p l e rm_M_arithmetic s m [.ref (ad 1 j0), .long x1].toArray below meth c H locs 0 0 (MQ below (q_M_arithmetic D ad ca N M0 MZ RZ A) [.ref (ad 1 j0), .long x1].toArray s rm_M_arithmetic.cells rm_M_arithmetic.slots A) (F0 m 266 ls []) := by
    intro M y5 y6 y7 y9 H locs ls h zy7 hwf hkp hP hD hS hl
    unfold f_M_arithmetic_b266 at h
    have hkb := hkp
    refine lv_iload hx hb d_M_arithmetic_266 (lv_at hl 3 rfl) ?_
    refine lv_if_ne (tgt := 277) hx hb d_M_arithmetic_268 (by decide) (fun c1 => ?_) (fun c1 => ?_)
    · have h := if_f c1 h
      refine lv_bipush (v := 11) hx hb d_M_arithmetic_277 (by decide) ?_
      refine lv_goto (tgt := 301) hx hb d_M_arithmetic_279 (by decide) ?_
      exact me_reti (me_kp M0) h hx hb hr hlocks hwf hkp hP hK hD hS d_M_arithmetic_301
    have h := if_t c1 h
    refine lv_iload hx hb d_M_arithmetic_271 (lv_at hl 1 rfl) ?_
    refine lv_iconst (v := 1) hx hb d_M_arithmetic_273 (by decide) ?_
    refine lv_icmp_le (tgt := 282) hx hb d_M_arithmetic_274 (by decide) (fun c2 => ?_) (fun c2 => ?_)
    · have h := if_t c2 h
      refine lv_aload_n hx hb d_M_arithmetic_282 rfl (lv_at hl 0 rfl) ?_
      refine lv_iload hx hb d_M_arithmetic_283 (lv_at hl 2 rfl) ?_
      refine lv_iload hx hb d_M_arithmetic_285 (lv_at hl 4 rfl) ?_
      refine lv_iload hx hb d_M_arithmetic_287 (lv_at hl 1 rfl) ?_
      refine lv_iconst (v := 1) hx hb d_M_arithmetic_289 (by decide) ?_
      refine lv_icmp_ne (tgt := 297) hx hb d_M_arithmetic_290 (by decide) (fun c3 => ?_) (fun c3 => ?_)
      · have h := if_f c3 h
        refine lv_iconst (v := 0) hx hb d_M_arithmetic_297 (by decide) ?_
        obtain ⟨M4, r5, eM4, h⟩ := b2_ob h
        refine me_theni0 (M1 := M4) (me_runV (C := "FilterGuardModel") (As := [.int y6, .int y9, .int 0]) (rest := []) ⟨hx, hb, hml, hown, hts⟩ (c_M_pointers l D ad ca N M M4 r5 j0 y6 y9 (0 : Int32) eM4 hwf hj0 (by decide) _) rfl (by show fg_nm y_M_pointers 3; decide +kernel) u_2383 u_2385 u_164 u_192 u_2386 ⟨Nat.le_of_ble_eq_true rfl, Nat.le_of_ble_eq_true rfl⟩ hX hz hK hP hD hwf hS hA hj0 (by decide) rfl rfl rfl hl.1 (Nat.le_of_ble_eq_true rfl) d_M_arithmetic_298 ⟨Nat.le_of_ble_eq_true rfl, Nat.le_of_ble_eq_true rfl⟩) hP hD hK hS hA rfl rfl (fun H locs hw hP hD hS => ?_)
        obtain ⟨hwf, hk9⟩ := hw
        have hkp := hkp.tr hk9
        exact me_reti (me_kp M0) h hx hb hr hlocks hwf hkp hP hK hD hS d_M_arithmetic_301
      have h := if_t c3 h
      refine lv_iconst (v := 1) hx hb d_M_arithmetic_293 (by decide) ?_
      refine lv_goto (tgt := 298) hx hb d_M_arithmetic_294 (by decide) ?_
      obtain ⟨M6, r7, eM6, h⟩ := b2_ob h
      refine me_theni0 (M1 := M6) (me_runV (C := "FilterGuardModel") (As := [.int y6, .int y9, .int 1]) (rest := []) ⟨hx, hb, hml, hown, hts⟩ (c_M_pointers l D ad ca N M M6 r7 j0 y6 y9 (1 : Int32) eM6 hwf hj0 (by decide) _) rfl (by show fg_nm y_M_pointers 3; decide +kernel) u_2383 u_2385 u_164 u_192 u_2386 ⟨Nat.le_of_ble_eq_true rfl, Nat.le_of_ble_eq_true rfl⟩ hX hz hK hP hD hwf hS hA hj0 (by decide) rfl rfl rfl hl.1 (Nat.le_of_ble_eq_true rfl) d_M_arithmetic_298 ⟨Nat.le_of_ble_eq_true rfl, Nat.le_of_ble_eq_true rfl⟩) hP hD hK hS hA rfl rfl (fun H locs hw hP hD hS => ?_)
      obtain ⟨hwf, hk9⟩ := hw
      have hkp := hkp.tr hk9
      exact me_reti (me_kp M0) h hx hb hr hlocks hwf hkp hP hK hD hS d_M_arithmetic_301
    have h := if_f c2 h
    refine lv_bipush (v := 11) hx hb d_M_arithmetic_277 (by decide) ?_
    refine lv_goto (tgt := 301) hx hb d_M_arithmetic_279 (by decide) ?_
    exact me_reti (me_kp M0) h hx hb hr hlocks hwf hkp hP hK hD hS d_M_arithmetic_301
  have b_241 : ∀ (M : me_M) (y6 : Int32) (y7 : Int32) (y9 : Int32) (s0 : Int32) (s1 : Int32) (s2 : Int32) (s3 : Nat) (H : Heap) (locs : List Loc) (ls : Array Slot), f_M_arithmetic_b241 j0 M y6 y7 y9 s0 s1 s2 s3 = (some (MZ, RZ)) → (y7 = 1 ∨ y7 = 0) → (s3 < N 1) → me_wf N M → me_kp M0 M → va_P D classes (me_W ad ca M) H → va_D A (me_W ad ca M) → va_S A s.heap H locs → lv_has ls 10 [(0, .ref (ad 1 j0)), (6, .int y6), (7, .int y7), (9, .int y9)] → W p l e rm_M_arithmetic s m [.ref (ad 1 j0), .long x1].toArray below meth c H locs 0 0 (MQ below (q_M_arithmetic D ad ca N M0 MZ RZ A) [.ref (ad 1 j0), .long x1].toArray s rm_M_arithmetic.cells rm_M_arithmetic.slots A) (F0 m 241 ls [.int s0, .int s1, .int s2, .ref (ad 1 s3)]) := by
    intro M y6 y7 y9 s0 s1 s2 s3 H locs ls h zy7 hs3 hwf hkp hP hD hS hl
    unfold f_M_arithmetic_b241 at h
    have hkb := hkp
    refine lv_iload hx hb d_M_arithmetic_241 (lv_at hl 3 rfl) ?_
    refine lv_iload hx hb d_M_arithmetic_243 (lv_at hl 2 rfl) ?_
    obtain ⟨M8, eM8, h⟩ := bd_ob h
    refine me_thenv0 (M1 := M8) (me_runV (C := "FilterGuardModel") (As := [.int s2, .int s1, .int s0, .int y9, .int y7]) (rest := []) ⟨hx, hb, hml, hown, hts⟩ (c_M_operate l D ad ca N M M8 s3 s2 s1 s0 y9 y7 eM8 hwf hs3 zy7 _) rfl (by show fg_nm y_M_operate 5; decide +kernel) u_2320 u_2322 u_151 u_192 u_2323 ⟨Nat.le_of_ble_eq_true rfl, Nat.le_of_ble_eq_true rfl⟩ hX hz hK hP hD hwf hS hA hs3 (by decide) rfl rfl rfl hl.1 (Nat.le_of_ble_eq_true rfl) d_M_arithmetic_245 ⟨Nat.le_of_ble_eq_true rfl, Nat.le_of_ble_eq_true rfl⟩) hP hD hK hS hA rfl rfl (fun H locs hw hP hD hS => ?_)
    obtain ⟨hwf, hk9⟩ := hw
    have hkp := hkp.tr hk9
    refine lv_aload_n hx hb d_M_arithmetic_248 rfl (lv_at hl 0 rfl) ?_
    refine lv_iload hx hb d_M_arithmetic_249 (lv_at hl 1 rfl) ?_
    refine lv_lconst (v := 0) hx hb d_M_arithmetic_251 (by decide) ?_
    obtain ⟨M9, eM9, h⟩ := bd_ob h
    refine me_thenv0 (M1 := M9) (me_runV (C := "FilterGuardModel") (As := [.int y6, .long 0]) (rest := []) ⟨hx, hb, hml, hown, hts⟩ (c_M_toNumber l D ad ca N M8 M9 j0 y6 (0 : Int64) eM9 hwf hj0 _) rfl (by show fg_nm y_M_toNumber 2; decide +kernel) u_2112 u_2114 u_107 u_192 u_2115 ⟨Nat.le_of_ble_eq_true rfl, Nat.le_of_ble_eq_true rfl⟩ hX hz hK hP hD hwf hS hA hj0 (by decide) rfl rfl rfl hl.1 (Nat.le_of_ble_eq_true rfl) d_M_arithmetic_252 ⟨Nat.le_of_ble_eq_true rfl, Nat.le_of_ble_eq_true rfl⟩) hP hD hK hS hA rfl rfl (fun H locs hw hP hD hS => ?_)
    obtain ⟨hwf, hk9⟩ := hw
    have hkp := hkp.tr hk9
    refine lv_aload_n hx hb d_M_arithmetic_255 rfl (lv_at hl 0 rfl) ?_
    refine lv_sipush (v := 30080) hx hb d_M_arithmetic_256 (by decide) ?_
    refine lv_iload hx hb d_M_arithmetic_259 (lv_at hl 1 rfl) ?_
    obtain ⟨M10, eM10, h⟩ := bd_ob h
    refine me_thenv0 (M1 := M10) (me_runV (C := "FilterGuardModel") (As := [.int 30080, .int y6]) (rest := []) ⟨hx, hb, hml, hown, hts⟩ (c_M_copyNumber l D ad ca N M9 M10 j0 (30080 : Int32) y6 eM10 hwf hj0 _) rfl (by show fg_nm y_M_copyNumber 2; decide +kernel) u_2096 u_2098 u_103 u_192 u_2099 ⟨Nat.le_of_ble_eq_true rfl, Nat.le_of_ble_eq_true rfl⟩ hX hz hK hP hD hwf hS hA hj0 (by decide) rfl rfl rfl hl.1 (Nat.le_of_ble_eq_true rfl) d_M_arithmetic_261 ⟨Nat.le_of_ble_eq_true rfl, Nat.le_of_ble_eq_true rfl⟩) hP hD hK hS hA rfl rfl (fun H locs hw hP hD hS => ?_)
    obtain ⟨hwf, hk9⟩ := hw
    have hkp := hkp.tr hk9
    refine lv_iconst (v := 0) hx hb d_M_arithmetic_264 (by decide) ?_
    exact me_reti (me_kp M0) h hx hb hr hlocks hwf hkp hP hK hD hS d_M_arithmetic_265
  have b_220 : ∀ (M : me_M) (y5 : Int32) (y6 : Int32) (y7 : Int32) (y8 : Int32) (y9 : Int32) (H : Heap) (locs : List Loc) (ls : Array Slot), f_M_arithmetic_b220 j0 M y5 y6 y7 y8 y9 = (some (MZ, RZ)) → (y7 = 1 ∨ y7 = 0) → (y8 = 1 ∨ y8 = 0) → me_wf N M → me_kp M0 M → va_P D classes (me_W ad ca M) H → va_D A (me_W ad ca M) → va_S A s.heap H locs → lv_has ls 10 [(0, .ref (ad 1 j0)), (5, .int y5), (6, .int y6), (7, .int y7), (8, .int y8), (9, .int y9)] → W p l e rm_M_arithmetic s m [.ref (ad 1 j0), .long x1].toArray below meth c H locs 0 0 (MQ below (q_M_arithmetic D ad ca N M0 MZ RZ A) [.ref (ad 1 j0), .long x1].toArray s rm_M_arithmetic.cells rm_M_arithmetic.slots A) (F0 m 220 ls []) := by
    intro M y5 y6 y7 y8 y9 H locs ls h zy7 zy8 hwf hkp hP hD hS hl
    unfold f_M_arithmetic_b220 at h
    have hkb := hkp
    refine lv_aload_n hx hb d_M_arithmetic_220 rfl (lv_at hl 0 rfl) ?_
    refine lv_sipush (v := 30080) hx hb d_M_arithmetic_221 (by decide) ?_
    refine lv_iload hx hb d_M_arithmetic_224 (lv_at hl 1 rfl) ?_
    obtain ⟨r11, er11, h⟩ := bd_ob h
    refine me_pani' (r0 := r11) (fg_runS (wc := []) (tc := []) (A2 := A) (As := [.int y5]) (rest := [.int 30080, .ref (ad 1 j0)]) ⟨hx, hb, hml, hown, hts⟩ (c_M_operationOf l D r11 y5 er11 _) (by show fg_nm y_M_operationOf 1; decide +kernel) u_2380 u_2381 u_192 u_2382 ⟨Nat.le_of_ble_eq_true rfl, Nat.le_of_ble_eq_true rfl⟩ hX me_P0 (hK.sub (tys' := []) [] rfl) me_D0 rfl hl.1 (Nat.le_of_ble_eq_true rfl) d_M_arithmetic_226 ⟨Nat.le_of_ble_eq_true rfl, Nat.le_of_ble_eq_true rfl⟩) hP hD hK hS hA rfl rfl (fun H locs hw hP hD hS => ?_)
    refine lv_iload hx hb d_M_arithmetic_229 (lv_at hl 4 rfl) ?_
    refine lv_if_eq (tgt := 239) hx hb d_M_arithmetic_231 (by decide) (fun c12 => ?_) (fun c12 => ?_)
    · have h := if_t c12 h
      refine lv_iload hx hb d_M_arithmetic_239 (lv_at hl 2 rfl) ?_
      exact b_241 M y6 y7 y9 y6 r11 (30080 : Int32) j0 _ _ _ h zy7 hj0 hwf hkp hP hD hS (lv_sub hl [0, 2, 3, 5] rfl)
    have h := if_f c12 h
    refine lv_iload hx hb d_M_arithmetic_234 (lv_at hl 5 rfl) ?_
    refine lv_goto (tgt := 241) hx hb d_M_arithmetic_236 (by decide) ?_
    exact b_241 M y6 y7 y9 y9 r11 (30080 : Int32) j0 _ _ _ h zy7 hj0 hwf hkp hP hD hS (lv_sub hl [0, 2, 3, 5] rfl)
  have b_197 : ∀ (M : me_M) (y5 : Int32) (y6 : Int32) (y7 : Int32) (y8 : Int32) (y9 : Int32) (H : Heap) (locs : List Loc) (ls : Array Slot), f_M_arithmetic_b197 j0 M y5 y6 y7 y8 y9 = (some (MZ, RZ)) → (y7 = 1 ∨ y7 = 0) → (y8 = 1 ∨ y8 = 0) → me_wf N M → me_kp M0 M → va_P D classes (me_W ad ca M) H → va_D A (me_W ad ca M) → va_S A s.heap H locs → lv_has ls 10 [(0, .ref (ad 1 j0)), (5, .int y5), (6, .int y6), (7, .int y7), (8, .int y8), (9, .int y9)] → W p l e rm_M_arithmetic s m [.ref (ad 1 j0), .long x1].toArray below meth c H locs 0 0 (MQ below (q_M_arithmetic D ad ca N M0 MZ RZ A) [.ref (ad 1 j0), .long x1].toArray s rm_M_arithmetic.cells rm_M_arithmetic.slots A) (F0 m 197 ls []) := by
    intro M y5 y6 y7 y8 y9 H locs ls h zy7 zy8 hwf hkp hP hD hS hl
    unfold f_M_arithmetic_b197 at h
    have hkb := hkp
    refine lv_aload_n hx hb d_M_arithmetic_197 rfl (lv_at hl 0 rfl) ?_
    refine lv_iload hx hb d_M_arithmetic_198 (lv_at hl 5 rfl) ?_
    obtain ⟨M13, r14, eM13, h⟩ := b2_ob h
    refine me_theni0 (M1 := M13) (me_runV (C := "FilterGuardModel") (As := [.int y9]) (rest := []) ⟨hx, hb, hml, hown, hts⟩ (c_M_isNumber l D ad ca N M M13 r14 j0 y9 eM13 hwf hj0 _) rfl (by show fg_nm y_M_isNumber 1; decide +kernel) u_2187 u_2189 u_121 u_192 u_2190 ⟨Nat.le_of_ble_eq_true rfl, Nat.le_of_ble_eq_true rfl⟩ hX hz hK hP hD hwf hS hA hj0 (by decide) rfl rfl rfl hl.1 (Nat.le_of_ble_eq_true rfl) d_M_arithmetic_200 ⟨Nat.le_of_ble_eq_true rfl, Nat.le_of_ble_eq_true rfl⟩) hP hD hK hS hA rfl rfl (fun H locs hw hP hD hS => ?_)
    obtain ⟨hwf, hk9, zr14⟩ := hw
    have hkp := hkp.tr hk9
    refine lv_if_eq (tgt := 266) hx hb d_M_arithmetic_203 (by decide) (fun c15 => ?_) (fun c15 => ?_)
    · have h := if_t c15 h
      exact b_266 M13 y5 y6 y7 y9 _ _ _ h zy7 hwf hkp hP hD hS (lv_sub hl [0, 1, 2, 3, 5] rfl)
    have h := if_f c15 h
    refine lv_iload hx hb d_M_arithmetic_206 (lv_at hl 4 rfl) ?_
    refine lv_if_ne (tgt := 220) hx hb d_M_arithmetic_208 (by decide) (fun c16 => ?_) (fun c16 => ?_)
    · have h := if_f c16 h
      exact b_220 M13 y5 y6 y7 y8 y9 _ _ _ h zy7 zy8 hwf hkp hP hD hS (lv_sub hl [0, 1, 2, 3, 4, 5] rfl)
    have h := if_t c16 h
    refine lv_aload_n hx hb d_M_arithmetic_211 rfl (lv_at hl 0 rfl) ?_
    refine lv_iload hx hb d_M_arithmetic_212 (lv_at hl 2 rfl) ?_
    obtain ⟨M17, r18, eM17, h⟩ := b2_ob h
    refine me_theni0 (M1 := M17) (me_runV (C := "FilterGuardModel") (As := [.int y6]) (rest := []) ⟨hx, hb, hml, hown, hts⟩ (c_M_isNumber l D ad ca N M13 M17 r18 j0 y6 eM17 hwf hj0 _) rfl (by show fg_nm y_M_isNumber 1; decide +kernel) u_2187 u_2189 u_121 u_192 u_2190 ⟨Nat.le_of_ble_eq_true rfl, Nat.le_of_ble_eq_true rfl⟩ hX hz hK hP hD hwf hS hA hj0 (by decide) rfl rfl rfl hl.1 (Nat.le_of_ble_eq_true rfl) d_M_arithmetic_214 ⟨Nat.le_of_ble_eq_true rfl, Nat.le_of_ble_eq_true rfl⟩) hP hD hK hS hA rfl rfl (fun H locs hw hP hD hS => ?_)
    obtain ⟨hwf, hk9, zr18⟩ := hw
    have hkp := hkp.tr hk9
    refine lv_if_eq (tgt := 266) hx hb d_M_arithmetic_217 (by decide) (fun c19 => ?_) (fun c19 => ?_)
    · have h := if_t c19 h
      exact b_266 M17 y5 y6 y7 y9 _ _ _ h zy7 hwf hkp hP hD hS (lv_sub hl [0, 1, 2, 3, 5] rfl)
    have h := if_f c19 h
    exact b_220 M17 y5 y6 y7 y8 y9 _ _ _ h zy7 zy8 hwf hkp hP hD hS (lv_sub hl [0, 1, 2, 3, 4, 5] rfl)
  have b_130 : ∀ (M : me_M) (y4 : Int32) (y6 : Int32) (y7 : Int32) (s0 : Int32) (s1 : Int32) (s2 : Nat) (H : Heap) (locs : List Loc) (ls : Array Slot), f_M_arithmetic_b130 M y4 y6 y7 s0 s1 s2 = (some (MZ, RZ)) → (y7 = 1 ∨ y7 = 0) → (s2 < N 1) → me_wf N M → me_kp M0 M → va_P D classes (me_W ad ca M) H → va_D A (me_W ad ca M) → va_S A s.heap H locs → lv_has ls 10 [(4, .int y4), (6, .int y6), (7, .int y7)] → W p l e rm_M_arithmetic s m [.ref (ad 1 j0), .long x1].toArray below meth c H locs 0 0 (MQ below (q_M_arithmetic D ad ca N M0 MZ RZ A) [.ref (ad 1 j0), .long x1].toArray s rm_M_arithmetic.cells rm_M_arithmetic.slots A) (F0 m 130 ls [.int s0, .int s1, .ref (ad 1 s2)]) := by
    intro M y4 y6 y7 s0 s1 s2 H locs ls h zy7 hs2 hwf hkp hP hD hS hl
    unfold f_M_arithmetic_b130 at h
    have hkb := hkp
    refine lv_iload hx hb d_M_arithmetic_130 (lv_at hl 1 rfl) ?_
    refine lv_sipush (v := 30078) hx hb d_M_arithmetic_132 (by decide) ?_
    refine lv_iload hx hb d_M_arithmetic_135 (lv_at hl 0 rfl) ?_
    refine lv_bipush (v := 7) hx hb d_M_arithmetic_137 (by decide) ?_
    refine lv_icmp_ne (tgt := 151) hx hb d_M_arithmetic_139 (by decide) (fun c20 => ?_) (fun c20 => ?_)
    · have h := if_f c20 h
      refine lv_iconst (v := 0) hx hb d_M_arithmetic_151 (by decide) ?_
      obtain ⟨M21, eM21, h⟩ := bd_ob h
      refine me_thenv0 (M1 := M21) (me_runV (C := "FilterGuardModel") (As := [.int s1, .int s0, .int y6, .int 30078, .int 0]) (rest := []) ⟨hx, hb, hml, hown, hts⟩ (c_M_operate l D ad ca N M M21 s2 s1 s0 y6 (30078 : Int32) (0 : Int32) eM21 hwf hs2 (by decide) _) rfl (by show fg_nm y_M_operate 5; decide +kernel) u_2320 u_2322 u_151 u_192 u_2323 ⟨Nat.le_of_ble_eq_true rfl, Nat.le_of_ble_eq_true rfl⟩ hX hz hK hP hD hwf hS hA hs2 (by decide) rfl rfl rfl hl.1 (Nat.le_of_ble_eq_true rfl) d_M_arithmetic_152 ⟨Nat.le_of_ble_eq_true rfl, Nat.le_of_ble_eq_true rfl⟩) hP hD hK hS hA rfl rfl (fun H locs hw hP hD hS => ?_)
      obtain ⟨hwf, hk9⟩ := hw
      have hkp := hkp.tr hk9
      refine lv_iconst (v := 0) hx hb d_M_arithmetic_155 (by decide) ?_
      exact me_reti (me_kp M0) h hx hb hr hlocks hwf hkp hP hK hD hS d_M_arithmetic_156
    have h := if_t c20 h
    refine lv_iload hx hb d_M_arithmetic_142 (lv_at hl 2 rfl) ?_
    refine lv_if_eq (tgt := 151) hx hb d_M_arithmetic_144 (by decide) (fun c22 => ?_) (fun c22 => ?_)
    · have h := if_t c22 h
      refine lv_iconst (v := 0) hx hb d_M_arithmetic_151 (by decide) ?_
      obtain ⟨M23, eM23, h⟩ := bd_ob h
      refine me_thenv0 (M1 := M23) (me_runV (C := "FilterGuardModel") (As := [.int s1, .int s0, .int y6, .int 30078, .int 0]) (rest := []) ⟨hx, hb, hml, hown, hts⟩ (c_M_operate l D ad ca N M M23 s2 s1 s0 y6 (30078 : Int32) (0 : Int32) eM23 hwf hs2 (by decide) _) rfl (by show fg_nm y_M_operate 5; decide +kernel) u_2320 u_2322 u_151 u_192 u_2323 ⟨Nat.le_of_ble_eq_true rfl, Nat.le_of_ble_eq_true rfl⟩ hX hz hK hP hD hwf hS hA hs2 (by decide) rfl rfl rfl hl.1 (Nat.le_of_ble_eq_true rfl) d_M_arithmetic_152 ⟨Nat.le_of_ble_eq_true rfl, Nat.le_of_ble_eq_true rfl⟩) hP hD hK hS hA rfl rfl (fun H locs hw hP hD hS => ?_)
      obtain ⟨hwf, hk9⟩ := hw
      have hkp := hkp.tr hk9
      refine lv_iconst (v := 0) hx hb d_M_arithmetic_155 (by decide) ?_
      exact me_reti (me_kp M0) h hx hb hr hlocks hwf hkp hP hK hD hS d_M_arithmetic_156
    have h := if_f c22 h
    refine lv_iconst (v := 1) hx hb d_M_arithmetic_147 (by decide) ?_
    refine lv_goto (tgt := 152) hx hb d_M_arithmetic_148 (by decide) ?_
    obtain ⟨M24, eM24, h⟩ := bd_ob h
    refine me_thenv0 (M1 := M24) (me_runV (C := "FilterGuardModel") (As := [.int s1, .int s0, .int y6, .int 30078, .int 1]) (rest := []) ⟨hx, hb, hml, hown, hts⟩ (c_M_operate l D ad ca N M M24 s2 s1 s0 y6 (30078 : Int32) (1 : Int32) eM24 hwf hs2 (by decide) _) rfl (by show fg_nm y_M_operate 5; decide +kernel) u_2320 u_2322 u_151 u_192 u_2323 ⟨Nat.le_of_ble_eq_true rfl, Nat.le_of_ble_eq_true rfl⟩ hX hz hK hP hD hwf hS hA hs2 (by decide) rfl rfl rfl hl.1 (Nat.le_of_ble_eq_true rfl) d_M_arithmetic_152 ⟨Nat.le_of_ble_eq_true rfl, Nat.le_of_ble_eq_true rfl⟩) hP hD hK hS hA rfl rfl (fun H locs hw hP hD hS => ?_)
    obtain ⟨hwf, hk9⟩ := hw
    have hkp := hkp.tr hk9
    refine lv_iconst (v := 0) hx hb d_M_arithmetic_155 (by decide) ?_
    exact me_reti (me_kp M0) h hx hb hr hlocks hwf hkp hP hK hD hS d_M_arithmetic_156
  have b_67 : ∀ (M : me_M) (y4 : Int32) (y5 : Int32) (y6 : Int32) (y7 : Int32) (y8 : Int32) (H : Heap) (locs : List Loc) (ls : Array Slot), f_M_arithmetic_b67 j0 x1 M y4 y5 y6 y7 y8 = (some (MZ, RZ)) → (y7 = 1 ∨ y7 = 0) → (y8 = 1 ∨ y8 = 0) → me_wf N M → me_kp M0 M → va_P D classes (me_W ad ca M) H → va_D A (me_W ad ca M) → va_S A s.heap H locs → lv_has ls 10 [(0, .ref (ad 1 j0)), (1, .long x1), (4, .int y4), (5, .int y5), (6, .int y6), (7, .int y7), (8, .int y8)] → W p l e rm_M_arithmetic s m [.ref (ad 1 j0), .long x1].toArray below meth c H locs 0 0 (MQ below (q_M_arithmetic D ad ca N M0 MZ RZ A) [.ref (ad 1 j0), .long x1].toArray s rm_M_arithmetic.cells rm_M_arithmetic.slots A) (F0 m 67 ls []) := by
    intro M y4 y5 y6 y7 y8 H locs ls h zy7 zy8 hwf hkp hP hD hS hl
    unfold f_M_arithmetic_b67 at h
    have hkb := hkp
    refine lv_iload hx hb d_M_arithmetic_67 (lv_at hl 2 rfl) ?_
    refine lv_bipush (v := 6) hx hb d_M_arithmetic_69 (by decide) ?_
    refine lv_icmp_eq (tgt := 157) hx hb d_M_arithmetic_71 (by decide) (fun c25 => ?_) (fun c25 => ?_)
    · have h := if_t c25 h
      refine lv_aload_n hx hb d_M_arithmetic_157 rfl (lv_at hl 0 rfl) ?_
      refine lv_lload_n hx hb d_M_arithmetic_158 rfl (lv_at hl 1 rfl) ?_
      obtain ⟨M26, r27, eM26, h⟩ := b2_ob h
      refine me_theni0 (M1 := M26) (me_runV (C := "FilterGuardModel") (As := [.long x1]) (rest := []) ⟨hx, hb, hml, hown, hts⟩ (c_M_sourceOf l D ad ca N M M26 r27 j0 x1 eM26 hwf hj0 _) rfl (by show fg_nm y_M_sourceOf 1; decide +kernel) u_2215 u_2217 u_128 u_192 u_2218 ⟨Nat.le_of_ble_eq_true rfl, Nat.le_of_ble_eq_true rfl⟩ hX hz hK hP hD hwf hS hA hj0 (by decide) rfl rfl rfl hl.1 (Nat.le_of_ble_eq_true rfl) d_M_arithmetic_159 ⟨Nat.le_of_ble_eq_true rfl, Nat.le_of_ble_eq_true rfl⟩) hP hD hK hS hA rfl rfl (fun H locs hw hP hD hS => ?_)
      obtain ⟨hwf, hk9⟩ := hw
      have hkp := hkp.tr hk9
      refine lv_istore (lv' := [(9, .int r27), (0, .ref (ad 1 j0)), (1, .long x1), (4, .int y4), (5, .int y5), (6, .int y6), (7, .int y7), (8, .int y8)]) hx hb d_M_arithmetic_162 hl (by decide) rfl (fun ls hl => ?_)
      refine lv_aload_n hx hb d_M_arithmetic_164 rfl (lv_at hl 1 rfl) ?_
      refine g_M_47 hx hb hts hown hK hP hwf hj0 (hts _ u_1788) d_M_arithmetic_165 ?_
      obtain ⟨j28, e29, h⟩ := bd_ob h
      have hj28 : j28 < N 14 := (hwf.2.1 1 j0 47 _ (kp_r hkb hkp e29) (by decide) hj0)
      refine me_opt (j := j28) (kp_r hkb hkp e29) ?_
      refine lv_iload hx hb d_M_arithmetic_168 (lv_at hl 0 rfl) ?_
      obtain ⟨g30, h⟩ := gd_ob h
      refine me_bald hx hb hK hP hwf hj28 (kp_z hkb.z hkp.z g30) d_M_arithmetic_170 ?_
      refine lv_if_ne (tgt := 177) hx hb d_M_arithmetic_171 (by decide) (fun c31 => ?_) (fun c31 => ?_)
      · have h := if_f c31 h
        refine lv_iload hx hb d_M_arithmetic_177 (lv_at hl 7 rfl) ?_
        refine lv_if_eq (tgt := 197) hx hb d_M_arithmetic_179 (by decide) (fun c32 => ?_) (fun c32 => ?_)
        · have h := if_t c32 h
          exact b_197 M26 y5 y6 y7 y8 r27 _ _ _ h zy7 zy8 hwf hkp hP hD hS (lv_sub hl [1, 4, 5, 6, 7, 0] rfl)
        have h := if_f c32 h
        refine lv_iload hx hb d_M_arithmetic_182 (lv_at hl 6 rfl) ?_
        refine lv_if_ne (tgt := 197) hx hb d_M_arithmetic_184 (by decide) (fun c33 => ?_) (fun c33 => ?_)
        · have h := if_f c33 h
          exact b_197 M26 y5 y6 y7 y8 r27 _ _ _ h zy7 zy8 hwf hkp hP hD hS (lv_sub hl [1, 4, 5, 6, 7, 0] rfl)
        have h := if_t c33 h
        refine lv_aload_n hx hb d_M_arithmetic_187 rfl (lv_at hl 1 rfl) ?_
        refine lv_iload hx hb d_M_arithmetic_188 (lv_at hl 0 rfl) ?_
        refine lv_iload hx hb d_M_arithmetic_190 (lv_at hl 5 rfl) ?_
        obtain ⟨M34, eM34, h⟩ := bd_ob h
        refine me_thenv0 (M1 := M34) (me_runV (C := "FilterGuardModel") (As := [.int r27, .int y6]) (rest := []) ⟨hx, hb, hml, hown, hts⟩ (c_M_copyItem l D ad ca N M26 M34 j0 r27 y6 eM34 hwf hj0 _) rfl (by show fg_nm y_M_copyItem 2; decide +kernel) u_2092 u_2094 u_102 u_192 u_2095 ⟨Nat.le_of_ble_eq_true rfl, Nat.le_of_ble_eq_true rfl⟩ hX hz hK hP hD hwf hS hA hj0 (by decide) rfl rfl rfl hl.1 (Nat.le_of_ble_eq_true rfl) d_M_arithmetic_192 ⟨Nat.le_of_ble_eq_true rfl, Nat.le_of_ble_eq_true rfl⟩) hP hD hK hS hA rfl rfl (fun H locs hw hP hD hS => ?_)
        obtain ⟨hwf, hk9⟩ := hw
        have hkp := hkp.tr hk9
        refine lv_iconst (v := 0) hx hb d_M_arithmetic_195 (by decide) ?_
        exact me_reti (me_kp M0) h hx hb hr hlocks hwf hkp hP hK hD hS d_M_arithmetic_196
      have h := if_t c31 h
      refine lv_bipush (v := 10) hx hb d_M_arithmetic_174 (by decide) ?_
      exact me_reti (me_kp M0) h hx hb hr hlocks hwf hkp hP hK hD hS d_M_arithmetic_176
    have h := if_f c25 h
    refine lv_aload_n hx hb d_M_arithmetic_74 rfl (lv_at hl 0 rfl) ?_
    refine lv_iload hx hb d_M_arithmetic_75 (lv_at hl 4 rfl) ?_
    obtain ⟨M35, r36, eM35, h⟩ := b2_ob h
    refine me_theni0 (M1 := M35) (me_runV (C := "FilterGuardModel") (As := [.int y6]) (rest := []) ⟨hx, hb, hml, hown, hts⟩ (c_M_isNumber l D ad ca N M M35 r36 j0 y6 eM35 hwf hj0 _) rfl (by show fg_nm y_M_isNumber 1; decide +kernel) u_2187 u_2189 u_121 u_192 u_2190 ⟨Nat.le_of_ble_eq_true rfl, Nat.le_of_ble_eq_true rfl⟩ hX hz hK hP hD hwf hS hA hj0 (by decide) rfl rfl rfl hl.1 (Nat.le_of_ble_eq_true rfl) d_M_arithmetic_77 ⟨Nat.le_of_ble_eq_true rfl, Nat.le_of_ble_eq_true rfl⟩) hP hD hK hS hA rfl rfl (fun H locs hw hP hD hS => ?_)
    obtain ⟨hwf, hk9, zr36⟩ := hw
    have hkp := hkp.tr hk9
    refine lv_if_ne (tgt := 86) hx hb d_M_arithmetic_80 (by decide) (fun c37 => ?_) (fun c37 => ?_)
    · have h := if_f c37 h
      refine lv_aload_n hx hb d_M_arithmetic_86 rfl (lv_at hl 0 rfl) ?_
      refine lv_sipush (v := 30078) hx hb d_M_arithmetic_87 (by decide) ?_
      refine lv_lload_n hx hb d_M_arithmetic_90 rfl (lv_at hl 1 rfl) ?_
      obtain ⟨r38, er38, h⟩ := bd_ob h
      refine me_pani' (r0 := r38) (fg_runS (wc := []) (tc := []) (A2 := A) (As := [.long x1]) (rest := [.int 30078, .ref (ad 1 j0)]) ⟨hx, hb, hml, hown, hts⟩ (c_M_fieldOf l D r38 x1 er38 _) (by show fg_nm y_M_fieldOf 1; decide +kernel) u_2016 u_2017 u_192 u_2018 ⟨Nat.le_of_ble_eq_true rfl, Nat.le_of_ble_eq_true rfl⟩ hX me_P0 (hK.sub (tys' := []) [] rfl) me_D0 rfl hl.1 (Nat.le_of_ble_eq_true rfl) d_M_arithmetic_91 ⟨Nat.le_of_ble_eq_true rfl, Nat.le_of_ble_eq_true rfl⟩) hP hD hK hS hA rfl rfl (fun H locs hw hP hD hS => ?_)
      refine lv_bipush (v := 8) hx hb d_M_arithmetic_94 (by decide) ?_
      refine lv_idiv hx hb d_M_arithmetic_96 (by decide) ?_
      refine lv_i2l (v := (r38 / 8).toInt64) hx hb d_M_arithmetic_97 rfl ?_
      obtain ⟨M39, eM39, h⟩ := bd_ob h
      refine me_thenv0 (M1 := M39) (me_runV (C := "FilterGuardModel") (As := [.int 30078, .long ((r38 / 8).toInt64)]) (rest := []) ⟨hx, hb, hml, hown, hts⟩ (c_M_toNumber l D ad ca N M35 M39 j0 (30078 : Int32) ((r38 / 8).toInt64) eM39 hwf hj0 _) rfl (by show fg_nm y_M_toNumber 2; decide +kernel) u_2112 u_2114 u_107 u_192 u_2115 ⟨Nat.le_of_ble_eq_true rfl, Nat.le_of_ble_eq_true rfl⟩ hX hz hK hP hD hwf hS hA hj0 (by decide) rfl rfl rfl hl.1 (Nat.le_of_ble_eq_true rfl) d_M_arithmetic_98 ⟨Nat.le_of_ble_eq_true rfl, Nat.le_of_ble_eq_true rfl⟩) hP hD hK hS hA rfl rfl (fun H locs hw hP hD hS => ?_)
      obtain ⟨hwf, hk9⟩ := hw
      have hkp := hkp.tr hk9
      refine lv_aload_n hx hb d_M_arithmetic_101 rfl (lv_at hl 0 rfl) ?_
      refine lv_iload hx hb d_M_arithmetic_102 (lv_at hl 4 rfl) ?_
      refine lv_iload hx hb d_M_arithmetic_104 (lv_at hl 2 rfl) ?_
      refine lv_bipush (v := 7) hx hb d_M_arithmetic_106 (by decide) ?_
      refine lv_icmp_ne (tgt := 116) hx hb d_M_arithmetic_108 (by decide) (fun c40 => ?_) (fun c40 => ?_)
      · have h := if_f c40 h
        refine lv_iload hx hb d_M_arithmetic_116 (lv_at hl 2 rfl) ?_
        refine lv_bipush (v := 8) hx hb d_M_arithmetic_118 (by decide) ?_
        refine lv_icmp_ne (tgt := 128) hx hb d_M_arithmetic_120 (by decide) (fun c41 => ?_) (fun c41 => ?_)
        · have h := if_f c41 h
          refine lv_bipush (v := 13) hx hb d_M_arithmetic_128 (by decide) ?_
          exact b_130 M39 y4 y6 y7 (13 : Int32) y6 j0 _ _ _ h zy7 hj0 hwf hkp hP hD hS (lv_sub hl [2, 4, 5] rfl)
        have h := if_t c41 h
        refine lv_bipush (v := 14) hx hb d_M_arithmetic_123 (by decide) ?_
        refine lv_goto (tgt := 130) hx hb d_M_arithmetic_125 (by decide) ?_
        exact b_130 M39 y4 y6 y7 (14 : Int32) y6 j0 _ _ _ h zy7 hj0 hwf hkp hP hD hS (lv_sub hl [2, 4, 5] rfl)
      have h := if_t c40 h
      refine lv_bipush (v := 11) hx hb d_M_arithmetic_111 (by decide) ?_
      refine lv_goto (tgt := 130) hx hb d_M_arithmetic_113 (by decide) ?_
      exact b_130 M39 y4 y6 y7 (11 : Int32) y6 j0 _ _ _ h zy7 hj0 hwf hkp hP hD hS (lv_sub hl [2, 4, 5] rfl)
    have h := if_t c37 h
    refine lv_bipush (v := 11) hx hb d_M_arithmetic_83 (by decide) ?_
    exact me_reti (me_kp M0) h hx hb hr hlocks hwf hkp hP hK hD hS d_M_arithmetic_85
  have b_47 : ∀ (M : me_M) (y4 : Int32) (y5 : Int32) (y6 : Int32) (y7 : Int32) (s0 : Int32) (H : Heap) (locs : List Loc) (ls : Array Slot), f_M_arithmetic_b47 j0 x1 M y4 y5 y6 y7 s0 = (some (MZ, RZ)) → (y7 = 1 ∨ y7 = 0) → (s0 = 1 ∨ s0 = 0) → me_wf N M → me_kp M0 M → va_P D classes (me_W ad ca M) H → va_D A (me_W ad ca M) → va_S A s.heap H locs → lv_has ls 10 [(0, .ref (ad 1 j0)), (1, .long x1), (4, .int y4), (5, .int y5), (6, .int y6), (7, .int y7)] → W p l e rm_M_arithmetic s m [.ref (ad 1 j0), .long x1].toArray below meth c H locs 0 0 (MQ below (q_M_arithmetic D ad ca N M0 MZ RZ A) [.ref (ad 1 j0), .long x1].toArray s rm_M_arithmetic.cells rm_M_arithmetic.slots A) (F0 m 47 ls [.int s0]) := by
    intro M y4 y5 y6 y7 s0 H locs ls h zy7 zs0 hwf hkp hP hD hS hl
    unfold f_M_arithmetic_b47 at h
    have hkb := hkp
    refine lv_istore (lv' := [(8, .int s0), (0, .ref (ad 1 j0)), (1, .long x1), (4, .int y4), (5, .int y5), (6, .int y6), (7, .int y7)]) hx hb d_M_arithmetic_47 hl (by decide) rfl (fun ls hl => ?_)
    refine lv_iload hx hb d_M_arithmetic_49 (lv_at hl 0 rfl) ?_
    refine lv_if_ne (tgt := 67) hx hb d_M_arithmetic_51 (by decide) (fun c42 => ?_) (fun c42 => ?_)
    · have h := if_f c42 h
      exact b_67 M y4 y5 y6 y7 s0 _ _ _ h zy7 zs0 hwf hkp hP hD hS (lv_sub hl [1, 2, 3, 4, 5, 6, 0] rfl)
    have h := if_t c42 h
    refine lv_aload_n hx hb d_M_arithmetic_54 rfl (lv_at hl 1 rfl) ?_
    refine g_M_47 hx hb hts hown hK hP hwf hj0 (hts _ u_1788) d_M_arithmetic_55 ?_
    obtain ⟨j43, e44, h⟩ := bd_ob h
    have hj43 : j43 < N 14 := (hwf.2.1 1 j0 47 _ e44 (by decide) hj0)
    refine me_opt (j := j43) e44 ?_
    refine lv_iload hx hb d_M_arithmetic_58 (lv_at hl 5 rfl) ?_
    obtain ⟨g45, h⟩ := gd_ob h
    refine me_bald hx hb hK hP hwf hj43 g45 d_M_arithmetic_60 ?_
    refine lv_if_ne (tgt := 67) hx hb d_M_arithmetic_61 (by decide) (fun c46 => ?_) (fun c46 => ?_)
    · have h := if_f c46 h
      exact b_67 M y4 y5 y6 y7 s0 _ _ _ h zy7 zs0 hwf hkp hP hD hS (lv_sub hl [1, 2, 3, 4, 5, 6, 0] rfl)
    have h := if_t c46 h
    refine lv_bipush (v := 10) hx hb d_M_arithmetic_64 (by decide) ?_
    exact me_reti (me_kp M0) h hx hb hr hlocks hwf hkp hP hK hD hS d_M_arithmetic_66
  have b_46 : ∀ (M : me_M) (y4 : Int32) (y5 : Int32) (y6 : Int32) (y7 : Int32) (H : Heap) (locs : List Loc) (ls : Array Slot), f_M_arithmetic_b46 j0 x1 M y4 y5 y6 y7 = (some (MZ, RZ)) → (y7 = 1 ∨ y7 = 0) → me_wf N M → me_kp M0 M → va_P D classes (me_W ad ca M) H → va_D A (me_W ad ca M) → va_S A s.heap H locs → lv_has ls 10 [(0, .ref (ad 1 j0)), (1, .long x1), (4, .int y4), (5, .int y5), (6, .int y6), (7, .int y7)] → W p l e rm_M_arithmetic s m [.ref (ad 1 j0), .long x1].toArray below meth c H locs 0 0 (MQ below (q_M_arithmetic D ad ca N M0 MZ RZ A) [.ref (ad 1 j0), .long x1].toArray s rm_M_arithmetic.cells rm_M_arithmetic.slots A) (F0 m 46 ls []) := by
    intro M y4 y5 y6 y7 H locs ls h zy7 hwf hkp hP hD hS hl
    unfold f_M_arithmetic_b46 at h
    have hkb := hkp
    refine lv_iconst (v := 0) hx hb d_M_arithmetic_46 (by decide) ?_
    exact b_47 M y4 y5 y6 y7 (0 : Int32) _ _ _ h zy7 (by decide) hwf hkp hP hD hS (lv_sub hl [0, 1, 2, 3, 4, 5] rfl)
  refine lv_lload_n hx hb d_M_arithmetic_0 rfl (lv_at hl 1 rfl) ?_
  obtain ⟨r47, er47, h⟩ := bd_ob h
  refine me_pani' (r0 := r47) (fg_runS (wc := []) (tc := []) (A2 := A) (As := [.long x1]) (rest := []) ⟨hx, hb, hml, hown, hts⟩ (c_M_opOf l D r47 x1 er47 _) (by show fg_nm y_M_opOf 1; decide +kernel) u_1997 u_1998 u_192 u_1999 ⟨Nat.le_of_ble_eq_true rfl, Nat.le_of_ble_eq_true rfl⟩ hX me_P0 (hK.sub (tys' := []) [] rfl) me_D0 rfl hl.1 (Nat.le_of_ble_eq_true rfl) d_M_arithmetic_1 ⟨Nat.le_of_ble_eq_true rfl, Nat.le_of_ble_eq_true rfl⟩) hP hD hK hS hA rfl rfl (fun H locs hw hP hD hS => ?_)
  refine lv_istore_n (lv' := [(3, .int r47), (0, .ref (ad 1 j0)), (1, .long x1)]) hx hb d_M_arithmetic_4 rfl hl (by decide) rfl (fun ls hl => ?_)
  refine lv_iload_n hx hb d_M_arithmetic_5 rfl (lv_at hl 0 rfl) ?_
  obtain ⟨r48, er48, h⟩ := bd_ob h
  refine me_pani' (r0 := r48) (fg_runS (wc := []) (tc := []) (A2 := A) (As := [.int r47]) (rest := []) ⟨hx, hb, hml, hown, hts⟩ (c_M_instruction l D r48 r47 er48 _) (by show fg_nm y_M_instruction 1; decide +kernel) u_2000 u_2001 u_192 u_2002 ⟨Nat.le_of_ble_eq_true rfl, Nat.le_of_ble_eq_true rfl⟩ hX me_P0 (hK.sub (tys' := []) [] rfl) me_D0 rfl hl.1 (Nat.le_of_ble_eq_true rfl) d_M_arithmetic_6 ⟨Nat.le_of_ble_eq_true rfl, Nat.le_of_ble_eq_true rfl⟩) hP hD hK hS hA rfl rfl (fun H locs hw hP hD hS => ?_)
  refine lv_istore (lv' := [(4, .int r48), (3, .int r47), (0, .ref (ad 1 j0)), (1, .long x1)]) hx hb d_M_arithmetic_9 hl (by decide) rfl (fun ls hl => ?_)
  refine lv_iload_n hx hb d_M_arithmetic_11 rfl (lv_at hl 1 rfl) ?_
  refine lv_iconst (v := 4) hx hb d_M_arithmetic_12 (by decide) ?_
  refine lv_ishr hx hb d_M_arithmetic_13 ?_
  refine fg_topi (y := jishr r47 4) rfl ?_
  obtain ⟨v49, ev49, h⟩ := st_ob h
  refine fg_topi (y := v49) ev49.symm ?_
  refine lv_istore (lv' := [(5, .int v49), (4, .int r48), (3, .int r47), (0, .ref (ad 1 j0)), (1, .long x1)]) hx hb d_M_arithmetic_14 hl (by decide) rfl (fun ls hl => ?_)
  refine lv_lload_n hx hb d_M_arithmetic_16 rfl (lv_at hl 4 rfl) ?_
  obtain ⟨r50, er50, h⟩ := bd_ob h
  refine me_pani' (r0 := r50) (fg_runS (wc := []) (tc := []) (A2 := A) (As := [.long x1]) (rest := []) ⟨hx, hb, hml, hown, hts⟩ (c_M_toOf l D r50 x1 er50 _) (by show fg_nm y_M_toOf 1; decide +kernel) u_2006 u_2007 u_192 u_2008 ⟨Nat.le_of_ble_eq_true rfl, Nat.le_of_ble_eq_true rfl⟩ hX me_P0 (hK.sub (tys' := []) [] rfl) me_D0 rfl hl.1 (Nat.le_of_ble_eq_true rfl) d_M_arithmetic_17 ⟨Nat.le_of_ble_eq_true rfl, Nat.le_of_ble_eq_true rfl⟩) hP hD hK hS hA rfl rfl (fun H locs hw hP hD hS => ?_)
  refine lv_istore (lv' := [(6, .int r50), (5, .int v49), (4, .int r48), (3, .int r47), (0, .ref (ad 1 j0)), (1, .long x1)]) hx hb d_M_arithmetic_20 hl (by decide) rfl (fun ls hl => ?_)
  refine lv_iload_n hx hb d_M_arithmetic_22 rfl (lv_at hl 3 rfl) ?_
  obtain ⟨r51, er51, h⟩ := bd_ob h
  refine me_pani' (r0 := r51) (fg_runS (wc := []) (tc := []) (A2 := A) (As := [.int r47]) (rest := []) ⟨hx, hb, hml, hown, hts⟩ (c_M_isNarrow l D r51 r47 er51 _) (by show fg_nm y_M_isNarrow 1; decide +kernel) u_2026 u_2027 u_192 u_2028 ⟨Nat.le_of_ble_eq_true rfl, Nat.le_of_ble_eq_true rfl⟩ hX me_P0 (hK.sub (tys' := []) [] rfl) me_D0 rfl hl.1 (Nat.le_of_ble_eq_true rfl) d_M_arithmetic_23 ⟨Nat.le_of_ble_eq_true rfl, Nat.le_of_ble_eq_true rfl⟩) hP hD hK hS hA rfl rfl (fun H locs hw hP hD hS => ?_)
  have zr51 := hw
  refine lv_istore (lv' := [(7, .int r51), (6, .int r50), (5, .int v49), (4, .int r48), (3, .int r47), (0, .ref (ad 1 j0)), (1, .long x1)]) hx hb d_M_arithmetic_26 hl (by decide) rfl (fun ls hl => ?_)
  refine lv_iload hx hb d_M_arithmetic_28 (lv_at hl 3 rfl) ?_
  refine lv_bipush (v := 6) hx hb d_M_arithmetic_30 (by decide) ?_
  refine lv_icmp_ne (tgt := 46) hx hb d_M_arithmetic_32 (by decide) (fun c52 => ?_) (fun c52 => ?_)
  · have h := if_f c52 h
    exact b_46 M0 r48 v49 r50 r51 _ _ _ h zr51 hwf hkp hP hD hS (lv_sub hl [5, 6, 3, 2, 1, 0] rfl)
  have h := if_t c52 h
  refine lv_iload hx hb d_M_arithmetic_35 (lv_at hl 2 rfl) ?_
  refine lv_bipush (v := 11) hx hb d_M_arithmetic_37 (by decide) ?_
  refine lv_icmp_ne (tgt := 46) hx hb d_M_arithmetic_39 (by decide) (fun c53 => ?_) (fun c53 => ?_)
  · have h := if_f c53 h
    exact b_46 M0 r48 v49 r50 r51 _ _ _ h zr51 hwf hkp hP hD hS (lv_sub hl [5, 6, 3, 2, 1, 0] rfl)
  have h := if_t c53 h
  refine lv_iconst (v := 1) hx hb d_M_arithmetic_42 (by decide) ?_
  refine lv_goto (tgt := 47) hx hb d_M_arithmetic_43 (by decide) ?_
  exact b_47 M0 r48 v49 r50 r51 (1 : Int32) _ _ _ h zr51 (by decide) hwf hkp hP hD hS (lv_sub hl [5, 6, 3, 2, 1, 0] rfl)
