theorem d_Law_law_120 : decode code 120 = .ok (.aload_n 1, 1) := by decide +kernel
theorem d_Law_law_121 : decode code 121 = .ok (.aload_n 0, 1) := by decide +kernel
theorem d_Law_law_122 : decode code 122 = .ok (.iload 4, 2) := by decide +kernel
theorem d_Law_law_124 : decode code 124 = .ok (.iconst 1, 1) := by decide +kernel
theorem d_Law_law_125 : decode code 125 = .ok (.iadd, 1) := by decide +kernel
theorem d_Law_law_126 : decode code 126 = .ok (.iaload, 1) := by decide +kernel
theorem d_Law_law_127 : decode code 127 = .ok (.aload_n 0, 1) := by decide +kernel
theorem d_Law_law_128 : decode code 128 = .ok (.iload 4, 2) := by decide +kernel
theorem d_Law_law_130 : decode code 130 = .ok (.iconst 2, 1) := by decide +kernel
theorem d_Law_law_131 : decode code 131 = .ok (.iadd, 1) := by decide +kernel
theorem d_Law_law_132 : decode code 132 = .ok (.iaload, 1) := by decide +kernel
theorem d_Law_law_133 : decode code 133 = .ok (.aload_n 0, 1) := by decide +kernel
theorem d_Law_law_134 : decode code 134 = .ok (.iload 4, 2) := by decide +kernel
theorem d_Law_law_136 : decode code 136 = .ok (.iconst 3, 1) := by decide +kernel
theorem d_Law_law_137 : decode code 137 = .ok (.iadd, 1) := by decide +kernel
theorem d_Law_law_138 : decode code 138 = .ok (.iaload, 1) := by decide +kernel
theorem d_Law_law_139 : decode code 139 = .ok (.aload_n 0, 1) := by decide +kernel
theorem d_Law_law_140 : decode code 140 = .ok (.iload 4, 2) := by decide +kernel
theorem d_Law_law_142 : decode code 142 = .ok (.iconst 4, 1) := by decide +kernel
theorem d_Law_law_143 : decode code 143 = .ok (.iadd, 1) := by decide +kernel
theorem d_Law_law_144 : decode code 144 = .ok (.iaload, 1) := by decide +kernel
theorem d_Law_law_145 : decode code 145 = .ok (.aload_n 0, 1) := by decide +kernel
theorem d_Law_law_146 : decode code 146 = .ok (.iload 4, 2) := by decide +kernel
theorem d_Law_law_148 : decode code 148 = .ok (.iconst 5, 1) := by decide +kernel
theorem d_Law_law_149 : decode code 149 = .ok (.iadd, 1) := by decide +kernel
theorem d_Law_law_150 : decode code 150 = .ok (.iaload, 1) := by decide +kernel
theorem d_Law_law_151 : decode code 151 = .ok (.invokevirtual 53, 3) := by decide +kernel
theorem u_736 : Cond.methodLink "FilterGuardLaw" 53 ⟨"FilterGuard", "feed", "(IIIII)Z"⟩ ∈ fg_g := fg_in (List.mem_of_getElem? (i := 736) (by decide +kernel)) rfl
theorem u_739 : Cond.code ⟨"FilterGuard", "feed", "(IIIII)Z"⟩ prog_1_method_2_code 6 (some .boolean) ∈ fg_g := fg_in (List.mem_of_getElem? (i := 739) (by decide +kernel)) rfl
theorem u_737 : Cond.instanceMethod ⟨"FilterGuard", "feed", "(IIIII)Z"⟩ ∈ fg_g := fg_in (List.mem_of_getElem? (i := 737) (by decide +kernel)) rfl
theorem u_738 : Cond.selects "FilterGuard" ⟨"FilterGuard", "feed", "(IIIII)Z"⟩ ⟨"FilterGuard", "feed", "(IIIII)Z"⟩ ∈ fg_g := fg_in (List.mem_of_getElem? (i := 738) (by decide +kernel)) rfl
theorem d_Law_law_154 : decode code 154 = .ok (.aload_n 2, 1) := by decide +kernel
theorem d_Law_law_155 : decode code 155 = .ok (.aload_n 0, 1) := by decide +kernel
theorem d_Law_law_156 : decode code 156 = .ok (.iload 4, 2) := by decide +kernel
theorem d_Law_law_158 : decode code 158 = .ok (.iconst 1, 1) := by decide +kernel
theorem d_Law_law_159 : decode code 159 = .ok (.iadd, 1) := by decide +kernel
theorem d_Law_law_160 : decode code 160 = .ok (.iaload, 1) := by decide +kernel
theorem d_Law_law_161 : decode code 161 = .ok (.aload_n 0, 1) := by decide +kernel
theorem d_Law_law_162 : decode code 162 = .ok (.iload 4, 2) := by decide +kernel
theorem d_Law_law_164 : decode code 164 = .ok (.iconst 2, 1) := by decide +kernel
theorem d_Law_law_165 : decode code 165 = .ok (.iadd, 1) := by decide +kernel
theorem d_Law_law_166 : decode code 166 = .ok (.iaload, 1) := by decide +kernel
theorem d_Law_law_167 : decode code 167 = .ok (.aload_n 0, 1) := by decide +kernel
theorem d_Law_law_168 : decode code 168 = .ok (.iload 4, 2) := by decide +kernel
theorem d_Law_law_170 : decode code 170 = .ok (.iconst 3, 1) := by decide +kernel
theorem d_Law_law_171 : decode code 171 = .ok (.iadd, 1) := by decide +kernel
theorem d_Law_law_172 : decode code 172 = .ok (.iaload, 1) := by decide +kernel
theorem d_Law_law_173 : decode code 173 = .ok (.aload_n 0, 1) := by decide +kernel
theorem d_Law_law_174 : decode code 174 = .ok (.iload 4, 2) := by decide +kernel
theorem d_Law_law_176 : decode code 176 = .ok (.iconst 4, 1) := by decide +kernel
theorem d_Law_law_177 : decode code 177 = .ok (.iadd, 1) := by decide +kernel
theorem d_Law_law_178 : decode code 178 = .ok (.iaload, 1) := by decide +kernel
theorem d_Law_law_179 : decode code 179 = .ok (.aload_n 0, 1) := by decide +kernel
theorem d_Law_law_180 : decode code 180 = .ok (.iload 4, 2) := by decide +kernel
theorem d_Law_law_182 : decode code 182 = .ok (.iconst 5, 1) := by decide +kernel
theorem d_Law_law_183 : decode code 183 = .ok (.iadd, 1) := by decide +kernel
theorem d_Law_law_184 : decode code 184 = .ok (.iaload, 1) := by decide +kernel
theorem d_Law_law_185 : decode code 185 = .ok (.invokevirtual 57, 3) := by decide +kernel
theorem u_2415 : Cond.methodLink "FilterGuardLaw" 57 ⟨"FilterGuardModel", "feed", "(IIIII)Z"⟩ ∈ fg_g := fg_in (List.mem_of_getElem? (i := 2415) (by decide +kernel)) rfl
theorem u_2418 : Cond.code ⟨"FilterGuardModel", "feed", "(IIIII)Z"⟩ prog_14_method_114_code 8 (some .boolean) ∈ fg_g := fg_in (List.mem_of_getElem? (i := 2418) (by decide +kernel)) rfl
theorem u_2416 : Cond.instanceMethod ⟨"FilterGuardModel", "feed", "(IIIII)Z"⟩ ∈ fg_g := fg_in (List.mem_of_getElem? (i := 2416) (by decide +kernel)) rfl
theorem u_2417 : Cond.selects "FilterGuardModel" ⟨"FilterGuardModel", "feed", "(IIIII)Z"⟩ ⟨"FilterGuardModel", "feed", "(IIIII)Z"⟩ ∈ fg_g := fg_in (List.mem_of_getElem? (i := 2417) (by decide +kernel)) rfl
theorem d_Law_law_188 : decode code 188 = .ok (.if_icmp .eq 841, 3) := by decide +kernel
theorem d_Law_law_1029 : decode code 1029 = .ok (.iinc 4 6, 3) := by decide +kernel
theorem d_Law_law_1032 : decode code 1032 = .ok (.goto (-1009), 3) := by decide +kernel
theorem d_Law_law_23 : decode code 23 = .ok (.iload 4, 2) := by decide +kernel
theorem d_Law_law_25 : decode code 25 = .ok (.aload_n 0, 1) := by decide +kernel
theorem d_Law_law_26 : decode code 26 = .ok (.arraylength, 1) := by decide +kernel
theorem d_Law_law_27 : decode code 27 = .ok (.bipush 6, 2) := by decide +kernel
theorem d_Law_law_29 : decode code 29 = .ok (.isub, 1) := by decide +kernel
theorem d_Law_law_30 : decode code 30 = .ok (.if_icmp .gt 1005, 3) := by decide +kernel
theorem d_Law_law_1035 : decode code 1035 = .ok (.iconst 1, 1) := by decide +kernel
theorem d_Law_law_1036 : decode code 1036 = .ok (.ireturn, 1) := by decide +kernel
set_option maxHeartbeats 4000000 in
set_option maxRecDepth 100000 in
theorem law_0 {p : Program} {e : Env} {s : Jvm.State} {m : MethodId} {below : List Frame} {meth : Method} {c : Code} (l : Launch) (hl9 : l.stackTraces = false) {b : Nat} {xs : Nat → Int32} {A : Nat → Prop} (hx : p.tables.exec = Jvm.exec) (hb : c.code = code) (hr : meth.sig.returnType = ret) (hlocks : meth.locks = false) (hml : c.maxLocals = 8) (hown : s.vm.findClass "FilterGuardLaw" = some m.cls) (hts : ∀ w ∈ fg_g, w.before #[Value.ref b] s = true) (hX : fg_X s) (hz : fg_Z A s s.heap) (hy : fg_Y s) (hXs : va_X b 6 xs s s.heap) (hbl : b < s.heap.size) (hA : ∀ q : Nat, s.heap.size ≤ q → A q) (hA2 : ∀ q : Nat, A q → s.heap.size ≤ q) (D : va_G) (ga : Nat) (qt : Nat) (qs : Nat) (qc : Nat) (qh : Nat) (qf : Nat) (qe : Nat) (qm : Nat) (c0 : Nat) (c1 : Nat) (c2 : Nat) (c3 : Nat) (c4 : Nat) (c5 : Nat) (m0 : Nat) (m1 : Nat) (m2 : Nat) (m3 : Nat) (m4 : Nat) (m5 : Nat) (ma : Nat) (r0 : Nat) (r1 : Nat) (r2 : Nat) (r3 : Nat) (r4 : Nat) (r5 : Nat) (r6 : Nat) (r7 : Nat) (r8 : Nat) (r9 : Nat) (r10 : Nat) (r11 : Nat) (r12 : Nat) (r13 : Nat) (r14 : Nat) (r15 : Nat) (r16 : Nat) (r17 : Nat) (r18 : Nat) (r19 : Nat) (r20 : Nat) (r21 : Nat) (r22 : Nat) (r23 : Nat) (r24 : Nat) (r25 : Nat) (r26 : Nat) (r27 : Nat) (r28 : Nat) (r29 : Nat) (r30 : Nat) (r31 : Nat) (r32 : Nat) (r33 : Nat) (r34 : Nat) (r35 : Nat) (r36 : Nat) (r37 : Nat) (r38 : Nat) (r39 : Nat) (r40 : Nat) (r41 : Nat) (r42 : Nat) (r43 : Nat) (r44 : Nat) (r45 : Nat) (qo : Nat) (kt : ClassId) (ks : ClassId) (k0 : ClassId) (k1 : ClassId) (k2 : ClassId) (k3 : ClassId) (k4 : ClassId) (j0 : ClassId) (j1 : ClassId) (j2 : ClassId) (j3 : ClassId) (j4 : ClassId) (j5 : ClassId) (j6 : ClassId) (j7 : ClassId) (j8 : ClassId) (j9 : ClassId) (j10 : ClassId) (j11 : ClassId) (j12 : ClassId) (j13 : ClassId) (j14 : ClassId) (j15 : ClassId) (j16 : ClassId) (j17 : ClassId) (j18 : ClassId) (j19 : ClassId) (j20 : ClassId) (j21 : ClassId) (j22 : ClassId) (j23 : ClassId) (j24 : ClassId) (j25 : ClassId) (j26 : ClassId) (j27 : ClassId) (j28 : ClassId) (j29 : ClassId) (j30 : ClassId) (j31 : ClassId) (j32 : ClassId) (j33 : ClassId) (j34 : ClassId) (j35 : ClassId) (j36 : ClassId) (j37 : ClassId) (j38 : ClassId) (j39 : ClassId) (j40 : ClassId) (j41 : ClassId) (j42 : ClassId) (j43 : ClassId) (j44 : ClassId) (j45 : ClassId) (ko : ClassId) {H : Heap} {locs : List Loc} {ls : Array Slot} (hP : va_P D classes [(ga, .inr (0, [.ref qt, .int 0, .ref qs, .int 0, .ref qc, .ref qh, .ref qf, .ref qe, .ref qm, .int 0, .int (-1), .int 0, .int 0, .int 0])), (ma, .inr (1, [.int 0, .ref r0, .int 0, .int 0, .int 0, .ref r1, .ref r2, .ref r3, .ref r4, .ref r5, .ref r6, .ref r7, .int 0, .ref r8, .int 0, .int 0, .ref r9, .ref r10, .int 0, .int 0, .int 0, .int 0, .int 0, .int 0, .int 0, .int 0, .int 0, .ref r11, .ref r12, .ref r13, .ref r14, .ref r15, .ref r16, .ref r17, .int 0, .ref r18, .ref r19, .long 0, .int 0, .ref r20, .int 0, .int 0, .int 0, .ref r21, .ref r22, .ref r23, .ref r24, .ref r25, .ref r26, .ref r27, .ref r28, .ref r29, .ref r30, .ref r31, .ref r32, .ref r33, .ref r34, .ref r35, .ref r36, .int 0, .ref r37, .ref r38, .int 0, .ref r39, .ref r40, .int 0, .ref r41, .ref r42, .int 0, .int 0, .int 0, .ref r43, .ref r44, .ref r45, .int 0])), (qt, .inl (kt, 1280, .inl (fun _ => 0))), (r0, .inl (j0, 65536, .inl (fun _ => 0)))] H) (hD : va_D A [(ga, .inr (0, [.ref qt, .int 0, .ref qs, .int 0, .ref qc, .ref qh, .ref qf, .ref qe, .ref qm, .int 0, .int (-1), .int 0, .int 0, .int 0])), (ma, .inr (1, [.int 0, .ref r0, .int 0, .int 0, .int 0, .ref r1, .ref r2, .ref r3, .ref r4, .ref r5, .ref r6, .ref r7, .int 0, .ref r8, .int 0, .int 0, .ref r9, .ref r10, .int 0, .int 0, .int 0, .int 0, .int 0, .int 0, .int 0, .int 0, .int 0, .ref r11, .ref r12, .ref r13, .ref r14, .ref r15, .ref r16, .ref r17, .int 0, .ref r18, .ref r19, .long 0, .int 0, .ref r20, .int 0, .int 0, .int 0, .ref r21, .ref r22, .ref r23, .ref r24, .ref r25, .ref r26, .ref r27, .ref r28, .ref r29, .ref r30, .ref r31, .ref r32, .ref r33, .ref r34, .ref r35, .ref r36, .int 0, .ref r37, .ref r38, .int 0, .ref r39, .ref r40, .int 0, .ref r41, .ref r42, .int 0, .int 0, .int 0, .ref r43, .ref r44, .ref r45, .int 0])), (qt, .inl (kt, 1280, .inl (fun _ => 0))), (r0, .inl (j0, 65536, .inl (fun _ => 0)))]) (hK : va_K D classes [(kt, .byte), (j0, .byte)] s) (hS : va_S A s.heap H locs) (hl : lv_has ls 8 [(4, .int 0), (3, .ref qo), (2, .ref ma), (1, .ref ga), (0, .ref b)]) : W p l e room_1 s m #[Value.ref b] below meth c H locs 398 507316 (lw_Z below #[Value.ref b] s) (F0 m 120 ls []) := by
  have hbA : ¬ A b := fun h => absurd (hA2 b h) (Nat.not_le.mpr hbl)
  refine lv_aload_n hx hb d_Law_law_120 rfl (lv_at hl 3 rfl) ?_
  refine lv_aload_n hx hb d_Law_law_121 rfl (lv_at hl 4 rfl) ?_
  refine lv_iload hx hb d_Law_law_122 (lv_at hl 0 rfl) ?_
  refine lv_iconst (v := 1) hx hb d_Law_law_124 (by decide) ?_
  refine lv_iadd hx hb d_Law_law_125 ?_
  refine fg_topi (y := 1) (by decide) ?_
  refine va_sld hx hb hXs hbl hbA hS (by unfold vp_in; decide) d_Law_law_126 ?_
  refine lv_aload_n hx hb d_Law_law_127 rfl (lv_at hl 4 rfl) ?_
  refine lv_iload hx hb d_Law_law_128 (lv_at hl 0 rfl) ?_
  refine lv_iconst (v := 2) hx hb d_Law_law_130 (by decide) ?_
  refine lv_iadd hx hb d_Law_law_131 ?_
  refine fg_topi (y := 2) (by decide) ?_
  refine va_sld hx hb hXs hbl hbA hS (by unfold vp_in; decide) d_Law_law_132 ?_
  refine lv_aload_n hx hb d_Law_law_133 rfl (lv_at hl 4 rfl) ?_
  refine lv_iload hx hb d_Law_law_134 (lv_at hl 0 rfl) ?_
  refine lv_iconst (v := 3) hx hb d_Law_law_136 (by decide) ?_
  refine lv_iadd hx hb d_Law_law_137 ?_
  refine fg_topi (y := 3) (by decide) ?_
  refine va_sld hx hb hXs hbl hbA hS (by unfold vp_in; decide) d_Law_law_138 ?_
  refine lv_aload_n hx hb d_Law_law_139 rfl (lv_at hl 4 rfl) ?_
  refine lv_iload hx hb d_Law_law_140 (lv_at hl 0 rfl) ?_
  refine lv_iconst (v := 4) hx hb d_Law_law_142 (by decide) ?_
  refine lv_iadd hx hb d_Law_law_143 ?_
  refine fg_topi (y := 4) (by decide) ?_
  refine va_sld hx hb hXs hbl hbA hS (by unfold vp_in; decide) d_Law_law_144 ?_
  refine lv_aload_n hx hb d_Law_law_145 rfl (lv_at hl 4 rfl) ?_
  refine lv_iload hx hb d_Law_law_146 (lv_at hl 0 rfl) ?_
  refine lv_iconst (v := 5) hx hb d_Law_law_148 (by decide) ?_
  refine lv_iadd hx hb d_Law_law_149 ?_
  refine fg_topi (y := 5) (by decide) ?_
  refine va_sld hx hb hXs hbl hbA hS (by unfold vp_in; decide) d_Law_law_150 ?_
  refine fg_theni (wr := [(ma, .inr (1, [.int 0, .ref r0, .int 0, .int 0, .int 0, .ref r1, .ref r2, .ref r3, .ref r4, .ref r5, .ref r6, .ref r7, .int 0, .ref r8, .int 0, .int 0, .ref r9, .ref r10, .int 0, .int 0, .int 0, .int 0, .int 0, .int 0, .int 0, .int 0, .int 0, .ref r11, .ref r12, .ref r13, .ref r14, .ref r15, .ref r16, .ref r17, .int 0, .ref r18, .ref r19, .long 0, .int 0, .ref r20, .int 0, .int 0, .int 0, .ref r21, .ref r22, .ref r23, .ref r24, .ref r25, .ref r26, .ref r27, .ref r28, .ref r29, .ref r30, .ref r31, .ref r32, .ref r33, .ref r34, .ref r35, .ref r36, .int 0, .ref r37, .ref r38, .int 0, .ref r39, .ref r40, .int 0, .ref r41, .ref r42, .int 0, .int 0, .int 0, .ref r43, .ref r44, .ref r45, .int 0])), (r0, .inl (j0, 65536, .inl (fun _ => 0)))]) (fg_runV (C := "FilterGuard") (As := [.int (xs (1 : Int32).toNatClampNeg), .int (xs (2 : Int32).toNatClampNeg), .int (xs (3 : Int32).toNatClampNeg), .int (xs (4 : Int32).toNatClampNeg), .int (xs (5 : Int32).toNatClampNeg)]) (rest := []) (ci := 0) (q0 := 0) ⟨hx, hb, hml, hown, hts⟩ (c_G_feed l D ga qt qs qc qh qf qe qm kt 1280 (fun _ => 0) 0 (xs (1 : Int32).toNatClampNeg) (xs (2 : Int32).toNatClampNeg) (xs (3 : Int32).toNatClampNeg) (xs (4 : Int32).toNatClampNeg) (xs (5 : Int32).toNatClampNeg) H.size (by decide) (by decide) (by decide)) rfl (by show fg_nm y_G_feed 5; decide +kernel) u_736 u_737 u_738 u_181 u_739 ⟨Nat.le_of_ble_eq_true rfl, Nat.le_of_ble_eq_true rfl⟩ hX (hP.sub (ws' := [(ga, .inr (0, [.ref qt, .int (nI 0), .ref qs, .int 0, .ref qc, .ref qh, .ref qf, .ref qe, .ref qm, .int 0, .int (-1), .int 0, .int 0, .int 0])), (qt, .inl (kt, 1280, .inl (fun _ => 0)))]) [0, 2] rfl) (hK.sub (tys' := [(kt, .byte)]) [0] rfl) (hD.sub (ws' := [(ga, .inr (0, [.ref qt, .int (nI 0), .ref qs, .int 0, .ref qc, .ref qh, .ref qf, .ref qe, .ref qm, .int 0, .int (-1), .int 0, .int 0, .int 0])), (qt, .inl (kt, 1280, .inl (fun _ => 0)))]) [0, 2] (by decide) rfl) rfl rfl rfl rfl hl.1 (Nat.le_of_ble_eq_true rfl) d_Law_law_151 ⟨(Nat.le_of_ble_eq_true rfl), (Nat.le_of_ble_eq_true rfl)⟩) hP hD hK hS hA [0, 2] [1, 3] rfl rfl (by decide) (by decide) (fun r151_1 u H locs hw151_0 hP hD hK hS => ?_)
  obtain ⟨f1_151_1, rfl⟩ : ∃ z, z = u := ⟨_, rfl⟩
  try dsimp only at hw151_0
  have hP : va_P D classes [(ma, .inr (1, [.int 0, .ref r0, .int 0, .int 0, .int 0, .ref r1, .ref r2, .ref r3, .ref r4, .ref r5, .ref r6, .ref r7, .int 0, .ref r8, .int 0, .int 0, .ref r9, .ref r10, .int 0, .int 0, .int 0, .int 0, .int 0, .int 0, .int 0, .int 0, .int 0, .ref r11, .ref r12, .ref r13, .ref r14, .ref r15, .ref r16, .ref r17, .int 0, .ref r18, .ref r19, .long 0, .int 0, .ref r20, .int 0, .int 0, .int 0, .ref r21, .ref r22, .ref r23, .ref r24, .ref r25, .ref r26, .ref r27, .ref r28, .ref r29, .ref r30, .ref r31, .ref r32, .ref r33, .ref r34, .ref r35, .ref r36, .int 0, .ref r37, .ref r38, .int 0, .ref r39, .ref r40, .int 0, .ref r41, .ref r42, .int 0, .int 0, .int 0, .ref r43, .ref r44, .ref r45, .int 0])), (r0, .inl (j0, 65536, .inl (fun _ => 0))), (ga, .inr (0, [.ref qt, .int (nI (0 + 20)), .ref qs, .int 0, .ref qc, .ref qh, .ref qf, .ref qe, .ref qm, .int 0, .int (-1), .int 0, .int 0, .int 0])), (qt, .inl (kt, 1280, .inl f1_151_1))] H := hP
  have hD : va_D A [(ma, .inr (1, [.int 0, .ref r0, .int 0, .int 0, .int 0, .ref r1, .ref r2, .ref r3, .ref r4, .ref r5, .ref r6, .ref r7, .int 0, .ref r8, .int 0, .int 0, .ref r9, .ref r10, .int 0, .int 0, .int 0, .int 0, .int 0, .int 0, .int 0, .int 0, .int 0, .ref r11, .ref r12, .ref r13, .ref r14, .ref r15, .ref r16, .ref r17, .int 0, .ref r18, .ref r19, .long 0, .int 0, .ref r20, .int 0, .int 0, .int 0, .ref r21, .ref r22, .ref r23, .ref r24, .ref r25, .ref r26, .ref r27, .ref r28, .ref r29, .ref r30, .ref r31, .ref r32, .ref r33, .ref r34, .ref r35, .ref r36, .int 0, .ref r37, .ref r38, .int 0, .ref r39, .ref r40, .int 0, .ref r41, .ref r42, .int 0, .int 0, .int 0, .ref r43, .ref r44, .ref r45, .int 0])), (r0, .inl (j0, 65536, .inl (fun _ => 0))), (ga, .inr (0, [.ref qt, .int (nI (0 + 20)), .ref qs, .int 0, .ref qc, .ref qh, .ref qf, .ref qe, .ref qm, .int 0, .int (-1), .int 0, .int 0, .int 0])), (qt, .inl (kt, 1280, .inl f1_151_1))] := hD
  have hK : va_K D classes [(kt, .byte), (j0, .byte)] s := hK
  refine W.widen (k := 398) (n := 507316) (Nat.le_of_ble_eq_true rfl) (Nat.le_of_ble_eq_true rfl) ?_
  subst hw151_0
  refine lv_aload_n hx hb d_Law_law_154 rfl (lv_at hl 2 rfl) ?_
  refine lv_aload_n hx hb d_Law_law_155 rfl (lv_at hl 4 rfl) ?_
  refine lv_iload hx hb d_Law_law_156 (lv_at hl 0 rfl) ?_
  refine lv_iconst (v := 1) hx hb d_Law_law_158 (by decide) ?_
  refine lv_iadd hx hb d_Law_law_159 ?_
  refine fg_topi (y := 1) (by decide) ?_
  refine va_sld hx hb hXs hbl hbA hS (by unfold vp_in; decide) d_Law_law_160 ?_
  refine lv_aload_n hx hb d_Law_law_161 rfl (lv_at hl 4 rfl) ?_
  refine lv_iload hx hb d_Law_law_162 (lv_at hl 0 rfl) ?_
  refine lv_iconst (v := 2) hx hb d_Law_law_164 (by decide) ?_
  refine lv_iadd hx hb d_Law_law_165 ?_
  refine fg_topi (y := 2) (by decide) ?_
  refine va_sld hx hb hXs hbl hbA hS (by unfold vp_in; decide) d_Law_law_166 ?_
  refine lv_aload_n hx hb d_Law_law_167 rfl (lv_at hl 4 rfl) ?_
  refine lv_iload hx hb d_Law_law_168 (lv_at hl 0 rfl) ?_
  refine lv_iconst (v := 3) hx hb d_Law_law_170 (by decide) ?_
  refine lv_iadd hx hb d_Law_law_171 ?_
  refine fg_topi (y := 3) (by decide) ?_
  refine va_sld hx hb hXs hbl hbA hS (by unfold vp_in; decide) d_Law_law_172 ?_
  refine lv_aload_n hx hb d_Law_law_173 rfl (lv_at hl 4 rfl) ?_
  refine lv_iload hx hb d_Law_law_174 (lv_at hl 0 rfl) ?_
  refine lv_iconst (v := 4) hx hb d_Law_law_176 (by decide) ?_
  refine lv_iadd hx hb d_Law_law_177 ?_
  refine fg_topi (y := 4) (by decide) ?_
  refine va_sld hx hb hXs hbl hbA hS (by unfold vp_in; decide) d_Law_law_178 ?_
  refine lv_aload_n hx hb d_Law_law_179 rfl (lv_at hl 4 rfl) ?_
  refine lv_iload hx hb d_Law_law_180 (lv_at hl 0 rfl) ?_
  refine lv_iconst (v := 5) hx hb d_Law_law_182 (by decide) ?_
  refine lv_iadd hx hb d_Law_law_183 ?_
  refine fg_topi (y := 5) (by decide) ?_
  refine va_sld hx hb hXs hbl hbA hS (by unfold vp_in; decide) d_Law_law_184 ?_
  refine fg_theni (wr := [(ga, .inr (0, [.ref qt, .int (nI (0 + 20)), .ref qs, .int 0, .ref qc, .ref qh, .ref qf, .ref qe, .ref qm, .int 0, .int (-1), .int 0, .int 0, .int 0])), (qt, .inl (kt, 1280, .inl f1_151_1))]) (fg_runV (C := "FilterGuardModel") (As := [.int (xs (1 : Int32).toNatClampNeg), .int (xs (2 : Int32).toNatClampNeg), .int (xs (3 : Int32).toNatClampNeg), .int (xs (4 : Int32).toNatClampNeg), .int (xs (5 : Int32).toNatClampNeg)]) (rest := [.int 1]) (ci := 1) (q0 := 0) ⟨hx, hb, hml, hown, hts⟩ (c_M_feed l D ma r0 r1 r2 r3 r4 r5 r6 r7 r8 r9 r10 r11 r12 r13 r14 r15 r16 r17 r18 r19 r20 r21 r22 r23 r24 r25 r26 r27 r28 r29 r30 r31 r32 r33 r34 r35 r36 r37 r38 r39 r40 r41 r42 r43 r44 r45 j0 (fun _ => 0) 0 (xs (1 : Int32).toNatClampNeg) (xs (2 : Int32).toNatClampNeg) (xs (3 : Int32).toNatClampNeg) (xs (4 : Int32).toNatClampNeg) (xs (5 : Int32).toNatClampNeg) H.size (by decide)) rfl (by show fg_nm y_M_feed 5; decide +kernel) u_2415 u_2416 u_2417 u_192 u_2418 ⟨Nat.le_of_ble_eq_true rfl, Nat.le_of_ble_eq_true rfl⟩ hX (hP.sub (ws' := [(ma, .inr (1, [.int 0, .ref r0, .int (nI 0), .int 0, .int 0, .ref r1, .ref r2, .ref r3, .ref r4, .ref r5, .ref r6, .ref r7, .int 0, .ref r8, .int 0, .int 0, .ref r9, .ref r10, .int 0, .int 0, .int 0, .int 0, .int 0, .int 0, .int 0, .int 0, .int 0, .ref r11, .ref r12, .ref r13, .ref r14, .ref r15, .ref r16, .ref r17, .int 0, .ref r18, .ref r19, .long 0, .int 0, .ref r20, .int 0, .int 0, .int 0, .ref r21, .ref r22, .ref r23, .ref r24, .ref r25, .ref r26, .ref r27, .ref r28, .ref r29, .ref r30, .ref r31, .ref r32, .ref r33, .ref r34, .ref r35, .ref r36, .int 0, .ref r37, .ref r38, .int 0, .ref r39, .ref r40, .int 0, .ref r41, .ref r42, .int 0, .int 0, .int 0, .ref r43, .ref r44, .ref r45, .int 0])), (r0, .inl (j0, 65536, .inl (fun _ => 0)))]) [0, 1] rfl) (hK.sub (tys' := [(j0, .byte)]) [1] rfl) (hD.sub (ws' := [(ma, .inr (1, [.int 0, .ref r0, .int (nI 0), .int 0, .int 0, .ref r1, .ref r2, .ref r3, .ref r4, .ref r5, .ref r6, .ref r7, .int 0, .ref r8, .int 0, .int 0, .ref r9, .ref r10, .int 0, .int 0, .int 0, .int 0, .int 0, .int 0, .int 0, .int 0, .int 0, .ref r11, .ref r12, .ref r13, .ref r14, .ref r15, .ref r16, .ref r17, .int 0, .ref r18, .ref r19, .long 0, .int 0, .ref r20, .int 0, .int 0, .int 0, .ref r21, .ref r22, .ref r23, .ref r24, .ref r25, .ref r26, .ref r27, .ref r28, .ref r29, .ref r30, .ref r31, .ref r32, .ref r33, .ref r34, .ref r35, .ref r36, .int 0, .ref r37, .ref r38, .int 0, .ref r39, .ref r40, .int 0, .ref r41, .ref r42, .int 0, .int 0, .int 0, .ref r43, .ref r44, .ref r45, .int 0])), (r0, .inl (j0, 65536, .inl (fun _ => 0)))]) [0, 1] (by decide) rfl) rfl rfl rfl rfl hl.1 (Nat.le_of_ble_eq_true rfl) d_Law_law_185 ⟨(Nat.le_of_ble_eq_true rfl), (Nat.le_of_ble_eq_true rfl)⟩) hP hD hK hS hA [0, 1] [2, 3] rfl rfl (by decide) (by decide) (fun r185_3 u H locs hw185_2 hP hD hK hS => ?_)
  obtain ⟨f1_185_3, rfl⟩ : ∃ z, z = u := ⟨_, rfl⟩
  try dsimp only at hw185_2
  have hP : va_P D classes [(ga, .inr (0, [.ref qt, .int (nI (0 + 20)), .ref qs, .int 0, .ref qc, .ref qh, .ref qf, .ref qe, .ref qm, .int 0, .int (-1), .int 0, .int 0, .int 0])), (qt, .inl (kt, 1280, .inl f1_151_1)), (ma, .inr (1, [.int 0, .ref r0, .int (nI (0 + 20)), .int 0, .int 0, .ref r1, .ref r2, .ref r3, .ref r4, .ref r5, .ref r6, .ref r7, .int 0, .ref r8, .int 0, .int 0, .ref r9, .ref r10, .int 0, .int 0, .int 0, .int 0, .int 0, .int 0, .int 0, .int 0, .int 0, .ref r11, .ref r12, .ref r13, .ref r14, .ref r15, .ref r16, .ref r17, .int 0, .ref r18, .ref r19, .long 0, .int 0, .ref r20, .int 0, .int 0, .int 0, .ref r21, .ref r22, .ref r23, .ref r24, .ref r25, .ref r26, .ref r27, .ref r28, .ref r29, .ref r30, .ref r31, .ref r32, .ref r33, .ref r34, .ref r35, .ref r36, .int 0, .ref r37, .ref r38, .int 0, .ref r39, .ref r40, .int 0, .ref r41, .ref r42, .int 0, .int 0, .int 0, .ref r43, .ref r44, .ref r45, .int 0])), (r0, .inl (j0, 65536, .inl f1_185_3))] H := hP
  have hD : va_D A [(ga, .inr (0, [.ref qt, .int (nI (0 + 20)), .ref qs, .int 0, .ref qc, .ref qh, .ref qf, .ref qe, .ref qm, .int 0, .int (-1), .int 0, .int 0, .int 0])), (qt, .inl (kt, 1280, .inl f1_151_1)), (ma, .inr (1, [.int 0, .ref r0, .int (nI (0 + 20)), .int 0, .int 0, .ref r1, .ref r2, .ref r3, .ref r4, .ref r5, .ref r6, .ref r7, .int 0, .ref r8, .int 0, .int 0, .ref r9, .ref r10, .int 0, .int 0, .int 0, .int 0, .int 0, .int 0, .int 0, .int 0, .int 0, .ref r11, .ref r12, .ref r13, .ref r14, .ref r15, .ref r16, .ref r17, .int 0, .ref r18, .ref r19, .long 0, .int 0, .ref r20, .int 0, .int 0, .int 0, .ref r21, .ref r22, .ref r23, .ref r24, .ref r25, .ref r26, .ref r27, .ref r28, .ref r29, .ref r30, .ref r31, .ref r32, .ref r33, .ref r34, .ref r35, .ref r36, .int 0, .ref r37, .ref r38, .int 0, .ref r39, .ref r40, .int 0, .ref r41, .ref r42, .int 0, .int 0, .int 0, .ref r43, .ref r44, .ref r45, .int 0])), (r0, .inl (j0, 65536, .inl f1_185_3))] := hD
  have hK : va_K D classes [(kt, .byte), (j0, .byte)] s := hK
  refine W.widen (k := 398) (n := 507316) (Nat.le_of_ble_eq_true rfl) (Nat.le_of_ble_eq_true rfl) ?_
  subst hw185_2
  refine lv_icmp_eq (tgt := 1029) hx hb d_Law_law_188 (by decide) (fun c_5 => ?_) (fun c_5 => absurd (by decide) c_5)
  refine lv_iinc (v := 6) (lv' := [(4, .int 6), (3, .ref qo), (2, .ref ma), (1, .ref ga), (0, .ref b)]) hx hb d_Law_law_1029 hl (k := 0) rfl (by decide) (by decide) rfl (fun ls hl => ?_)
  refine lv_goto (tgt := 23) hx hb d_Law_law_1032 (by decide) ?_
  refine lv_iload hx hb d_Law_law_23 (lv_at hl 0 rfl) ?_
  refine lv_aload_n hx hb d_Law_law_25 rfl (lv_at hl 4 rfl) ?_
  refine va_slen hx hb hXs hbl hbA hS d_Law_law_26 ?_
  refine fg_topi (y := 6) (by decide) ?_
  refine lv_bipush (v := 6) hx hb d_Law_law_27 (by decide) ?_
  refine lv_isub hx hb d_Law_law_29 ?_
  refine fg_topi (y := 0) (by decide) ?_
  refine lv_icmp_gt (tgt := 1035) hx hb d_Law_law_30 (by decide) (fun c_6 => ?_) (fun c_6 => absurd (by decide) c_6)
  refine lv_iconst (v := 1) hx hb d_Law_law_1035 (by decide) ?_
  refine va_forget (fun q hq => hA2 _ (hS.2.2 q hq)) ?_
  refine W.widen (k := 600002) (n := 7302232) (Nat.le_of_ble_eq_true rfl) (Nat.le_of_ble_eq_true rfl) ?_
  exact lw_ret hx hb hr hlocks d_Law_law_1036
theorem d_Law_law_193 : decode code 193 = .ok (.aload_n 1, 1) := by decide +kernel
theorem d_Law_law_194 : decode code 194 = .ok (.aload_n 0, 1) := by decide +kernel
theorem d_Law_law_195 : decode code 195 = .ok (.iload 4, 2) := by decide +kernel
theorem d_Law_law_197 : decode code 197 = .ok (.iconst 1, 1) := by decide +kernel
theorem d_Law_law_198 : decode code 198 = .ok (.iadd, 1) := by decide +kernel
theorem d_Law_law_199 : decode code 199 = .ok (.iaload, 1) := by decide +kernel
theorem d_Law_law_200 : decode code 200 = .ok (.aload_n 0, 1) := by decide +kernel
theorem d_Law_law_201 : decode code 201 = .ok (.iload 4, 2) := by decide +kernel
theorem d_Law_law_203 : decode code 203 = .ok (.iconst 2, 1) := by decide +kernel
theorem d_Law_law_204 : decode code 204 = .ok (.iadd, 1) := by decide +kernel
theorem d_Law_law_205 : decode code 205 = .ok (.iaload, 1) := by decide +kernel
theorem d_Law_law_206 : decode code 206 = .ok (.aload_n 0, 1) := by decide +kernel
theorem d_Law_law_207 : decode code 207 = .ok (.iload 4, 2) := by decide +kernel
theorem d_Law_law_209 : decode code 209 = .ok (.iconst 3, 1) := by decide +kernel
theorem d_Law_law_210 : decode code 210 = .ok (.iadd, 1) := by decide +kernel
theorem d_Law_law_211 : decode code 211 = .ok (.iaload, 1) := by decide +kernel
theorem d_Law_law_212 : decode code 212 = .ok (.aload_n 0, 1) := by decide +kernel
theorem d_Law_law_213 : decode code 213 = .ok (.iload 4, 2) := by decide +kernel
theorem d_Law_law_215 : decode code 215 = .ok (.iconst 4, 1) := by decide +kernel
theorem d_Law_law_216 : decode code 216 = .ok (.iadd, 1) := by decide +kernel
theorem d_Law_law_217 : decode code 217 = .ok (.iaload, 1) := by decide +kernel
theorem d_Law_law_218 : decode code 218 = .ok (.aload_n 3, 1) := by decide +kernel
theorem d_Law_law_219 : decode code 219 = .ok (.invokestatic 58, 3) := by decide +kernel
theorem u_803 : Cond.methodLink "FilterGuardLaw" 58 ⟨"FilterGuardLaw", "map", "(LFilterGuard;IIII[J)I"⟩ ∈ fg_g := fg_in (List.mem_of_getElem? (i := 803) (by decide +kernel)) rfl
theorem u_180 : Cond.initialized "FilterGuardLaw" ∈ fg_g := fg_in (List.mem_of_getElem? (i := 180) (by decide +kernel)) rfl
theorem u_805 : Cond.codeWith ⟨"FilterGuardLaw", "map", "(LFilterGuard;IIII[J)I"⟩ method_3_code 7 (some .int) [(0, 14, 17, 13), (0, 14, 21, 15)] ∈ fg_g := fg_in (List.mem_of_getElem? (i := 805) (by decide +kernel)) rfl
theorem u_804 : Cond.static ⟨"FilterGuardLaw", "map", "(LFilterGuard;IIII[J)I"⟩ ∈ fg_g := fg_in (List.mem_of_getElem? (i := 804) (by decide +kernel)) rfl
theorem d_Law_law_222 : decode code 222 = .ok (.istore 5, 2) := by decide +kernel
theorem d_Law_law_224 : decode code 224 = .ok (.aload_n 2, 1) := by decide +kernel
theorem d_Law_law_225 : decode code 225 = .ok (.aload_n 0, 1) := by decide +kernel
theorem d_Law_law_226 : decode code 226 = .ok (.iload 4, 2) := by decide +kernel
theorem d_Law_law_228 : decode code 228 = .ok (.iconst 1, 1) := by decide +kernel
theorem d_Law_law_229 : decode code 229 = .ok (.iadd, 1) := by decide +kernel
theorem d_Law_law_230 : decode code 230 = .ok (.iaload, 1) := by decide +kernel
theorem d_Law_law_231 : decode code 231 = .ok (.aload_n 0, 1) := by decide +kernel
theorem d_Law_law_232 : decode code 232 = .ok (.iload 4, 2) := by decide +kernel
theorem d_Law_law_234 : decode code 234 = .ok (.iconst 2, 1) := by decide +kernel
theorem d_Law_law_235 : decode code 235 = .ok (.iadd, 1) := by decide +kernel
theorem d_Law_law_236 : decode code 236 = .ok (.iaload, 1) := by decide +kernel
theorem d_Law_law_237 : decode code 237 = .ok (.aload_n 0, 1) := by decide +kernel
theorem d_Law_law_238 : decode code 238 = .ok (.iload 4, 2) := by decide +kernel
theorem d_Law_law_240 : decode code 240 = .ok (.iconst 3, 1) := by decide +kernel
theorem d_Law_law_241 : decode code 241 = .ok (.iadd, 1) := by decide +kernel
theorem d_Law_law_242 : decode code 242 = .ok (.iaload, 1) := by decide +kernel
theorem d_Law_law_243 : decode code 243 = .ok (.aload_n 0, 1) := by decide +kernel
theorem d_Law_law_244 : decode code 244 = .ok (.iload 4, 2) := by decide +kernel
theorem d_Law_law_246 : decode code 246 = .ok (.iconst 4, 1) := by decide +kernel
theorem d_Law_law_247 : decode code 247 = .ok (.iadd, 1) := by decide +kernel
theorem d_Law_law_248 : decode code 248 = .ok (.iaload, 1) := by decide +kernel
theorem d_Law_law_249 : decode code 249 = .ok (.invokevirtual 63, 3) := by decide +kernel
theorem u_2419 : Cond.methodLink "FilterGuardLaw" 63 ⟨"FilterGuardModel", "map", "(IIII)I"⟩ ∈ fg_g := fg_in (List.mem_of_getElem? (i := 2419) (by decide +kernel)) rfl
theorem u_2422 : Cond.code ⟨"FilterGuardModel", "map", "(IIII)I"⟩ prog_14_method_115_code 7 (some .int) ∈ fg_g := fg_in (List.mem_of_getElem? (i := 2422) (by decide +kernel)) rfl
theorem u_2420 : Cond.instanceMethod ⟨"FilterGuardModel", "map", "(IIII)I"⟩ ∈ fg_g := fg_in (List.mem_of_getElem? (i := 2420) (by decide +kernel)) rfl
theorem u_2421 : Cond.selects "FilterGuardModel" ⟨"FilterGuardModel", "map", "(IIII)I"⟩ ⟨"FilterGuardModel", "map", "(IIII)I"⟩ ∈ fg_g := fg_in (List.mem_of_getElem? (i := 2421) (by decide +kernel)) rfl
theorem d_Law_law_252 : decode code 252 = .ok (.istore 6, 2) := by decide +kernel
theorem d_Law_law_254 : decode code 254 = .ok (.aload_n 2, 1) := by decide +kernel
theorem d_Law_law_255 : decode code 255 = .ok (.invokevirtual 64, 3) := by decide +kernel
theorem u_1967 : Cond.methodLink "FilterGuardLaw" 64 ⟨"FilterGuardModel", "thrown", "()I"⟩ ∈ fg_g := fg_in (List.mem_of_getElem? (i := 1967) (by decide +kernel)) rfl
theorem u_1970 : Cond.code ⟨"FilterGuardModel", "thrown", "()I"⟩ prog_14_method_2_code 1 (some .int) ∈ fg_g := fg_in (List.mem_of_getElem? (i := 1970) (by decide +kernel)) rfl
theorem u_1968 : Cond.instanceMethod ⟨"FilterGuardModel", "thrown", "()I"⟩ ∈ fg_g := fg_in (List.mem_of_getElem? (i := 1968) (by decide +kernel)) rfl
theorem u_1969 : Cond.selects "FilterGuardModel" ⟨"FilterGuardModel", "thrown", "()I"⟩ ⟨"FilterGuardModel", "thrown", "()I"⟩ ∈ fg_g := fg_in (List.mem_of_getElem? (i := 1969) (by decide +kernel)) rfl
theorem d_Law_law_258 : decode code 258 = .ok (.iload 5, 2) := by decide +kernel
theorem d_Law_law_260 : decode code 260 = .ok (.if_icmp .eq 5, 3) := by decide +kernel
theorem d_Law_law_265 : decode code 265 = .ok (.iload 5, 2) := by decide +kernel
theorem d_Law_law_267 : decode code 267 = .ok (.ifCond .ne 15, 3) := by decide +kernel
theorem d_Law_law_270 : decode code 270 = .ok (.aload_n 3, 1) := by decide +kernel
theorem d_Law_law_271 : decode code 271 = .ok (.iconst 0, 1) := by decide +kernel
theorem d_Law_law_272 : decode code 272 = .ok (.laload, 1) := by decide +kernel
theorem d_Law_law_273 : decode code 273 = .ok (.iload 6, 2) := by decide +kernel
theorem d_Law_law_275 : decode code 275 = .ok (.i2l, 1) := by decide +kernel
theorem d_Law_law_276 : decode code 276 = .ok (.lcmp, 1) := by decide +kernel
theorem d_Law_law_277 : decode code 277 = .ok (.ifCond .eq 5, 3) := by decide +kernel
theorem d_Law_law_282 : decode code 282 = .ok (.goto 747, 3) := by decide +kernel
set_option maxHeartbeats 4000000 in
set_option maxRecDepth 100000 in
theorem law_1 {p : Program} {e : Env} {s : Jvm.State} {m : MethodId} {below : List Frame} {meth : Method} {c : Code} (l : Launch) (hl9 : l.stackTraces = false) {b : Nat} {xs : Nat → Int32} {A : Nat → Prop} (hx : p.tables.exec = Jvm.exec) (hb : c.code = code) (hr : meth.sig.returnType = ret) (hlocks : meth.locks = false) (hml : c.maxLocals = 8) (hown : s.vm.findClass "FilterGuardLaw" = some m.cls) (hts : ∀ w ∈ fg_g, w.before #[Value.ref b] s = true) (hX : fg_X s) (hz : fg_Z A s s.heap) (hy : fg_Y s) (hXs : va_X b 6 xs s s.heap) (hbl : b < s.heap.size) (hA : ∀ q : Nat, s.heap.size ≤ q → A q) (hA2 : ∀ q : Nat, A q → s.heap.size ≤ q) (D : va_G) (ga : Nat) (qt : Nat) (qs : Nat) (qc : Nat) (qh : Nat) (qf : Nat) (qe : Nat) (qm : Nat) (c0 : Nat) (c1 : Nat) (c2 : Nat) (c3 : Nat) (c4 : Nat) (c5 : Nat) (m0 : Nat) (m1 : Nat) (m2 : Nat) (m3 : Nat) (m4 : Nat) (m5 : Nat) (ma : Nat) (r0 : Nat) (r1 : Nat) (r2 : Nat) (r3 : Nat) (r4 : Nat) (r5 : Nat) (r6 : Nat) (r7 : Nat) (r8 : Nat) (r9 : Nat) (r10 : Nat) (r11 : Nat) (r12 : Nat) (r13 : Nat) (r14 : Nat) (r15 : Nat) (r16 : Nat) (r17 : Nat) (r18 : Nat) (r19 : Nat) (r20 : Nat) (r21 : Nat) (r22 : Nat) (r23 : Nat) (r24 : Nat) (r25 : Nat) (r26 : Nat) (r27 : Nat) (r28 : Nat) (r29 : Nat) (r30 : Nat) (r31 : Nat) (r32 : Nat) (r33 : Nat) (r34 : Nat) (r35 : Nat) (r36 : Nat) (r37 : Nat) (r38 : Nat) (r39 : Nat) (r40 : Nat) (r41 : Nat) (r42 : Nat) (r43 : Nat) (r44 : Nat) (r45 : Nat) (qo : Nat) (kt : ClassId) (ks : ClassId) (k0 : ClassId) (k1 : ClassId) (k2 : ClassId) (k3 : ClassId) (k4 : ClassId) (j0 : ClassId) (j1 : ClassId) (j2 : ClassId) (j3 : ClassId) (j4 : ClassId) (j5 : ClassId) (j6 : ClassId) (j7 : ClassId) (j8 : ClassId) (j9 : ClassId) (j10 : ClassId) (j11 : ClassId) (j12 : ClassId) (j13 : ClassId) (j14 : ClassId) (j15 : ClassId) (j16 : ClassId) (j17 : ClassId) (j18 : ClassId) (j19 : ClassId) (j20 : ClassId) (j21 : ClassId) (j22 : ClassId) (j23 : ClassId) (j24 : ClassId) (j25 : ClassId) (j26 : ClassId) (j27 : ClassId) (j28 : ClassId) (j29 : ClassId) (j30 : ClassId) (j31 : ClassId) (j32 : ClassId) (j33 : ClassId) (j34 : ClassId) (j35 : ClassId) (j36 : ClassId) (j37 : ClassId) (j38 : ClassId) (j39 : ClassId) (j40 : ClassId) (j41 : ClassId) (j42 : ClassId) (j43 : ClassId) (j44 : ClassId) (j45 : ClassId) (ko : ClassId) {H : Heap} {locs : List Loc} {ls : Array Slot} (hP : va_P D classes [(ga, .inr (0, [.ref qt, .int 0, .ref qs, .int 0, .ref qc, .ref qh, .ref qf, .ref qe, .ref qm, .int 0, .int (-1), .int 0, .int 0, .int 0])), (ma, .inr (1, [.int 0, .ref r0, .int 0, .int 0, .int 0, .ref r1, .ref r2, .ref r3, .ref r4, .ref r5, .ref r6, .ref r7, .int 0, .ref r8, .int 0, .int 0, .ref r9, .ref r10, .int 0, .int 0, .int 0, .int 0, .int 0, .int 0, .int 0, .int 0, .int 0, .ref r11, .ref r12, .ref r13, .ref r14, .ref r15, .ref r16, .ref r17, .int 0, .ref r18, .ref r19, .long 0, .int 0, .ref r20, .int 0, .int 0, .int 0, .ref r21, .ref r22, .ref r23, .ref r24, .ref r25, .ref r26, .ref r27, .ref r28, .ref r29, .ref r30, .ref r31, .ref r32, .ref r33, .ref r34, .ref r35, .ref r36, .int 0, .ref r37, .ref r38, .int 0, .ref r39, .ref r40, .int 0, .ref r41, .ref r42, .int 0, .int 0, .int 0, .ref r43, .ref r44, .ref r45, .int 0])), (qs, .inl (ks, 4, .inr (.inr (.inr (.inr (fun _ => none)))))), (qo, .inl (ko, 1, .inr (.inl (fun _ => 0)))), (r1, .inl (j1, 4, .inl (fun _ => 0))), (r2, .inl (j2, 4, .inl (fun _ => 0))), (r3, .inl (j3, 4, .inl (fun _ => 0))), (r4, .inl (j4, 4, .inl (fun _ => 0))), (r5, .inl (j5, 256, .inl (fun _ => 0)))] H) (hD : va_D A [(ga, .inr (0, [.ref qt, .int 0, .ref qs, .int 0, .ref qc, .ref qh, .ref qf, .ref qe, .ref qm, .int 0, .int (-1), .int 0, .int 0, .int 0])), (ma, .inr (1, [.int 0, .ref r0, .int 0, .int 0, .int 0, .ref r1, .ref r2, .ref r3, .ref r4, .ref r5, .ref r6, .ref r7, .int 0, .ref r8, .int 0, .int 0, .ref r9, .ref r10, .int 0, .int 0, .int 0, .int 0, .int 0, .int 0, .int 0, .int 0, .int 0, .ref r11, .ref r12, .ref r13, .ref r14, .ref r15, .ref r16, .ref r17, .int 0, .ref r18, .ref r19, .long 0, .int 0, .ref r20, .int 0, .int 0, .int 0, .ref r21, .ref r22, .ref r23, .ref r24, .ref r25, .ref r26, .ref r27, .ref r28, .ref r29, .ref r30, .ref r31, .ref r32, .ref r33, .ref r34, .ref r35, .ref r36, .int 0, .ref r37, .ref r38, .int 0, .ref r39, .ref r40, .int 0, .ref r41, .ref r42, .int 0, .int 0, .int 0, .ref r43, .ref r44, .ref r45, .int 0])), (qs, .inl (ks, 4, .inr (.inr (.inr (.inr (fun _ => none)))))), (qo, .inl (ko, 1, .inr (.inl (fun _ => 0)))), (r1, .inl (j1, 4, .inl (fun _ => 0))), (r2, .inl (j2, 4, .inl (fun _ => 0))), (r3, .inl (j3, 4, .inl (fun _ => 0))), (r4, .inl (j4, 4, .inl (fun _ => 0))), (r5, .inl (j5, 256, .inl (fun _ => 0)))]) (hK : va_K D classes [(ks, (.object "FilterGuard$Store")), (ko, .long), (j1, .int), (j2, .int), (j3, .int), (j4, .int), (j5, .boolean)] s) (hS : va_S A s.heap H locs) (hl : lv_has ls 8 [(4, .int 0), (3, .ref qo), (2, .ref ma), (1, .ref ga), (0, .ref b)]) : W p l e room_1 s m #[Value.ref b] below meth c H locs 398 507316 (lw_Z below #[Value.ref b] s) (F0 m 193 ls []) := by
  have hbA : ¬ A b := fun h => absurd (hA2 b h) (Nat.not_le.mpr hbl)
  by_cases hok : fg_mapok (xs (1 : Int32).toNatClampNeg) (xs (2 : Int32).toNatClampNeg) (xs (3 : Int32).toNatClampNeg) (xs (4 : Int32).toNatClampNeg)
  · refine lv_aload_n hx hb d_Law_law_193 rfl (lv_at hl 3 rfl) ?_
    refine lv_aload_n hx hb d_Law_law_194 rfl (lv_at hl 4 rfl) ?_
    refine lv_iload hx hb d_Law_law_195 (lv_at hl 0 rfl) ?_
    refine lv_iconst (v := 1) hx hb d_Law_law_197 (by decide) ?_
    refine lv_iadd hx hb d_Law_law_198 ?_
    refine fg_topi (y := 1) (by decide) ?_
    refine va_sld hx hb hXs hbl hbA hS (by unfold vp_in; decide) d_Law_law_199 ?_
    refine lv_aload_n hx hb d_Law_law_200 rfl (lv_at hl 4 rfl) ?_
    refine lv_iload hx hb d_Law_law_201 (lv_at hl 0 rfl) ?_
    refine lv_iconst (v := 2) hx hb d_Law_law_203 (by decide) ?_
    refine lv_iadd hx hb d_Law_law_204 ?_
    refine fg_topi (y := 2) (by decide) ?_
    refine va_sld hx hb hXs hbl hbA hS (by unfold vp_in; decide) d_Law_law_205 ?_
    refine lv_aload_n hx hb d_Law_law_206 rfl (lv_at hl 4 rfl) ?_
    refine lv_iload hx hb d_Law_law_207 (lv_at hl 0 rfl) ?_
    refine lv_iconst (v := 3) hx hb d_Law_law_209 (by decide) ?_
    refine lv_iadd hx hb d_Law_law_210 ?_
    refine fg_topi (y := 3) (by decide) ?_
    refine va_sld hx hb hXs hbl hbA hS (by unfold vp_in; decide) d_Law_law_211 ?_
    refine lv_aload_n hx hb d_Law_law_212 rfl (lv_at hl 4 rfl) ?_
    refine lv_iload hx hb d_Law_law_213 (lv_at hl 0 rfl) ?_
    refine lv_iconst (v := 4) hx hb d_Law_law_215 (by decide) ?_
    refine lv_iadd hx hb d_Law_law_216 ?_
    refine fg_topi (y := 4) (by decide) ?_
    refine va_sld hx hb hXs hbl hbA hS (by unfold vp_in; decide) d_Law_law_217 ?_
    refine lv_aload_n hx hb d_Law_law_218 rfl (lv_at hl 1 rfl) ?_
    refine fg_theni (wr := [(ma, .inr (1, [.int 0, .ref r0, .int 0, .int 0, .int 0, .ref r1, .ref r2, .ref r3, .ref r4, .ref r5, .ref r6, .ref r7, .int 0, .ref r8, .int 0, .int 0, .ref r9, .ref r10, .int 0, .int 0, .int 0, .int 0, .int 0, .int 0, .int 0, .int 0, .int 0, .ref r11, .ref r12, .ref r13, .ref r14, .ref r15, .ref r16, .ref r17, .int 0, .ref r18, .ref r19, .long 0, .int 0, .ref r20, .int 0, .int 0, .int 0, .ref r21, .ref r22, .ref r23, .ref r24, .ref r25, .ref r26, .ref r27, .ref r28, .ref r29, .ref r30, .ref r31, .ref r32, .ref r33, .ref r34, .ref r35, .ref r36, .int 0, .ref r37, .ref r38, .int 0, .ref r39, .ref r40, .int 0, .ref r41, .ref r42, .int 0, .int 0, .int 0, .ref r43, .ref r44, .ref r45, .int 0])), (r1, .inl (j1, 4, .inl (fun _ => 0))), (r2, .inl (j2, 4, .inl (fun _ => 0))), (r3, .inl (j3, 4, .inl (fun _ => 0))), (r4, .inl (j4, 4, .inl (fun _ => 0))), (r5, .inl (j5, 256, .inl (fun _ => 0)))]) (fg_runSH (As := [.ref ga, .int (xs (1 : Int32).toNatClampNeg), .int (xs (2 : Int32).toNatClampNeg), .int (xs (3 : Int32).toNatClampNeg), .int (xs (4 : Int32).toNatClampNeg), .ref qo]) (rest := []) ⟨hx, hb, hml, hown, hts⟩ (c_L_mapO l D ga qt qs qc qh qf qe qm ks (fun _ => none) (xs (1 : Int32).toNatClampNeg) (xs (2 : Int32).toNatClampNeg) (xs (3 : Int32).toNatClampNeg) (xs (4 : Int32).toNatClampNeg) qo ko (fun _ => 0) H.size hl9 hok) (by show fg_nm y_Law_map 6; decide +kernel) u_803 u_804 u_180 u_805 ⟨Nat.le_of_ble_eq_true rfl, Nat.le_of_ble_eq_true rfl⟩ hX (hP.sub (ws' := [(ga, .inr (0, [.ref qt, .int 0, .ref qs, .int 0, .ref qc, .ref qh, .ref qf, .ref qe, .ref qm, .int 0, .int (-1), .int 0, .int 0, .int 0])), (qs, .inl (ks, 4, .inr (.inr (.inr (.inr (fun _ => none)))))), (qo, .inl (ko, 1, .inr (.inl (fun _ => 0))))]) [0, 2, 3] rfl) (hK.sub (tys' := [(ks, (.object "FilterGuard$Store")), (ko, .long)]) [0, 1] rfl) (hD.sub (ws' := [(ga, .inr (0, [.ref qt, .int 0, .ref qs, .int 0, .ref qc, .ref qh, .ref qf, .ref qe, .ref qm, .int 0, .int (-1), .int 0, .int 0, .int 0])), (qs, .inl (ks, 4, .inr (.inr (.inr (.inr (fun _ => none)))))), (qo, .inl (ko, 1, .inr (.inl (fun _ => 0))))]) [0, 2, 3] (by decide) rfl) ((hz.kept hS.2.1).narrow (va_free hD hS hA [0, 2, 3] rfl)) hy rfl hl.1 (Nat.le_of_ble_eq_true rfl) d_Law_law_219 ⟨(Nat.le_of_ble_eq_true rfl), (Nat.le_of_ble_eq_true rfl)⟩) hP hD hK hS hA [0, 2, 3] [1, 4, 5, 6, 7, 8] rfl rfl (by decide) (by decide) (fun r219_1 u H locs hw219_0 hP hD hK hS => ?_)
    obtain ⟨f1_219_1, rfl⟩ : ∃ z, z = u := ⟨_, rfl⟩
    try dsimp only at hw219_0
    have hP : va_P D classes [(ma, .inr (1, [.int 0, .ref r0, .int 0, .int 0, .int 0, .ref r1, .ref r2, .ref r3, .ref r4, .ref r5, .ref r6, .ref r7, .int 0, .ref r8, .int 0, .int 0, .ref r9, .ref r10, .int 0, .int 0, .int 0, .int 0, .int 0, .int 0, .int 0, .int 0, .int 0, .ref r11, .ref r12, .ref r13, .ref r14, .ref r15, .ref r16, .ref r17, .int 0, .ref r18, .ref r19, .long 0, .int 0, .ref r20, .int 0, .int 0, .int 0, .ref r21, .ref r22, .ref r23, .ref r24, .ref r25, .ref r26, .ref r27, .ref r28, .ref r29, .ref r30, .ref r31, .ref r32, .ref r33, .ref r34, .ref r35, .ref r36, .int 0, .ref r37, .ref r38, .int 0, .ref r39, .ref r40, .int 0, .ref r41, .ref r42, .int 0, .int 0, .int 0, .ref r43, .ref r44, .ref r45, .int 0])), (r1, .inl (j1, 4, .inl (fun _ => 0))), (r2, .inl (j2, 4, .inl (fun _ => 0))), (r3, .inl (j3, 4, .inl (fun _ => 0))), (r4, .inl (j4, 4, .inl (fun _ => 0))), (r5, .inl (j5, 256, .inl (fun _ => 0))), (qo, .inl (ko, 1, .inr (.inl f1_219_1)))] H := hP
    have hD : va_D A [(ma, .inr (1, [.int 0, .ref r0, .int 0, .int 0, .int 0, .ref r1, .ref r2, .ref r3, .ref r4, .ref r5, .ref r6, .ref r7, .int 0, .ref r8, .int 0, .int 0, .ref r9, .ref r10, .int 0, .int 0, .int 0, .int 0, .int 0, .int 0, .int 0, .int 0, .int 0, .ref r11, .ref r12, .ref r13, .ref r14, .ref r15, .ref r16, .ref r17, .int 0, .ref r18, .ref r19, .long 0, .int 0, .ref r20, .int 0, .int 0, .int 0, .ref r21, .ref r22, .ref r23, .ref r24, .ref r25, .ref r26, .ref r27, .ref r28, .ref r29, .ref r30, .ref r31, .ref r32, .ref r33, .ref r34, .ref r35, .ref r36, .int 0, .ref r37, .ref r38, .int 0, .ref r39, .ref r40, .int 0, .ref r41, .ref r42, .int 0, .int 0, .int 0, .ref r43, .ref r44, .ref r45, .int 0])), (r1, .inl (j1, 4, .inl (fun _ => 0))), (r2, .inl (j2, 4, .inl (fun _ => 0))), (r3, .inl (j3, 4, .inl (fun _ => 0))), (r4, .inl (j4, 4, .inl (fun _ => 0))), (r5, .inl (j5, 256, .inl (fun _ => 0))), (qo, .inl (ko, 1, .inr (.inl f1_219_1)))] := hD
    have hK : va_K D classes [(ks, (.object "FilterGuard$Store")), (ko, .long), (j1, .int), (j2, .int), (j3, .int), (j4, .int), (j5, .boolean)] s := hK
    refine W.widen (k := 402) (n := 512507) (Nat.le_of_ble_eq_true rfl) (Nat.le_of_ble_eq_true rfl) ?_
    obtain ⟨hra, hrb⟩ := hw219_0
    subst hra
    refine lv_istore (lv' := [(5, .int 0), (4, .int 0), (3, .ref qo), (2, .ref ma), (1, .ref ga), (0, .ref b)]) hx hb d_Law_law_222 hl (by decide) rfl (fun ls hl => ?_)
    refine lv_aload_n hx hb d_Law_law_224 rfl (lv_at hl 3 rfl) ?_
    refine lv_aload_n hx hb d_Law_law_225 rfl (lv_at hl 5 rfl) ?_
    refine lv_iload hx hb d_Law_law_226 (lv_at hl 1 rfl) ?_
    refine lv_iconst (v := 1) hx hb d_Law_law_228 (by decide) ?_
    refine lv_iadd hx hb d_Law_law_229 ?_
    refine fg_topi (y := 1) (by decide) ?_
    refine va_sld hx hb hXs hbl hbA hS (by unfold vp_in; decide) d_Law_law_230 ?_
    refine lv_aload_n hx hb d_Law_law_231 rfl (lv_at hl 5 rfl) ?_
    refine lv_iload hx hb d_Law_law_232 (lv_at hl 1 rfl) ?_
    refine lv_iconst (v := 2) hx hb d_Law_law_234 (by decide) ?_
    refine lv_iadd hx hb d_Law_law_235 ?_
    refine fg_topi (y := 2) (by decide) ?_
    refine va_sld hx hb hXs hbl hbA hS (by unfold vp_in; decide) d_Law_law_236 ?_
    refine lv_aload_n hx hb d_Law_law_237 rfl (lv_at hl 5 rfl) ?_
    refine lv_iload hx hb d_Law_law_238 (lv_at hl 1 rfl) ?_
    refine lv_iconst (v := 3) hx hb d_Law_law_240 (by decide) ?_
    refine lv_iadd hx hb d_Law_law_241 ?_
    refine fg_topi (y := 3) (by decide) ?_
    refine va_sld hx hb hXs hbl hbA hS (by unfold vp_in; decide) d_Law_law_242 ?_
    refine lv_aload_n hx hb d_Law_law_243 rfl (lv_at hl 5 rfl) ?_
    refine lv_iload hx hb d_Law_law_244 (lv_at hl 1 rfl) ?_
    refine lv_iconst (v := 4) hx hb d_Law_law_246 (by decide) ?_
    refine lv_iadd hx hb d_Law_law_247 ?_
    refine fg_topi (y := 4) (by decide) ?_
    refine va_sld hx hb hXs hbl hbA hS (by unfold vp_in; decide) d_Law_law_248 ?_
    refine fg_theni (wr := [(qo, .inl (ko, 1, .inr (.inl f1_219_1)))]) (fg_runV (C := "FilterGuardModel") (As := [.int (xs (1 : Int32).toNatClampNeg), .int (xs (2 : Int32).toNatClampNeg), .int (xs (3 : Int32).toNatClampNeg), .int (xs (4 : Int32).toNatClampNeg)]) (rest := []) (ci := 1) (q0 := 0) ⟨hx, hb, hml, hown, hts⟩ (c_M_mapO l D ma r0 r1 r2 r3 r4 r5 r6 r7 r8 r9 r10 r11 r12 r13 r14 r15 r16 r17 r18 r19 r20 r21 r22 r23 r24 r25 r26 r27 r28 r29 r30 r31 r32 r33 r34 r35 r36 r37 r38 r39 r40 r41 r42 r43 r44 r45 j1 j2 j3 j4 j5 (fun _ => 0) (fun _ => 0) (fun _ => 0) (fun _ => 0) (fun _ => 0) (xs (1 : Int32).toNatClampNeg) (xs (2 : Int32).toNatClampNeg) (xs (3 : Int32).toNatClampNeg) (xs (4 : Int32).toNatClampNeg) H.size hok) rfl (by show fg_nm y_M_map 4; decide +kernel) u_2419 u_2420 u_2421 u_192 u_2422 ⟨Nat.le_of_ble_eq_true rfl, Nat.le_of_ble_eq_true rfl⟩ hX (hP.sub (ws' := [(ma, .inr (1, [.int 0, .ref r0, .int 0, .int 0, .int 0, .ref r1, .ref r2, .ref r3, .ref r4, .ref r5, .ref r6, .ref r7, .int 0, .ref r8, .int 0, .int 0, .ref r9, .ref r10, .int 0, .int 0, .int 0, .int 0, .int 0, .int 0, .int 0, .int 0, .int 0, .ref r11, .ref r12, .ref r13, .ref r14, .ref r15, .ref r16, .ref r17, .int 0, .ref r18, .ref r19, .long 0, .int 0, .ref r20, .int 0, .int 0, .int 0, .ref r21, .ref r22, .ref r23, .ref r24, .ref r25, .ref r26, .ref r27, .ref r28, .ref r29, .ref r30, .ref r31, .ref r32, .ref r33, .ref r34, .ref r35, .ref r36, .int 0, .ref r37, .ref r38, .int 0, .ref r39, .ref r40, .int 0, .ref r41, .ref r42, .int 0, .int 0, .int 0, .ref r43, .ref r44, .ref r45, .int 0])), (r1, .inl (j1, 4, .inl (fun _ => 0))), (r2, .inl (j2, 4, .inl (fun _ => 0))), (r3, .inl (j3, 4, .inl (fun _ => 0))), (r4, .inl (j4, 4, .inl (fun _ => 0))), (r5, .inl (j5, 256, .inl (fun _ => 0)))]) [0, 1, 2, 3, 4, 5] rfl) (hK.sub (tys' := [(j1, .int), (j2, .int), (j3, .int), (j4, .int), (j5, .boolean)]) [2, 3, 4, 5, 6] rfl) (hD.sub (ws' := [(ma, .inr (1, [.int 0, .ref r0, .int 0, .int 0, .int 0, .ref r1, .ref r2, .ref r3, .ref r4, .ref r5, .ref r6, .ref r7, .int 0, .ref r8, .int 0, .int 0, .ref r9, .ref r10, .int 0, .int 0, .int 0, .int 0, .int 0, .int 0, .int 0, .int 0, .int 0, .ref r11, .ref r12, .ref r13, .ref r14, .ref r15, .ref r16, .ref r17, .int 0, .ref r18, .ref r19, .long 0, .int 0, .ref r20, .int 0, .int 0, .int 0, .ref r21, .ref r22, .ref r23, .ref r24, .ref r25, .ref r26, .ref r27, .ref r28, .ref r29, .ref r30, .ref r31, .ref r32, .ref r33, .ref r34, .ref r35, .ref r36, .int 0, .ref r37, .ref r38, .int 0, .ref r39, .ref r40, .int 0, .ref r41, .ref r42, .int 0, .int 0, .int 0, .ref r43, .ref r44, .ref r45, .int 0])), (r1, .inl (j1, 4, .inl (fun _ => 0))), (r2, .inl (j2, 4, .inl (fun _ => 0))), (r3, .inl (j3, 4, .inl (fun _ => 0))), (r4, .inl (j4, 4, .inl (fun _ => 0))), (r5, .inl (j5, 256, .inl (fun _ => 0)))]) [0, 1, 2, 3, 4, 5] (by decide) rfl) rfl rfl rfl rfl hl.1 (Nat.le_of_ble_eq_true rfl) d_Law_law_249 ⟨(Nat.le_of_ble_eq_true rfl), (Nat.le_of_ble_eq_true rfl)⟩) hP hD hK hS hA [0, 1, 2, 3, 4, 5] [6] rfl rfl (by decide) (by decide) (fun r249_3 u H locs hw249_2 hP hD hK hS => ?_)
    try dsimp only at hw249_2
    have hP : va_P D classes [(qo, .inl (ko, 1, .inr (.inl f1_219_1))), (ma, .inr (1, [.int 0, .ref r0, .int 0, .int 1, .int 0, .ref r1, .ref r2, .ref r3, .ref r4, .ref r5, .ref r6, .ref r7, .int 0, .ref r8, .int 0, .int 0, .ref r9, .ref r10, .int 0, .int 0, .int 0, .int 0, .int 0, .int 0, .int 0, .int 0, .int 0, .ref r11, .ref r12, .ref r13, .ref r14, .ref r15, .ref r16, .ref r17, .int 0, .ref r18, .ref r19, .long 0, .int 0, .ref r20, .int 0, .int 0, .int 0, .ref r21, .ref r22, .ref r23, .ref r24, .ref r25, .ref r26, .ref r27, .ref r28, .ref r29, .ref r30, .ref r31, .ref r32, .ref r33, .ref r34, .ref r35, .ref r36, .int 0, .ref r37, .ref r38, .int 0, .ref r39, .ref r40, .int 0, .ref r41, .ref r42, .int 0, .int 0, .int 0, .ref r43, .ref r44, .ref r45, .int 0]))] H := hP
    have hD : va_D A [(qo, .inl (ko, 1, .inr (.inl f1_219_1))), (ma, .inr (1, [.int 0, .ref r0, .int 0, .int 1, .int 0, .ref r1, .ref r2, .ref r3, .ref r4, .ref r5, .ref r6, .ref r7, .int 0, .ref r8, .int 0, .int 0, .ref r9, .ref r10, .int 0, .int 0, .int 0, .int 0, .int 0, .int 0, .int 0, .int 0, .int 0, .ref r11, .ref r12, .ref r13, .ref r14, .ref r15, .ref r16, .ref r17, .int 0, .ref r18, .ref r19, .long 0, .int 0, .ref r20, .int 0, .int 0, .int 0, .ref r21, .ref r22, .ref r23, .ref r24, .ref r25, .ref r26, .ref r27, .ref r28, .ref r29, .ref r30, .ref r31, .ref r32, .ref r33, .ref r34, .ref r35, .ref r36, .int 0, .ref r37, .ref r38, .int 0, .ref r39, .ref r40, .int 0, .ref r41, .ref r42, .int 0, .int 0, .int 0, .ref r43, .ref r44, .ref r45, .int 0]))] := hD
    have hK : va_K D classes [(ks, (.object "FilterGuard$Store")), (ko, .long), (j1, .int), (j2, .int), (j3, .int), (j4, .int), (j5, .boolean)] s := hK
    refine W.widen (k := 402) (n := 512507) (Nat.le_of_ble_eq_true rfl) (Nat.le_of_ble_eq_true rfl) ?_
    subst hw249_2
    refine lv_istore (lv' := [(6, .int 0), (5, .int 0), (4, .int 0), (3, .ref qo), (2, .ref ma), (1, .ref ga), (0, .ref b)]) hx hb d_Law_law_252 hl (by decide) rfl (fun ls hl => ?_)
    refine lv_aload_n hx hb d_Law_law_254 rfl (lv_at hl 4 rfl) ?_
    refine fg_theni (wr := [(qo, .inl (ko, 1, .inr (.inl f1_219_1)))]) (fg_runV (C := "FilterGuardModel") (As := []) (rest := []) (ci := 1) (q0 := 0) ⟨hx, hb, hml, hown, hts⟩ (c_M_thrown l D ma r0 r1 r2 r3 r4 r5 r6 r7 r8 r9 r10 r11 r12 r13 r14 r15 r16 r17 r18 r19 r20 r21 r22 r23 r24 r25 r26 r27 r28 r29 r30 r31 r32 r33 r34 r35 r36 r37 r38 r39 r40 r41 r42 r43 r44 r45 0 1 H.size) rfl (by show fg_nm y_M_thrown 0; decide +kernel) u_1967 u_1968 u_1969 u_192 u_1970 ⟨Nat.le_of_ble_eq_true rfl, Nat.le_of_ble_eq_true rfl⟩ hX (hP.sub (ws' := [(ma, .inr (1, [.int 0, .ref r0, .int 0, .int 1, .int 0, .ref r1, .ref r2, .ref r3, .ref r4, .ref r5, .ref r6, .ref r7, .int 0, .ref r8, .int 0, .int 0, .ref r9, .ref r10, .int 0, .int 0, .int 0, .int 0, .int 0, .int 0, .int 0, .int 0, .int 0, .ref r11, .ref r12, .ref r13, .ref r14, .ref r15, .ref r16, .ref r17, .int 0, .ref r18, .ref r19, .long 0, .int 0, .ref r20, .int 0, .int 0, .int 0, .ref r21, .ref r22, .ref r23, .ref r24, .ref r25, .ref r26, .ref r27, .ref r28, .ref r29, .ref r30, .ref r31, .ref r32, .ref r33, .ref r34, .ref r35, .ref r36, .int 0, .ref r37, .ref r38, .int 0, .ref r39, .ref r40, .int 0, .ref r41, .ref r42, .int 0, .int 0, .int 0, .ref r43, .ref r44, .ref r45, .int 0]))]) [1] rfl) (hK.sub (tys' := []) [] rfl) (hD.sub (ws' := [(ma, .inr (1, [.int 0, .ref r0, .int 0, .int 1, .int 0, .ref r1, .ref r2, .ref r3, .ref r4, .ref r5, .ref r6, .ref r7, .int 0, .ref r8, .int 0, .int 0, .ref r9, .ref r10, .int 0, .int 0, .int 0, .int 0, .int 0, .int 0, .int 0, .int 0, .int 0, .ref r11, .ref r12, .ref r13, .ref r14, .ref r15, .ref r16, .ref r17, .int 0, .ref r18, .ref r19, .long 0, .int 0, .ref r20, .int 0, .int 0, .int 0, .ref r21, .ref r22, .ref r23, .ref r24, .ref r25, .ref r26, .ref r27, .ref r28, .ref r29, .ref r30, .ref r31, .ref r32, .ref r33, .ref r34, .ref r35, .ref r36, .int 0, .ref r37, .ref r38, .int 0, .ref r39, .ref r40, .int 0, .ref r41, .ref r42, .int 0, .int 0, .int 0, .ref r43, .ref r44, .ref r45, .int 0]))]) [1] (by decide) rfl) rfl rfl rfl rfl hl.1 (Nat.le_of_ble_eq_true rfl) d_Law_law_255 ⟨(Nat.le_of_ble_eq_true rfl), (Nat.le_of_ble_eq_true rfl)⟩) hP hD hK hS hA [1] [0] rfl rfl (by decide) (by decide) (fun r255_4 u H locs hw255_3 hP hD hK hS => ?_)
    try dsimp only at hw255_3
    have hP : va_P D classes [(qo, .inl (ko, 1, .inr (.inl f1_219_1))), (ma, .inr (1, [.int 0, .ref r0, .int 0, .int 1, .int 0, .ref r1, .ref r2, .ref r3, .ref r4, .ref r5, .ref r6, .ref r7, .int 0, .ref r8, .int 0, .int 0, .ref r9, .ref r10, .int 0, .int 0, .int 0, .int 0, .int 0, .int 0, .int 0, .int 0, .int 0, .ref r11, .ref r12, .ref r13, .ref r14, .ref r15, .ref r16, .ref r17, .int 0, .ref r18, .ref r19, .long 0, .int 0, .ref r20, .int 0, .int 0, .int 0, .ref r21, .ref r22, .ref r23, .ref r24, .ref r25, .ref r26, .ref r27, .ref r28, .ref r29, .ref r30, .ref r31, .ref r32, .ref r33, .ref r34, .ref r35, .ref r36, .int 0, .ref r37, .ref r38, .int 0, .ref r39, .ref r40, .int 0, .ref r41, .ref r42, .int 0, .int 0, .int 0, .ref r43, .ref r44, .ref r45, .int 0]))] H := hP
    have hD : va_D A [(qo, .inl (ko, 1, .inr (.inl f1_219_1))), (ma, .inr (1, [.int 0, .ref r0, .int 0, .int 1, .int 0, .ref r1, .ref r2, .ref r3, .ref r4, .ref r5, .ref r6, .ref r7, .int 0, .ref r8, .int 0, .int 0, .ref r9, .ref r10, .int 0, .int 0, .int 0, .int 0, .int 0, .int 0, .int 0, .int 0, .int 0, .ref r11, .ref r12, .ref r13, .ref r14, .ref r15, .ref r16, .ref r17, .int 0, .ref r18, .ref r19, .long 0, .int 0, .ref r20, .int 0, .int 0, .int 0, .ref r21, .ref r22, .ref r23, .ref r24, .ref r25, .ref r26, .ref r27, .ref r28, .ref r29, .ref r30, .ref r31, .ref r32, .ref r33, .ref r34, .ref r35, .ref r36, .int 0, .ref r37, .ref r38, .int 0, .ref r39, .ref r40, .int 0, .ref r41, .ref r42, .int 0, .int 0, .int 0, .ref r43, .ref r44, .ref r45, .int 0]))] := hD
    have hK : va_K D classes [(ks, (.object "FilterGuard$Store")), (ko, .long), (j1, .int), (j2, .int), (j3, .int), (j4, .int), (j5, .boolean)] s := hK
    refine W.widen (k := 402) (n := 512507) (Nat.le_of_ble_eq_true rfl) (Nat.le_of_ble_eq_true rfl) ?_
    subst hw255_3
    refine lv_iload hx hb d_Law_law_258 (lv_at hl 1 rfl) ?_
    refine lv_icmp_eq (tgt := 265) hx hb d_Law_law_260 (by decide) (fun c_5 => ?_) (fun c_5 => absurd (by decide) c_5)
    refine lv_iload hx hb d_Law_law_265 (lv_at hl 1 rfl) ?_
    refine lv_if_ne (tgt := 282) hx hb d_Law_law_267 (by decide) (fun c_6 => absurd (by decide) c_6) (fun c_6 => ?_)
    refine lv_aload_n hx hb d_Law_law_270 rfl (lv_at hl 3 rfl) ?_
    refine lv_iconst (v := 0) hx hb d_Law_law_271 (by decide) ?_
    refine va_lald hx hb hK hP 0 1 rfl rfl (by unfold vp_in; decide) d_Law_law_272 ?_
    refine fg_topl (y := 0) hrb ?_
    refine lv_iload hx hb d_Law_law_273 (lv_at hl 0 rfl) ?_
    refine lv_i2l (v := 0) hx hb d_Law_law_275 (by decide) ?_
    refine W.lcmp hx hb d_Law_law_276 ?_
    refine fg_topi (y := 0) (by decide) ?_
    refine lv_if_eq (tgt := 282) hx hb d_Law_law_277 (by decide) (fun c_7 => ?_) (fun c_7 => absurd (by decide) c_7)
    refine lv_goto (tgt := 1029) hx hb d_Law_law_282 (by decide) ?_
    refine lv_iinc (v := 6) (lv' := [(4, .int 6), (6, .int 0), (5, .int 0), (3, .ref qo), (2, .ref ma), (1, .ref ga), (0, .ref b)]) hx hb d_Law_law_1029 hl (k := 2) rfl (by decide) (by decide) rfl (fun ls hl => ?_)
    refine lv_goto (tgt := 23) hx hb d_Law_law_1032 (by decide) ?_
    refine lv_iload hx hb d_Law_law_23 (lv_at hl 0 rfl) ?_
    refine lv_aload_n hx hb d_Law_law_25 rfl (lv_at hl 6 rfl) ?_
    refine va_slen hx hb hXs hbl hbA hS d_Law_law_26 ?_
    refine fg_topi (y := 6) (by decide) ?_
    refine lv_bipush (v := 6) hx hb d_Law_law_27 (by decide) ?_
    refine lv_isub hx hb d_Law_law_29 ?_
    refine fg_topi (y := 0) (by decide) ?_
    refine lv_icmp_gt (tgt := 1035) hx hb d_Law_law_30 (by decide) (fun c_8 => ?_) (fun c_8 => absurd (by decide) c_8)
    refine lv_iconst (v := 1) hx hb d_Law_law_1035 (by decide) ?_
    refine va_forget (fun q hq => hA2 _ (hS.2.2 q hq)) ?_
    refine W.widen (k := 600002) (n := 7302232) (Nat.le_of_ble_eq_true rfl) (Nat.le_of_ble_eq_true rfl) ?_
    exact lw_ret hx hb hr hlocks d_Law_law_1036
  · refine lv_aload_n hx hb d_Law_law_193 rfl (lv_at hl 3 rfl) ?_
    refine lv_aload_n hx hb d_Law_law_194 rfl (lv_at hl 4 rfl) ?_
    refine lv_iload hx hb d_Law_law_195 (lv_at hl 0 rfl) ?_
    refine lv_iconst (v := 1) hx hb d_Law_law_197 (by decide) ?_
    refine lv_iadd hx hb d_Law_law_198 ?_
    refine fg_topi (y := 1) (by decide) ?_
    refine va_sld hx hb hXs hbl hbA hS (by unfold vp_in; decide) d_Law_law_199 ?_
    refine lv_aload_n hx hb d_Law_law_200 rfl (lv_at hl 4 rfl) ?_
    refine lv_iload hx hb d_Law_law_201 (lv_at hl 0 rfl) ?_
    refine lv_iconst (v := 2) hx hb d_Law_law_203 (by decide) ?_
    refine lv_iadd hx hb d_Law_law_204 ?_
    refine fg_topi (y := 2) (by decide) ?_
    refine va_sld hx hb hXs hbl hbA hS (by unfold vp_in; decide) d_Law_law_205 ?_
    refine lv_aload_n hx hb d_Law_law_206 rfl (lv_at hl 4 rfl) ?_
    refine lv_iload hx hb d_Law_law_207 (lv_at hl 0 rfl) ?_
    refine lv_iconst (v := 3) hx hb d_Law_law_209 (by decide) ?_
    refine lv_iadd hx hb d_Law_law_210 ?_
    refine fg_topi (y := 3) (by decide) ?_
    refine va_sld hx hb hXs hbl hbA hS (by unfold vp_in; decide) d_Law_law_211 ?_
    refine lv_aload_n hx hb d_Law_law_212 rfl (lv_at hl 4 rfl) ?_
    refine lv_iload hx hb d_Law_law_213 (lv_at hl 0 rfl) ?_
    refine lv_iconst (v := 4) hx hb d_Law_law_215 (by decide) ?_
    refine lv_iadd hx hb d_Law_law_216 ?_
    refine fg_topi (y := 4) (by decide) ?_
    refine va_sld hx hb hXs hbl hbA hS (by unfold vp_in; decide) d_Law_law_217 ?_
    refine lv_aload_n hx hb d_Law_law_218 rfl (lv_at hl 1 rfl) ?_
    refine fg_theni (wr := [(ma, .inr (1, [.int 0, .ref r0, .int 0, .int 0, .int 0, .ref r1, .ref r2, .ref r3, .ref r4, .ref r5, .ref r6, .ref r7, .int 0, .ref r8, .int 0, .int 0, .ref r9, .ref r10, .int 0, .int 0, .int 0, .int 0, .int 0, .int 0, .int 0, .int 0, .int 0, .ref r11, .ref r12, .ref r13, .ref r14, .ref r15, .ref r16, .ref r17, .int 0, .ref r18, .ref r19, .long 0, .int 0, .ref r20, .int 0, .int 0, .int 0, .ref r21, .ref r22, .ref r23, .ref r24, .ref r25, .ref r26, .ref r27, .ref r28, .ref r29, .ref r30, .ref r31, .ref r32, .ref r33, .ref r34, .ref r35, .ref r36, .int 0, .ref r37, .ref r38, .int 0, .ref r39, .ref r40, .int 0, .ref r41, .ref r42, .int 0, .int 0, .int 0, .ref r43, .ref r44, .ref r45, .int 0])), (qs, .inl (ks, 4, .inr (.inr (.inr (.inr (fun _ => none)))))), (qo, .inl (ko, 1, .inr (.inl (fun _ => 0)))), (r1, .inl (j1, 4, .inl (fun _ => 0))), (r2, .inl (j2, 4, .inl (fun _ => 0))), (r3, .inl (j3, 4, .inl (fun _ => 0))), (r4, .inl (j4, 4, .inl (fun _ => 0))), (r5, .inl (j5, 256, .inl (fun _ => 0)))]) (fg_runSH (As := [.ref ga, .int (xs (1 : Int32).toNatClampNeg), .int (xs (2 : Int32).toNatClampNeg), .int (xs (3 : Int32).toNatClampNeg), .int (xs (4 : Int32).toNatClampNeg), .ref qo]) (rest := []) ⟨hx, hb, hml, hown, hts⟩ (c_L_mapT l D ga qt qs qc qh qf qe qm (xs (1 : Int32).toNatClampNeg) (xs (2 : Int32).toNatClampNeg) (xs (3 : Int32).toNatClampNeg) (xs (4 : Int32).toNatClampNeg) qo H.size hl9 hok) (by show fg_nm y_Law_map 6; decide +kernel) u_803 u_804 u_180 u_805 ⟨Nat.le_of_ble_eq_true rfl, Nat.le_of_ble_eq_true rfl⟩ hX (hP.sub (ws' := [(ga, .inr (0, [.ref qt, .int 0, .ref qs, .int 0, .ref qc, .ref qh, .ref qf, .ref qe, .ref qm, .int 0, .int (-1), .int 0, .int 0, .int 0]))]) [0] rfl) (hK.sub (tys' := []) [] rfl) (hD.sub (ws' := [(ga, .inr (0, [.ref qt, .int 0, .ref qs, .int 0, .ref qc, .ref qh, .ref qf, .ref qe, .ref qm, .int 0, .int (-1), .int 0, .int 0, .int 0]))]) [0] (by decide) rfl) ((hz.kept hS.2.1).narrow (va_free hD hS hA [0] rfl)) hy rfl hl.1 (Nat.le_of_ble_eq_true rfl) d_Law_law_219 ⟨(Nat.le_of_ble_eq_true rfl), (Nat.le_of_ble_eq_true rfl)⟩) hP hD hK hS hA [0] [1, 2, 3, 4, 5, 6, 7, 8] rfl rfl (by decide) (by decide) (fun r219_9 u H locs hw219_8 hP hD hK hS => ?_)
    try dsimp only at hw219_8
    have hP : va_P D classes [(ma, .inr (1, [.int 0, .ref r0, .int 0, .int 0, .int 0, .ref r1, .ref r2, .ref r3, .ref r4, .ref r5, .ref r6, .ref r7, .int 0, .ref r8, .int 0, .int 0, .ref r9, .ref r10, .int 0, .int 0, .int 0, .int 0, .int 0, .int 0, .int 0, .int 0, .int 0, .ref r11, .ref r12, .ref r13, .ref r14, .ref r15, .ref r16, .ref r17, .int 0, .ref r18, .ref r19, .long 0, .int 0, .ref r20, .int 0, .int 0, .int 0, .ref r21, .ref r22, .ref r23, .ref r24, .ref r25, .ref r26, .ref r27, .ref r28, .ref r29, .ref r30, .ref r31, .ref r32, .ref r33, .ref r34, .ref r35, .ref r36, .int 0, .ref r37, .ref r38, .int 0, .ref r39, .ref r40, .int 0, .ref r41, .ref r42, .int 0, .int 0, .int 0, .ref r43, .ref r44, .ref r45, .int 0])), (qs, .inl (ks, 4, .inr (.inr (.inr (.inr (fun _ => none)))))), (qo, .inl (ko, 1, .inr (.inl (fun _ => 0)))), (r1, .inl (j1, 4, .inl (fun _ => 0))), (r2, .inl (j2, 4, .inl (fun _ => 0))), (r3, .inl (j3, 4, .inl (fun _ => 0))), (r4, .inl (j4, 4, .inl (fun _ => 0))), (r5, .inl (j5, 256, .inl (fun _ => 0))), (ga, .inr (0, [.ref qt, .int 0, .ref qs, .int 0, .ref qc, .ref qh, .ref qf, .ref qe, .ref qm, .int 0, .int (-1), .int 0, .int 0, .int 0]))] H := hP
    have hD : va_D A [(ma, .inr (1, [.int 0, .ref r0, .int 0, .int 0, .int 0, .ref r1, .ref r2, .ref r3, .ref r4, .ref r5, .ref r6, .ref r7, .int 0, .ref r8, .int 0, .int 0, .ref r9, .ref r10, .int 0, .int 0, .int 0, .int 0, .int 0, .int 0, .int 0, .int 0, .int 0, .ref r11, .ref r12, .ref r13, .ref r14, .ref r15, .ref r16, .ref r17, .int 0, .ref r18, .ref r19, .long 0, .int 0, .ref r20, .int 0, .int 0, .int 0, .ref r21, .ref r22, .ref r23, .ref r24, .ref r25, .ref r26, .ref r27, .ref r28, .ref r29, .ref r30, .ref r31, .ref r32, .ref r33, .ref r34, .ref r35, .ref r36, .int 0, .ref r37, .ref r38, .int 0, .ref r39, .ref r40, .int 0, .ref r41, .ref r42, .int 0, .int 0, .int 0, .ref r43, .ref r44, .ref r45, .int 0])), (qs, .inl (ks, 4, .inr (.inr (.inr (.inr (fun _ => none)))))), (qo, .inl (ko, 1, .inr (.inl (fun _ => 0)))), (r1, .inl (j1, 4, .inl (fun _ => 0))), (r2, .inl (j2, 4, .inl (fun _ => 0))), (r3, .inl (j3, 4, .inl (fun _ => 0))), (r4, .inl (j4, 4, .inl (fun _ => 0))), (r5, .inl (j5, 256, .inl (fun _ => 0))), (ga, .inr (0, [.ref qt, .int 0, .ref qs, .int 0, .ref qc, .ref qh, .ref qf, .ref qe, .ref qm, .int 0, .int (-1), .int 0, .int 0, .int 0]))] := hD
    have hK : va_K D classes [(ks, (.object "FilterGuard$Store")), (ko, .long), (j1, .int), (j2, .int), (j3, .int), (j4, .int), (j5, .boolean)] s := hK
    refine W.widen (k := 399) (n := 507322) (Nat.le_of_ble_eq_true rfl) (Nat.le_of_ble_eq_true rfl) ?_
    subst hw219_8
    refine lv_istore (lv' := [(5, .int 1), (4, .int 0), (3, .ref qo), (2, .ref ma), (1, .ref ga), (0, .ref b)]) hx hb d_Law_law_222 hl (by decide) rfl (fun ls hl => ?_)
    refine lv_aload_n hx hb d_Law_law_224 rfl (lv_at hl 3 rfl) ?_
    refine lv_aload_n hx hb d_Law_law_225 rfl (lv_at hl 5 rfl) ?_
    refine lv_iload hx hb d_Law_law_226 (lv_at hl 1 rfl) ?_
    refine lv_iconst (v := 1) hx hb d_Law_law_228 (by decide) ?_
    refine lv_iadd hx hb d_Law_law_229 ?_
    refine fg_topi (y := 1) (by decide) ?_
    refine va_sld hx hb hXs hbl hbA hS (by unfold vp_in; decide) d_Law_law_230 ?_
    refine lv_aload_n hx hb d_Law_law_231 rfl (lv_at hl 5 rfl) ?_
    refine lv_iload hx hb d_Law_law_232 (lv_at hl 1 rfl) ?_
    refine lv_iconst (v := 2) hx hb d_Law_law_234 (by decide) ?_
    refine lv_iadd hx hb d_Law_law_235 ?_
    refine fg_topi (y := 2) (by decide) ?_
    refine va_sld hx hb hXs hbl hbA hS (by unfold vp_in; decide) d_Law_law_236 ?_
    refine lv_aload_n hx hb d_Law_law_237 rfl (lv_at hl 5 rfl) ?_
    refine lv_iload hx hb d_Law_law_238 (lv_at hl 1 rfl) ?_
    refine lv_iconst (v := 3) hx hb d_Law_law_240 (by decide) ?_
    refine lv_iadd hx hb d_Law_law_241 ?_
    refine fg_topi (y := 3) (by decide) ?_
    refine va_sld hx hb hXs hbl hbA hS (by unfold vp_in; decide) d_Law_law_242 ?_
    refine lv_aload_n hx hb d_Law_law_243 rfl (lv_at hl 5 rfl) ?_
    refine lv_iload hx hb d_Law_law_244 (lv_at hl 1 rfl) ?_
    refine lv_iconst (v := 4) hx hb d_Law_law_246 (by decide) ?_
    refine lv_iadd hx hb d_Law_law_247 ?_
    refine fg_topi (y := 4) (by decide) ?_
    refine va_sld hx hb hXs hbl hbA hS (by unfold vp_in; decide) d_Law_law_248 ?_
    refine fg_theni (wr := [(qs, .inl (ks, 4, .inr (.inr (.inr (.inr (fun _ => none)))))), (qo, .inl (ko, 1, .inr (.inl (fun _ => 0)))), (r1, .inl (j1, 4, .inl (fun _ => 0))), (r2, .inl (j2, 4, .inl (fun _ => 0))), (r3, .inl (j3, 4, .inl (fun _ => 0))), (r4, .inl (j4, 4, .inl (fun _ => 0))), (r5, .inl (j5, 256, .inl (fun _ => 0))), (ga, .inr (0, [.ref qt, .int 0, .ref qs, .int 0, .ref qc, .ref qh, .ref qf, .ref qe, .ref qm, .int 0, .int (-1), .int 0, .int 0, .int 0]))]) (fg_runV (C := "FilterGuardModel") (As := [.int (xs (1 : Int32).toNatClampNeg), .int (xs (2 : Int32).toNatClampNeg), .int (xs (3 : Int32).toNatClampNeg), .int (xs (4 : Int32).toNatClampNeg)]) (rest := []) (ci := 1) (q0 := 0) ⟨hx, hb, hml, hown, hts⟩ (c_M_mapT l D ma r0 r1 r2 r3 r4 r5 r6 r7 r8 r9 r10 r11 r12 r13 r14 r15 r16 r17 r18 r19 r20 r21 r22 r23 r24 r25 r26 r27 r28 r29 r30 r31 r32 r33 r34 r35 r36 r37 r38 r39 r40 r41 r42 r43 r44 r45 (xs (1 : Int32).toNatClampNeg) (xs (2 : Int32).toNatClampNeg) (xs (3 : Int32).toNatClampNeg) (xs (4 : Int32).toNatClampNeg) H.size hok) rfl (by show fg_nm y_M_map 4; decide +kernel) u_2419 u_2420 u_2421 u_192 u_2422 ⟨Nat.le_of_ble_eq_true rfl, Nat.le_of_ble_eq_true rfl⟩ hX (hP.sub (ws' := [(ma, .inr (1, [.int 0, .ref r0, .int 0, .int 0, .int 0, .ref r1, .ref r2, .ref r3, .ref r4, .ref r5, .ref r6, .ref r7, .int 0, .ref r8, .int 0, .int 0, .ref r9, .ref r10, .int 0, .int 0, .int 0, .int 0, .int 0, .int 0, .int 0, .int 0, .int 0, .ref r11, .ref r12, .ref r13, .ref r14, .ref r15, .ref r16, .ref r17, .int 0, .ref r18, .ref r19, .long 0, .int 0, .ref r20, .int 0, .int 0, .int 0, .ref r21, .ref r22, .ref r23, .ref r24, .ref r25, .ref r26, .ref r27, .ref r28, .ref r29, .ref r30, .ref r31, .ref r32, .ref r33, .ref r34, .ref r35, .ref r36, .int 0, .ref r37, .ref r38, .int 0, .ref r39, .ref r40, .int 0, .ref r41, .ref r42, .int 0, .int 0, .int 0, .ref r43, .ref r44, .ref r45, .int 0]))]) [0] rfl) (hK.sub (tys' := []) [] rfl) (hD.sub (ws' := [(ma, .inr (1, [.int 0, .ref r0, .int 0, .int 0, .int 0, .ref r1, .ref r2, .ref r3, .ref r4, .ref r5, .ref r6, .ref r7, .int 0, .ref r8, .int 0, .int 0, .ref r9, .ref r10, .int 0, .int 0, .int 0, .int 0, .int 0, .int 0, .int 0, .int 0, .int 0, .ref r11, .ref r12, .ref r13, .ref r14, .ref r15, .ref r16, .ref r17, .int 0, .ref r18, .ref r19, .long 0, .int 0, .ref r20, .int 0, .int 0, .int 0, .ref r21, .ref r22, .ref r23, .ref r24, .ref r25, .ref r26, .ref r27, .ref r28, .ref r29, .ref r30, .ref r31, .ref r32, .ref r33, .ref r34, .ref r35, .ref r36, .int 0, .ref r37, .ref r38, .int 0, .ref r39, .ref r40, .int 0, .ref r41, .ref r42, .int 0, .int 0, .int 0, .ref r43, .ref r44, .ref r45, .int 0]))]) [0] (by decide) rfl) rfl rfl rfl rfl hl.1 (Nat.le_of_ble_eq_true rfl) d_Law_law_249 ⟨(Nat.le_of_ble_eq_true rfl), (Nat.le_of_ble_eq_true rfl)⟩) hP hD hK hS hA [0] [1, 2, 3, 4, 5, 6, 7, 8] rfl rfl (by decide) (by decide) (fun r249_10 u H locs hw249_9 hP hD hK hS => ?_)
    try dsimp only at hw249_9
    have hP : va_P D classes [(qs, .inl (ks, 4, .inr (.inr (.inr (.inr (fun _ => none)))))), (qo, .inl (ko, 1, .inr (.inl (fun _ => 0)))), (r1, .inl (j1, 4, .inl (fun _ => 0))), (r2, .inl (j2, 4, .inl (fun _ => 0))), (r3, .inl (j3, 4, .inl (fun _ => 0))), (r4, .inl (j4, 4, .inl (fun _ => 0))), (r5, .inl (j5, 256, .inl (fun _ => 0))), (ga, .inr (0, [.ref qt, .int 0, .ref qs, .int 0, .ref qc, .ref qh, .ref qf, .ref qe, .ref qm, .int 0, .int (-1), .int 0, .int 0, .int 0])), (ma, .inr (1, [.int 1, .ref r0, .int 0, .int 0, .int 0, .ref r1, .ref r2, .ref r3, .ref r4, .ref r5, .ref r6, .ref r7, .int 0, .ref r8, .int 0, .int 0, .ref r9, .ref r10, .int 0, .int 0, .int 0, .int 0, .int 0, .int 0, .int 0, .int 0, .int 0, .ref r11, .ref r12, .ref r13, .ref r14, .ref r15, .ref r16, .ref r17, .int 0, .ref r18, .ref r19, .long 0, .int 0, .ref r20, .int 0, .int 0, .int 0, .ref r21, .ref r22, .ref r23, .ref r24, .ref r25, .ref r26, .ref r27, .ref r28, .ref r29, .ref r30, .ref r31, .ref r32, .ref r33, .ref r34, .ref r35, .ref r36, .int 0, .ref r37, .ref r38, .int 0, .ref r39, .ref r40, .int 0, .ref r41, .ref r42, .int 0, .int 0, .int 0, .ref r43, .ref r44, .ref r45, .int 0]))] H := hP
    have hD : va_D A [(qs, .inl (ks, 4, .inr (.inr (.inr (.inr (fun _ => none)))))), (qo, .inl (ko, 1, .inr (.inl (fun _ => 0)))), (r1, .inl (j1, 4, .inl (fun _ => 0))), (r2, .inl (j2, 4, .inl (fun _ => 0))), (r3, .inl (j3, 4, .inl (fun _ => 0))), (r4, .inl (j4, 4, .inl (fun _ => 0))), (r5, .inl (j5, 256, .inl (fun _ => 0))), (ga, .inr (0, [.ref qt, .int 0, .ref qs, .int 0, .ref qc, .ref qh, .ref qf, .ref qe, .ref qm, .int 0, .int (-1), .int 0, .int 0, .int 0])), (ma, .inr (1, [.int 1, .ref r0, .int 0, .int 0, .int 0, .ref r1, .ref r2, .ref r3, .ref r4, .ref r5, .ref r6, .ref r7, .int 0, .ref r8, .int 0, .int 0, .ref r9, .ref r10, .int 0, .int 0, .int 0, .int 0, .int 0, .int 0, .int 0, .int 0, .int 0, .ref r11, .ref r12, .ref r13, .ref r14, .ref r15, .ref r16, .ref r17, .int 0, .ref r18, .ref r19, .long 0, .int 0, .ref r20, .int 0, .int 0, .int 0, .ref r21, .ref r22, .ref r23, .ref r24, .ref r25, .ref r26, .ref r27, .ref r28, .ref r29, .ref r30, .ref r31, .ref r32, .ref r33, .ref r34, .ref r35, .ref r36, .int 0, .ref r37, .ref r38, .int 0, .ref r39, .ref r40, .int 0, .ref r41, .ref r42, .int 0, .int 0, .int 0, .ref r43, .ref r44, .ref r45, .int 0]))] := hD
    have hK : va_K D classes [(ks, (.object "FilterGuard$Store")), (ko, .long), (j1, .int), (j2, .int), (j3, .int), (j4, .int), (j5, .boolean)] s := hK
    refine W.widen (k := 399) (n := 507322) (Nat.le_of_ble_eq_true rfl) (Nat.le_of_ble_eq_true rfl) ?_
    subst hw249_9
    refine lv_istore (lv' := [(6, .int 0), (5, .int 1), (4, .int 0), (3, .ref qo), (2, .ref ma), (1, .ref ga), (0, .ref b)]) hx hb d_Law_law_252 hl (by decide) rfl (fun ls hl => ?_)
    refine lv_aload_n hx hb d_Law_law_254 rfl (lv_at hl 4 rfl) ?_
    refine fg_theni (wr := [(qs, .inl (ks, 4, .inr (.inr (.inr (.inr (fun _ => none)))))), (qo, .inl (ko, 1, .inr (.inl (fun _ => 0)))), (r1, .inl (j1, 4, .inl (fun _ => 0))), (r2, .inl (j2, 4, .inl (fun _ => 0))), (r3, .inl (j3, 4, .inl (fun _ => 0))), (r4, .inl (j4, 4, .inl (fun _ => 0))), (r5, .inl (j5, 256, .inl (fun _ => 0))), (ga, .inr (0, [.ref qt, .int 0, .ref qs, .int 0, .ref qc, .ref qh, .ref qf, .ref qe, .ref qm, .int 0, .int (-1), .int 0, .int 0, .int 0]))]) (fg_runV (C := "FilterGuardModel") (As := []) (rest := []) (ci := 1) (q0 := 0) ⟨hx, hb, hml, hown, hts⟩ (c_M_thrown l D ma r0 r1 r2 r3 r4 r5 r6 r7 r8 r9 r10 r11 r12 r13 r14 r15 r16 r17 r18 r19 r20 r21 r22 r23 r24 r25 r26 r27 r28 r29 r30 r31 r32 r33 r34 r35 r36 r37 r38 r39 r40 r41 r42 r43 r44 r45 1 0 H.size) rfl (by show fg_nm y_M_thrown 0; decide +kernel) u_1967 u_1968 u_1969 u_192 u_1970 ⟨Nat.le_of_ble_eq_true rfl, Nat.le_of_ble_eq_true rfl⟩ hX (hP.sub (ws' := [(ma, .inr (1, [.int 1, .ref r0, .int 0, .int 0, .int 0, .ref r1, .ref r2, .ref r3, .ref r4, .ref r5, .ref r6, .ref r7, .int 0, .ref r8, .int 0, .int 0, .ref r9, .ref r10, .int 0, .int 0, .int 0, .int 0, .int 0, .int 0, .int 0, .int 0, .int 0, .ref r11, .ref r12, .ref r13, .ref r14, .ref r15, .ref r16, .ref r17, .int 0, .ref r18, .ref r19, .long 0, .int 0, .ref r20, .int 0, .int 0, .int 0, .ref r21, .ref r22, .ref r23, .ref r24, .ref r25, .ref r26, .ref r27, .ref r28, .ref r29, .ref r30, .ref r31, .ref r32, .ref r33, .ref r34, .ref r35, .ref r36, .int 0, .ref r37, .ref r38, .int 0, .ref r39, .ref r40, .int 0, .ref r41, .ref r42, .int 0, .int 0, .int 0, .ref r43, .ref r44, .ref r45, .int 0]))]) [8] rfl) (hK.sub (tys' := []) [] rfl) (hD.sub (ws' := [(ma, .inr (1, [.int 1, .ref r0, .int 0, .int 0, .int 0, .ref r1, .ref r2, .ref r3, .ref r4, .ref r5, .ref r6, .ref r7, .int 0, .ref r8, .int 0, .int 0, .ref r9, .ref r10, .int 0, .int 0, .int 0, .int 0, .int 0, .int 0, .int 0, .int 0, .int 0, .ref r11, .ref r12, .ref r13, .ref r14, .ref r15, .ref r16, .ref r17, .int 0, .ref r18, .ref r19, .long 0, .int 0, .ref r20, .int 0, .int 0, .int 0, .ref r21, .ref r22, .ref r23, .ref r24, .ref r25, .ref r26, .ref r27, .ref r28, .ref r29, .ref r30, .ref r31, .ref r32, .ref r33, .ref r34, .ref r35, .ref r36, .int 0, .ref r37, .ref r38, .int 0, .ref r39, .ref r40, .int 0, .ref r41, .ref r42, .int 0, .int 0, .int 0, .ref r43, .ref r44, .ref r45, .int 0]))]) [8] (by decide) rfl) rfl rfl rfl rfl hl.1 (Nat.le_of_ble_eq_true rfl) d_Law_law_255 ⟨(Nat.le_of_ble_eq_true rfl), (Nat.le_of_ble_eq_true rfl)⟩) hP hD hK hS hA [8] [0, 1, 2, 3, 4, 5, 6, 7] rfl rfl (by decide) (by decide) (fun r255_11 u H locs hw255_10 hP hD hK hS => ?_)
    try dsimp only at hw255_10
    have hP : va_P D classes [(qs, .inl (ks, 4, .inr (.inr (.inr (.inr (fun _ => none)))))), (qo, .inl (ko, 1, .inr (.inl (fun _ => 0)))), (r1, .inl (j1, 4, .inl (fun _ => 0))), (r2, .inl (j2, 4, .inl (fun _ => 0))), (r3, .inl (j3, 4, .inl (fun _ => 0))), (r4, .inl (j4, 4, .inl (fun _ => 0))), (r5, .inl (j5, 256, .inl (fun _ => 0))), (ga, .inr (0, [.ref qt, .int 0, .ref qs, .int 0, .ref qc, .ref qh, .ref qf, .ref qe, .ref qm, .int 0, .int (-1), .int 0, .int 0, .int 0])), (ma, .inr (1, [.int 1, .ref r0, .int 0, .int 0, .int 0, .ref r1, .ref r2, .ref r3, .ref r4, .ref r5, .ref r6, .ref r7, .int 0, .ref r8, .int 0, .int 0, .ref r9, .ref r10, .int 0, .int 0, .int 0, .int 0, .int 0, .int 0, .int 0, .int 0, .int 0, .ref r11, .ref r12, .ref r13, .ref r14, .ref r15, .ref r16, .ref r17, .int 0, .ref r18, .ref r19, .long 0, .int 0, .ref r20, .int 0, .int 0, .int 0, .ref r21, .ref r22, .ref r23, .ref r24, .ref r25, .ref r26, .ref r27, .ref r28, .ref r29, .ref r30, .ref r31, .ref r32, .ref r33, .ref r34, .ref r35, .ref r36, .int 0, .ref r37, .ref r38, .int 0, .ref r39, .ref r40, .int 0, .ref r41, .ref r42, .int 0, .int 0, .int 0, .ref r43, .ref r44, .ref r45, .int 0]))] H := hP
    have hD : va_D A [(qs, .inl (ks, 4, .inr (.inr (.inr (.inr (fun _ => none)))))), (qo, .inl (ko, 1, .inr (.inl (fun _ => 0)))), (r1, .inl (j1, 4, .inl (fun _ => 0))), (r2, .inl (j2, 4, .inl (fun _ => 0))), (r3, .inl (j3, 4, .inl (fun _ => 0))), (r4, .inl (j4, 4, .inl (fun _ => 0))), (r5, .inl (j5, 256, .inl (fun _ => 0))), (ga, .inr (0, [.ref qt, .int 0, .ref qs, .int 0, .ref qc, .ref qh, .ref qf, .ref qe, .ref qm, .int 0, .int (-1), .int 0, .int 0, .int 0])), (ma, .inr (1, [.int 1, .ref r0, .int 0, .int 0, .int 0, .ref r1, .ref r2, .ref r3, .ref r4, .ref r5, .ref r6, .ref r7, .int 0, .ref r8, .int 0, .int 0, .ref r9, .ref r10, .int 0, .int 0, .int 0, .int 0, .int 0, .int 0, .int 0, .int 0, .int 0, .ref r11, .ref r12, .ref r13, .ref r14, .ref r15, .ref r16, .ref r17, .int 0, .ref r18, .ref r19, .long 0, .int 0, .ref r20, .int 0, .int 0, .int 0, .ref r21, .ref r22, .ref r23, .ref r24, .ref r25, .ref r26, .ref r27, .ref r28, .ref r29, .ref r30, .ref r31, .ref r32, .ref r33, .ref r34, .ref r35, .ref r36, .int 0, .ref r37, .ref r38, .int 0, .ref r39, .ref r40, .int 0, .ref r41, .ref r42, .int 0, .int 0, .int 0, .ref r43, .ref r44, .ref r45, .int 0]))] := hD
    have hK : va_K D classes [(ks, (.object "FilterGuard$Store")), (ko, .long), (j1, .int), (j2, .int), (j3, .int), (j4, .int), (j5, .boolean)] s := hK
    refine W.widen (k := 399) (n := 507322) (Nat.le_of_ble_eq_true rfl) (Nat.le_of_ble_eq_true rfl) ?_
    subst hw255_10
    refine lv_iload hx hb d_Law_law_258 (lv_at hl 1 rfl) ?_
    refine lv_icmp_eq (tgt := 265) hx hb d_Law_law_260 (by decide) (fun c_12 => ?_) (fun c_12 => absurd (by decide) c_12)
    refine lv_iload hx hb d_Law_law_265 (lv_at hl 1 rfl) ?_
    refine lv_if_ne (tgt := 282) hx hb d_Law_law_267 (by decide) (fun c_13 => ?_) (fun c_13 => absurd c_13 (by decide))
    refine lv_goto (tgt := 1029) hx hb d_Law_law_282 (by decide) ?_
    refine lv_iinc (v := 6) (lv' := [(4, .int 6), (6, .int 0), (5, .int 1), (3, .ref qo), (2, .ref ma), (1, .ref ga), (0, .ref b)]) hx hb d_Law_law_1029 hl (k := 2) rfl (by decide) (by decide) rfl (fun ls hl => ?_)
    refine lv_goto (tgt := 23) hx hb d_Law_law_1032 (by decide) ?_
    refine lv_iload hx hb d_Law_law_23 (lv_at hl 0 rfl) ?_
    refine lv_aload_n hx hb d_Law_law_25 rfl (lv_at hl 6 rfl) ?_
    refine va_slen hx hb hXs hbl hbA hS d_Law_law_26 ?_
    refine fg_topi (y := 6) (by decide) ?_
    refine lv_bipush (v := 6) hx hb d_Law_law_27 (by decide) ?_
    refine lv_isub hx hb d_Law_law_29 ?_
    refine fg_topi (y := 0) (by decide) ?_
    refine lv_icmp_gt (tgt := 1035) hx hb d_Law_law_30 (by decide) (fun c_14 => ?_) (fun c_14 => absurd (by decide) c_14)
    refine lv_iconst (v := 1) hx hb d_Law_law_1035 (by decide) ?_
    refine va_forget (fun q hq => hA2 _ (hS.2.2 q hq)) ?_
    refine W.widen (k := 600002) (n := 7302232) (Nat.le_of_ble_eq_true rfl) (Nat.le_of_ble_eq_true rfl) ?_
    exact lw_ret hx hb hr hlocks d_Law_law_1036
