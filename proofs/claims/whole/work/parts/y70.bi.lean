theorem d_Checks_allowsCall_8 : decode prog_3_method_11_code 8 = .ok (.iload_n 3, 1) := by decide +kernel
theorem d_Checks_allowsCall_9 : decode prog_3_method_11_code 9 = .ok (.iconst 5, 1) := by decide +kernel
theorem d_Checks_allowsCall_10 : decode prog_3_method_11_code 10 = .ok (.if_icmp .gt 19, 3) := by decide +kernel
theorem d_Checks_allowsCall_29 : decode prog_3_method_11_code 29 = .ok (.aload_n 0, 1) := by decide +kernel
theorem d_Checks_allowsCall_30 : decode prog_3_method_11_code 30 = .ok (.getfield 22, 3) := by decide +kernel
theorem d_Checks_allowsCall_33 : decode prog_3_method_11_code 33 = .ok (.iconst 0, 1) := by decide +kernel
theorem d_Checks_allowsCall_34 : decode prog_3_method_11_code 34 = .ok (.aaload, 1) := by decide +kernel
theorem d_Checks_allowsCall_35 : decode prog_3_method_11_code 35 = .ok (.iconst 1, 1) := by decide +kernel
theorem d_Checks_allowsCall_36 : decode prog_3_method_11_code 36 = .ok (.putfield 34, 3) := by decide +kernel
theorem d_Checks_allowsCall_39 : decode prog_3_method_11_code 39 = .ok (.iload_n 2, 1) := by decide +kernel
theorem d_Checks_allowsCall_40 : decode prog_3_method_11_code 40 = .ok (.ireturn, 1) := by decide +kernel
theorem d_Checks_allowsCall_13 : decode prog_3_method_11_code 13 = .ok (.aload_n 0, 1) := by decide +kernel
theorem d_Checks_allowsCall_14 : decode prog_3_method_11_code 14 = .ok (.getfield 22, 3) := by decide +kernel
theorem d_Checks_allowsCall_17 : decode prog_3_method_11_code 17 = .ok (.iload_n 3, 1) := by decide +kernel
theorem d_Checks_allowsCall_18 : decode prog_3_method_11_code 18 = .ok (.aaload, 1) := by decide +kernel
theorem d_Checks_allowsCall_19 : decode prog_3_method_11_code 19 = .ok (.iconst 0, 1) := by decide +kernel
theorem d_Checks_allowsCall_20 : decode prog_3_method_11_code 20 = .ok (.putfield 34, 3) := by decide +kernel
theorem d_Checks_allowsCall_23 : decode prog_3_method_11_code 23 = .ok (.iinc 3 1, 3) := by decide +kernel
theorem d_Checks_allowsCall_26 : decode prog_3_method_11_code 26 = .ok (.goto (-18), 3) := by decide +kernel
theorem d_Checks_allowsCall_0 : decode prog_3_method_11_code 0 = .ok (.aload_n 0, 1) := by decide +kernel
theorem d_Checks_allowsCall_1 : decode prog_3_method_11_code 1 = .ok (.aload_n 1, 1) := by decide +kernel
theorem d_Checks_allowsCall_2 : decode prog_3_method_11_code 2 = .ok (.invokevirtual 133, 3) := by decide +kernel
theorem u_1619 : Cond.methodLink "FilterGuard$Checks" 133 ⟨"FilterGuard$Checks", "areArguments", "([J)Z"⟩ ∈ fg_g := fg_in (List.mem_of_getElem? (i := 1619) (by decide +kernel)) rfl
theorem u_1622 : Cond.code ⟨"FilterGuard$Checks", "areArguments", "([J)Z"⟩ prog_3_method_12_code 5 (some .boolean) ∈ fg_g := fg_in (List.mem_of_getElem? (i := 1622) (by decide +kernel)) rfl
theorem u_1621 : Cond.instanceMethod ⟨"FilterGuard$Checks", "areArguments", "([J)Z"⟩ ∈ fg_g := fg_in (List.mem_of_getElem? (i := 1621) (by decide +kernel)) rfl
theorem u_68 : Cond.selects "FilterGuard$Checks" ⟨"FilterGuard$Checks", "areArguments", "([J)Z"⟩ ⟨"FilterGuard$Checks", "areArguments", "([J)Z"⟩ ∈ fg_g := fg_in (List.mem_of_getElem? (i := 68) (by decide +kernel)) rfl
theorem d_Checks_allowsCall_5 : decode prog_3_method_11_code 5 = .ok (.istore_n 2, 1) := by decide +kernel
theorem d_Checks_allowsCall_6 : decode prog_3_method_11_code 6 = .ok (.iconst 1, 1) := by decide +kernel
theorem d_Checks_allowsCall_7 : decode prog_3_method_11_code 7 = .ok (.istore_n 3, 1) := by decide +kernel
abbrev y_Checks_allowsCall : MethodName := ⟨"FilterGuard$Checks", "allowsCall", "([J)Z"⟩
def rm_Checks_allowsCall : Room := { frames := 5, cells := 0, slots := 0, locals := 135 }
abbrev q_Checks_allowsCall (D : va_G) (ad : Nat → Nat → Nat) (ca : Nat → ClassId) (N : Nat → Nat) (M0 MZ : me_M) (RZ : Int32) (A : Nat → Prop) : Array Value → Jvm.State → Outcome → Jvm.State → Prop := va_Qi (fun r (_ : Unit) => r = RZ ∧ me_wf N MZ ∧ me_kp M0 MZ ∧ (RZ = 1 ∨ RZ = 0)) (fg_B D A (fun _ => me_W ad ca MZ) (fun _ => [])) A
set_option maxHeartbeats 4000000 in
set_option maxRecDepth 100000 in
theorem c_Checks_allowsCall (l : Launch) (D : va_G) (ad : Nat → Nat → Nat) (ca : Nat → ClassId) (N : Nat → Nat) (M0 MZ : me_M) (RZ : Int32) (j0 : Nat) (j1 : Nat) (h : f_Checks_allowsCall M0 j0 j1 = (some (MZ, RZ))) (hwf : me_wf N M0) (hj0 : j0 < N 6) (hj1 : j1 < N 16) (sz : Nat) : Met l y_Checks_allowsCall (fg_w y_Checks_allowsCall prog_3_method_11_code 4 (some .boolean)) rm_Checks_allowsCall (va_Pc [.ref (ad 6 j0), .ref (ad 16 j1)] (fz_P D (me_T ca) (me_W ad ca M0) sz)) (q_Checks_allowsCall D ad ca N M0 MZ RZ (va_A (me_W ad ca M0) sz)) rm_Checks_allowsCall.cells rm_Checks_allowsCall.slots (va_A (me_W ad ca M0) sz) := by
  refine fz_enter (fun A => q_Checks_allowsCall D ad ca N M0 MZ RZ A) (by decide +kernel) (Nat.le_of_ble_eq_true rfl) ?_
  intro p e s m below meth c ls A hx hb hml hown hts hr hlocks hin hP hK hD hS hA hX hl hz
  have hl : lv_has ls 4 [(0, .ref (ad 6 j0)), (1, .ref (ad 16 j1))] := hl
  unfold f_Checks_allowsCall at h
  have hkp : me_kp M0 M0 := me_kp.rf
  have hkb := hkp
  have b_8 : ∀ (fu : Nat), ∀ (M : me_M) (y2 : Int32) (y3 : Int32) (H : Heap) (locs : List Loc) (ls : Array Slot), f_Checks_allowsCall_l8 j0 fu M y2 y3 = (some (MZ, RZ)) → (y2 = 1 ∨ y2 = 0) → me_wf N M → me_kp M0 M → va_P D classes (me_W ad ca M) H → va_D A (me_W ad ca M) → va_S A s.heap H locs → lv_has ls 4 [(0, .ref (ad 6 j0)), (2, .int y2), (3, .int y3)] → W p l e rm_Checks_allowsCall s m [.ref (ad 6 j0), .ref (ad 16 j1)].toArray below meth c H locs 0 0 (MQ below (q_Checks_allowsCall D ad ca N M0 MZ RZ A) [.ref (ad 6 j0), .ref (ad 16 j1)].toArray s rm_Checks_allowsCall.cells rm_Checks_allowsCall.slots A) (F0 m 8 ls []) := by
    intro fu
    induction fu with
    | zero =>
      intro M y2 y3 H locs ls h zy2 hwf hkp hP hD hS hl
      cases h
    | succ fu ih =>
      intro M y2 y3 H locs ls h zy2 hwf hkp hP hD hS hl
      unfold f_Checks_allowsCall_l8 at h
      have hkb := hkp
      refine lv_iload_n hx hb d_Checks_allowsCall_8 rfl (lv_at hl 2 rfl) ?_
      refine lv_iconst (v := 5) hx hb d_Checks_allowsCall_9 (by decide) ?_
      refine lv_icmp_gt (tgt := 29) hx hb d_Checks_allowsCall_10 (by decide) (fun c1 => ?_) (fun c1 => ?_)
      · have h := if_t c1 h
        refine lv_aload_n hx hb d_Checks_allowsCall_29 rfl (lv_at hl 0 rfl) ?_
        refine g_Checks_3 hx hb hts hown hK hP hwf hj0 (hts _ u_613) d_Checks_allowsCall_30 ?_
        obtain ⟨j2, e3, h⟩ := bd_ob h
        have hj2 : j2 < N 18 := (hwf.2.1 6 j0 3 _ e3 (by decide) hj0)
        refine me_opt (j := j2) e3 ?_
        refine lv_iconst (v := 0) hx hb d_Checks_allowsCall_33 (by decide) ?_
        obtain ⟨g4, h⟩ := gd_ob h
        refine me_aald (k := 18) (t := 10) hx hb hK hP hwf hj2 (by decide) (by decide) rfl (fun _ => rfl) (me_in (i := (0 : Int32)) (k := 0) (by decide) (by decide) g4) d_Checks_allowsCall_34 ?_
        rw [show (0 : Int32).toNatClampNeg = 0 by decide]
        obtain ⟨j5, e6, h⟩ := bd_ob h
        have hj5 : j5 < N 10 := (hwf.2.1 18 j2 0 _ e6 (by decide) hj2)
        refine me_opt (j := j5) e6 ?_
        refine lv_iconst (v := 1) hx hb d_Checks_allowsCall_35 (by decide) ?_
        obtain ⟨M7, eM7, h⟩ := st_ob h
        refine p_Cell_0 eM7 hx hb hts hown hK hP hD hwf hS hj5 (hts _ u_421) d_Checks_allowsCall_36 (fun H locs hP hD hwf hS => ?_)
        have hkp := kp_I eM7 hkp
        refine lv_iload_n hx hb d_Checks_allowsCall_39 rfl (lv_at hl 1 rfl) ?_
        exact me_retz (me_kp M0) h zy2 hx hb hr hlocks hwf hkp hP hK hD hS d_Checks_allowsCall_40
      have h := if_f c1 h
      refine lv_aload_n hx hb d_Checks_allowsCall_13 rfl (lv_at hl 0 rfl) ?_
      refine g_Checks_3 hx hb hts hown hK hP hwf hj0 (hts _ u_613) d_Checks_allowsCall_14 ?_
      obtain ⟨j8, e9, h⟩ := bd_ob h
      have hj8 : j8 < N 18 := (hwf.2.1 6 j0 3 _ e9 (by decide) hj0)
      refine me_opt (j := j8) e9 ?_
      refine lv_iload_n hx hb d_Checks_allowsCall_17 rfl (lv_at hl 2 rfl) ?_
      obtain ⟨g10, h⟩ := gd_ob h
      refine me_aald (k := 18) (t := 10) hx hb hK hP hwf hj8 (by decide) (by decide) rfl (fun _ => rfl) g10 d_Checks_allowsCall_18 ?_
      obtain ⟨j11, e12, h⟩ := bd_ob h
      have hj11 : j11 < N 10 := (hwf.2.1 18 j8 y3.toNatClampNeg _ e12 (by decide) hj8)
      refine me_opt (j := j11) e12 ?_
      refine lv_iconst (v := 0) hx hb d_Checks_allowsCall_19 (by decide) ?_
      obtain ⟨M13, eM13, h⟩ := st_ob h
      refine p_Cell_0 eM13 hx hb hts hown hK hP hD hwf hS hj11 (hts _ u_421) d_Checks_allowsCall_20 (fun H locs hP hD hwf hS => ?_)
      have hkp := kp_I eM13 hkp
      refine lv_iinc (v := y3 + 1) (lv' := [(3, .int (y3 + 1)), (0, .ref (ad 6 j0)), (2, .int y2)]) hx hb d_Checks_allowsCall_23 hl (k := 2) rfl (by rfl) (by decide) rfl (fun ls hl => ?_)
      refine lv_goto (tgt := 8) hx hb d_Checks_allowsCall_26 (by decide) ?_
      exact ih M13 y2 (y3 + 1) _ _ _ h zy2 hwf hkp hP hD hS (lv_sub hl [1, 2, 0] rfl)
  refine lv_aload_n hx hb d_Checks_allowsCall_0 rfl (lv_at hl 0 rfl) ?_
  refine lv_aload_n hx hb d_Checks_allowsCall_1 rfl (lv_at hl 1 rfl) ?_
  obtain ⟨M14, r15, eM14, h⟩ := b2_ob h
  refine me_theni0 (M1 := M14) (me_runV (C := "FilterGuard$Checks") (As := [.ref (ad 16 j1)]) (rest := []) ⟨hx, hb, hml, hown, hts⟩ (c_Checks_areArguments l D ad ca N M0 M14 r15 j0 j1 eM14 hwf hj0 hj1 _) rfl (by show fg_nm y_Checks_areArguments 1; decide +kernel) u_1619 u_1621 u_68 u_191 u_1622 ⟨Nat.le_of_ble_eq_true rfl, Nat.le_of_ble_eq_true rfl⟩ hX hz hK hP hD hwf hS hA hj0 (by decide) rfl rfl rfl hl.1 (Nat.le_of_ble_eq_true rfl) d_Checks_allowsCall_2 ⟨Nat.le_of_ble_eq_true rfl, Nat.le_of_ble_eq_true rfl⟩) hP hD hK hS hA rfl rfl (fun H locs hw hP hD hS => ?_)
  obtain ⟨hwf, hk9, zr15⟩ := hw
  have hkp := hkp.tr hk9
  refine lv_istore_n (lv' := [(2, .int r15), (0, .ref (ad 6 j0)), (1, .ref (ad 16 j1))]) hx hb d_Checks_allowsCall_5 rfl hl (by decide) rfl (fun ls hl => ?_)
  refine lv_iconst (v := 1) hx hb d_Checks_allowsCall_6 (by decide) ?_
  refine lv_istore_n (lv' := [(3, .int 1), (2, .int r15), (0, .ref (ad 6 j0)), (1, .ref (ad 16 j1))]) hx hb d_Checks_allowsCall_7 rfl hl (by decide) rfl (fun ls hl => ?_)
  exact b_8 _ M14 r15 (1 : Int32) _ _ _ h zr15 hwf hkp hP hD hS (lv_sub hl [2, 1, 0] rfl)
theorem d_Checks_allowsStack_211 : decode prog_3_method_10_code 211 = .ok (.iload 5, 2) := by decide +kernel
theorem d_Checks_allowsStack_213 : decode prog_3_method_10_code 213 = .ok (.ifCond .eq 19, 3) := by decide +kernel
theorem d_Checks_allowsStack_232 : decode prog_3_method_10_code 232 = .ok (.aload_n 3, 1) := by decide +kernel
theorem d_Checks_allowsStack_233 : decode prog_3_method_10_code 233 = .ok (.iload 4, 2) := by decide +kernel
theorem d_Checks_allowsStack_235 : decode prog_3_method_10_code 235 = .ok (.invokevirtual 129, 3) := by decide +kernel
theorem u_1642 : Cond.methodLink "FilterGuard$Checks" 129 ⟨"FilterGuard$Cell", "storeBytes", "(I)V"⟩ ∈ fg_g := fg_in (List.mem_of_getElem? (i := 1642) (by decide +kernel)) rfl
theorem d_Checks_allowsStack_238 : decode prog_3_method_10_code 238 = .ok (.iconst 1, 1) := by decide +kernel
theorem d_Checks_allowsStack_239 : decode prog_3_method_10_code 239 = .ok (.ireturn, 1) := by decide +kernel
theorem d_Checks_allowsStack_216 : decode prog_3_method_10_code 216 = .ok (.aload_n 3, 1) := by decide +kernel
theorem d_Checks_allowsStack_217 : decode prog_3_method_10_code 217 = .ok (.aload_n 0, 1) := by decide +kernel
theorem d_Checks_allowsStack_218 : decode prog_3_method_10_code 218 = .ok (.invokevirtual 72, 3) := by decide +kernel
theorem d_Checks_allowsStack_221 : decode prog_3_method_10_code 221 = .ok (.putfield 34, 3) := by decide +kernel
theorem d_Checks_allowsStack_224 : decode prog_3_method_10_code 224 = .ok (.aload_n 3, 1) := by decide +kernel
theorem d_Checks_allowsStack_225 : decode prog_3_method_10_code 225 = .ok (.iconst 0, 1) := by decide +kernel
theorem d_Checks_allowsStack_226 : decode prog_3_method_10_code 226 = .ok (.putfield 126, 3) := by decide +kernel
theorem u_434 : Cond.fieldLink "FilterGuard$Checks" 126 "FilterGuard$Cell" "written" "I" ∈ fg_g := fg_in (List.mem_of_getElem? (i := 434) (by decide +kernel)) rfl
theorem d_Checks_allowsStack_229 : decode prog_3_method_10_code 229 = .ok (.goto 9, 3) := by decide +kernel
theorem d_Checks_allowsStack_189 : decode prog_3_method_10_code 189 = .ok (.aload_n 0, 1) := by decide +kernel
theorem d_Checks_allowsStack_190 : decode prog_3_method_10_code 190 = .ok (.getfield 23, 3) := by decide +kernel
theorem d_Checks_allowsStack_193 : decode prog_3_method_10_code 193 = .ok (.getfield 55, 3) := by decide +kernel
theorem u_253 : Cond.fieldLink "FilterGuard$Checks" 55 "FilterGuard$Code" "family" "I" ∈ fg_g := fg_in (List.mem_of_getElem? (i := 253) (by decide +kernel)) rfl
theorem d_Checks_allowsStack_196 : decode prog_3_method_10_code 196 = .ok (.iconst 5, 1) := by decide +kernel
theorem d_Checks_allowsStack_197 : decode prog_3_method_10_code 197 = .ok (.if_icmp .ne 14, 3) := by decide +kernel
theorem d_Checks_allowsStack_200 : decode prog_3_method_10_code 200 = .ok (.aload_n 3, 1) := by decide +kernel
theorem d_Checks_allowsStack_201 : decode prog_3_method_10_code 201 = .ok (.iload 4, 2) := by decide +kernel
theorem d_Checks_allowsStack_203 : decode prog_3_method_10_code 203 = .ok (.invokevirtual 122, 3) := by decide +kernel
theorem d_Checks_allowsStack_206 : decode prog_3_method_10_code 206 = .ok (.ifCond .ne 5, 3) := by decide +kernel
theorem d_Checks_allowsStack_209 : decode prog_3_method_10_code 209 = .ok (.iconst 0, 1) := by decide +kernel
theorem d_Checks_allowsStack_210 : decode prog_3_method_10_code 210 = .ok (.ireturn, 1) := by decide +kernel
theorem d_Checks_allowsStack_166 : decode prog_3_method_10_code 166 = .ok (.istore 6, 2) := by decide +kernel
theorem d_Checks_allowsStack_168 : decode prog_3_method_10_code 168 = .ok (.iload 6, 2) := by decide +kernel
theorem d_Checks_allowsStack_170 : decode prog_3_method_10_code 170 = .ok (.ifCond .ne 19, 3) := by decide +kernel
theorem d_Checks_allowsStack_173 : decode prog_3_method_10_code 173 = .ok (.iload 5, 2) := by decide +kernel
theorem d_Checks_allowsStack_175 : decode prog_3_method_10_code 175 = .ok (.ifCond .eq 34, 3) := by decide +kernel
theorem d_Checks_allowsStack_178 : decode prog_3_method_10_code 178 = .ok (.aload_n 0, 1) := by decide +kernel
theorem d_Checks_allowsStack_179 : decode prog_3_method_10_code 179 = .ok (.getfield 23, 3) := by decide +kernel
theorem d_Checks_allowsStack_182 : decode prog_3_method_10_code 182 = .ok (.getfield 55, 3) := by decide +kernel
theorem d_Checks_allowsStack_185 : decode prog_3_method_10_code 185 = .ok (.iconst 5, 1) := by decide +kernel
theorem d_Checks_allowsStack_186 : decode prog_3_method_10_code 186 = .ok (.if_icmp .eq 23, 3) := by decide +kernel
theorem d_Checks_allowsStack_123 : decode prog_3_method_10_code 123 = .ok (.putfield 34, 3) := by decide +kernel
theorem d_Checks_allowsStack_126 : decode prog_3_method_10_code 126 = .ok (.iload 5, 2) := by decide +kernel
theorem d_Checks_allowsStack_128 : decode prog_3_method_10_code 128 = .ok (.ifCond .eq 10, 3) := by decide +kernel
theorem d_Checks_allowsStack_138 : decode prog_3_method_10_code 138 = .ok (.aload_n 3, 1) := by decide +kernel
theorem d_Checks_allowsStack_139 : decode prog_3_method_10_code 139 = .ok (.iload 4, 2) := by decide +kernel
theorem d_Checks_allowsStack_141 : decode prog_3_method_10_code 141 = .ok (.invokevirtual 122, 3) := by decide +kernel
theorem d_Checks_allowsStack_144 : decode prog_3_method_10_code 144 = .ok (.ifCond .eq 7, 3) := by decide +kernel
theorem d_Checks_allowsStack_151 : decode prog_3_method_10_code 151 = .ok (.iconst 0, 1) := by decide +kernel
theorem d_Checks_allowsStack_152 : decode prog_3_method_10_code 152 = .ok (.ireturn, 1) := by decide +kernel
theorem d_Checks_allowsStack_147 : decode prog_3_method_10_code 147 = .ok (.iconst 1, 1) := by decide +kernel
theorem d_Checks_allowsStack_148 : decode prog_3_method_10_code 148 = .ok (.goto 4, 3) := by decide +kernel
theorem d_Checks_allowsStack_131 : decode prog_3_method_10_code 131 = .ok (.aload_n 3, 1) := by decide +kernel
theorem d_Checks_allowsStack_132 : decode prog_3_method_10_code 132 = .ok (.getfield 34, 3) := by decide +kernel
theorem d_Checks_allowsStack_135 : decode prog_3_method_10_code 135 = .ok (.ifCond .ne 12, 3) := by decide +kernel
theorem d_Checks_allowsStack_122 : decode prog_3_method_10_code 122 = .ok (.iconst 1, 1) := by decide +kernel
theorem d_Checks_allowsStack_78 : decode prog_3_method_10_code 78 = .ok (.istore 5, 2) := by decide +kernel
theorem d_Checks_allowsStack_80 : decode prog_3_method_10_code 80 = .ok (.aload_n 0, 1) := by decide +kernel
theorem d_Checks_allowsStack_81 : decode prog_3_method_10_code 81 = .ok (.getfield 23, 3) := by decide +kernel
theorem d_Checks_allowsStack_84 : decode prog_3_method_10_code 84 = .ok (.getfield 55, 3) := by decide +kernel
theorem d_Checks_allowsStack_87 : decode prog_3_method_10_code 87 = .ok (.iconst 2, 1) := by decide +kernel
theorem d_Checks_allowsStack_88 : decode prog_3_method_10_code 88 = .ok (.if_icmp .ne 65, 3) := by decide +kernel
theorem d_Checks_allowsStack_153 : decode prog_3_method_10_code 153 = .ok (.aload_n 0, 1) := by decide +kernel
theorem d_Checks_allowsStack_154 : decode prog_3_method_10_code 154 = .ok (.invokevirtual 72, 3) := by decide +kernel
theorem d_Checks_allowsStack_157 : decode prog_3_method_10_code 157 = .ok (.iconst 1, 1) := by decide +kernel
theorem d_Checks_allowsStack_158 : decode prog_3_method_10_code 158 = .ok (.if_icmp .ne 7, 3) := by decide +kernel
theorem d_Checks_allowsStack_165 : decode prog_3_method_10_code 165 = .ok (.iconst 0, 1) := by decide +kernel
theorem d_Checks_allowsStack_161 : decode prog_3_method_10_code 161 = .ok (.iconst 1, 1) := by decide +kernel
theorem d_Checks_allowsStack_162 : decode prog_3_method_10_code 162 = .ok (.goto 4, 3) := by decide +kernel
theorem d_Checks_allowsStack_91 : decode prog_3_method_10_code 91 = .ok (.aload_n 0, 1) := by decide +kernel
theorem d_Checks_allowsStack_92 : decode prog_3_method_10_code 92 = .ok (.getfield 22, 3) := by decide +kernel
theorem d_Checks_allowsStack_95 : decode prog_3_method_10_code 95 = .ok (.aload_n 0, 1) := by decide +kernel
theorem d_Checks_allowsStack_96 : decode prog_3_method_10_code 96 = .ok (.getfield 23, 3) := by decide +kernel
theorem d_Checks_allowsStack_99 : decode prog_3_method_10_code 99 = .ok (.getfield 46, 3) := by decide +kernel
theorem d_Checks_allowsStack_102 : decode prog_3_method_10_code 102 = .ok (.aaload, 1) := by decide +kernel
theorem d_Checks_allowsStack_103 : decode prog_3_method_10_code 103 = .ok (.iload 5, 2) := by decide +kernel
theorem d_Checks_allowsStack_105 : decode prog_3_method_10_code 105 = .ok (.ifCond .eq 17, 3) := by decide +kernel
theorem d_Checks_allowsStack_108 : decode prog_3_method_10_code 108 = .ok (.aload_n 3, 1) := by decide +kernel
theorem d_Checks_allowsStack_109 : decode prog_3_method_10_code 109 = .ok (.getfield 34, 3) := by decide +kernel
theorem d_Checks_allowsStack_112 : decode prog_3_method_10_code 112 = .ok (.ifCond .eq 10, 3) := by decide +kernel
theorem d_Checks_allowsStack_115 : decode prog_3_method_10_code 115 = .ok (.aload_n 3, 1) := by decide +kernel
theorem d_Checks_allowsStack_116 : decode prog_3_method_10_code 116 = .ok (.getfield 34, 3) := by decide +kernel
theorem d_Checks_allowsStack_119 : decode prog_3_method_10_code 119 = .ok (.goto 4, 3) := by decide +kernel
theorem d_Checks_allowsStack_0 : decode prog_3_method_10_code 0 = .ok (.lload_n 1, 1) := by decide +kernel
theorem d_Checks_allowsStack_1 : decode prog_3_method_10_code 1 = .ok (.ldc2_w 112, 3) := by decide +kernel
theorem d_Checks_allowsStack_4 : decode prog_3_method_10_code 4 = .ok (.lcmp, 1) := by decide +kernel
theorem d_Checks_allowsStack_5 : decode prog_3_method_10_code 5 = .ok (.ifCond .lt 33, 3) := by decide +kernel
theorem d_Checks_allowsStack_38 : decode prog_3_method_10_code 38 = .ok (.iconst 0, 1) := by decide +kernel
theorem d_Checks_allowsStack_39 : decode prog_3_method_10_code 39 = .ok (.ireturn, 1) := by decide +kernel
theorem d_Checks_allowsStack_8 : decode prog_3_method_10_code 8 = .ok (.lload_n 1, 1) := by decide +kernel
theorem d_Checks_allowsStack_9 : decode prog_3_method_10_code 9 = .ok (.aload_n 0, 1) := by decide +kernel
theorem d_Checks_allowsStack_10 : decode prog_3_method_10_code 10 = .ok (.getfield 23, 3) := by decide +kernel
theorem d_Checks_allowsStack_13 : decode prog_3_method_10_code 13 = .ok (.getfield 105, 3) := by decide +kernel
theorem u_258 : Cond.fieldLink "FilterGuard$Checks" 105 "FilterGuard$Code" "bytes" "I" ∈ fg_g := fg_in (List.mem_of_getElem? (i := 258) (by decide +kernel)) rfl
theorem d_Checks_allowsStack_16 : decode prog_3_method_10_code 16 = .ok (.i2l, 1) := by decide +kernel
theorem d_Checks_allowsStack_17 : decode prog_3_method_10_code 17 = .ok (.ladd, 1) := by decide +kernel
theorem d_Checks_allowsStack_18 : decode prog_3_method_10_code 18 = .ok (.lconst 0, 1) := by decide +kernel
theorem d_Checks_allowsStack_19 : decode prog_3_method_10_code 19 = .ok (.lcmp, 1) := by decide +kernel
theorem d_Checks_allowsStack_20 : decode prog_3_method_10_code 20 = .ok (.ifCond .gt 18, 3) := by decide +kernel
theorem d_Checks_allowsStack_23 : decode prog_3_method_10_code 23 = .ok (.lload_n 1, 1) := by decide +kernel
theorem d_Checks_allowsStack_24 : decode prog_3_method_10_code 24 = .ok (.aload_n 0, 1) := by decide +kernel
theorem d_Checks_allowsStack_25 : decode prog_3_method_10_code 25 = .ok (.getfield 23, 3) := by decide +kernel
theorem d_Checks_allowsStack_28 : decode prog_3_method_10_code 28 = .ok (.getfield 105, 3) := by decide +kernel
theorem d_Checks_allowsStack_31 : decode prog_3_method_10_code 31 = .ok (.i2l, 1) := by decide +kernel
theorem d_Checks_allowsStack_32 : decode prog_3_method_10_code 32 = .ok (.lrem, 1) := by decide +kernel
theorem d_Checks_allowsStack_33 : decode prog_3_method_10_code 33 = .ok (.lconst 0, 1) := by decide +kernel
theorem d_Checks_allowsStack_34 : decode prog_3_method_10_code 34 = .ok (.lcmp, 1) := by decide +kernel
theorem d_Checks_allowsStack_35 : decode prog_3_method_10_code 35 = .ok (.ifCond .eq 5, 3) := by decide +kernel
theorem d_Checks_allowsStack_40 : decode prog_3_method_10_code 40 = .ok (.aload_n 0, 1) := by decide +kernel
theorem d_Checks_allowsStack_41 : decode prog_3_method_10_code 41 = .ok (.getfield 12, 3) := by decide +kernel
theorem d_Checks_allowsStack_44 : decode prog_3_method_10_code 44 = .ok (.lload_n 1, 1) := by decide +kernel
theorem d_Checks_allowsStack_45 : decode prog_3_method_10_code 45 = .ok (.l2i, 1) := by decide +kernel
theorem d_Checks_allowsStack_46 : decode prog_3_method_10_code 46 = .ok (.invokevirtual 114, 3) := by decide +kernel
theorem d_Checks_allowsStack_49 : decode prog_3_method_10_code 49 = .ok (.astore_n 3, 1) := by decide +kernel
theorem d_Checks_allowsStack_50 : decode prog_3_method_10_code 50 = .ok (.aload_n 0, 1) := by decide +kernel
theorem d_Checks_allowsStack_51 : decode prog_3_method_10_code 51 = .ok (.getfield 23, 3) := by decide +kernel
theorem d_Checks_allowsStack_54 : decode prog_3_method_10_code 54 = .ok (.lload_n 1, 1) := by decide +kernel
theorem d_Checks_allowsStack_55 : decode prog_3_method_10_code 55 = .ok (.l2i, 1) := by decide +kernel
theorem d_Checks_allowsStack_56 : decode prog_3_method_10_code 56 = .ok (.invokevirtual 118, 3) := by decide +kernel
theorem u_1641 : Cond.methodLink "FilterGuard$Checks" 118 ⟨"FilterGuard$Code", "bytesAt", "(I)I"⟩ ∈ fg_g := fg_in (List.mem_of_getElem? (i := 1641) (by decide +kernel)) rfl
theorem d_Checks_allowsStack_59 : decode prog_3_method_10_code 59 = .ok (.istore 4, 2) := by decide +kernel
theorem d_Checks_allowsStack_61 : decode prog_3_method_10_code 61 = .ok (.aload_n 0, 1) := by decide +kernel
theorem d_Checks_allowsStack_62 : decode prog_3_method_10_code 62 = .ok (.getfield 23, 3) := by decide +kernel
theorem d_Checks_allowsStack_65 : decode prog_3_method_10_code 65 = .ok (.getfield 105, 3) := by decide +kernel
theorem d_Checks_allowsStack_68 : decode prog_3_method_10_code 68 = .ok (.bipush 8, 2) := by decide +kernel
theorem d_Checks_allowsStack_70 : decode prog_3_method_10_code 70 = .ok (.if_icmp .ne 7, 3) := by decide +kernel
theorem d_Checks_allowsStack_77 : decode prog_3_method_10_code 77 = .ok (.iconst 0, 1) := by decide +kernel
theorem d_Checks_allowsStack_73 : decode prog_3_method_10_code 73 = .ok (.iconst 1, 1) := by decide +kernel
theorem d_Checks_allowsStack_74 : decode prog_3_method_10_code 74 = .ok (.goto 4, 3) := by decide +kernel
abbrev y_Checks_allowsStack : MethodName := ⟨"FilterGuard$Checks", "allowsStack", "(J)Z"⟩
def rm_Checks_allowsStack : Room := { frames := 3, cells := 0, slots := 0, locals := 82 }
abbrev q_Checks_allowsStack (D : va_G) (ad : Nat → Nat → Nat) (ca : Nat → ClassId) (N : Nat → Nat) (M0 MZ : me_M) (RZ : Int32) (A : Nat → Prop) : Array Value → Jvm.State → Outcome → Jvm.State → Prop := va_Qi (fun r (_ : Unit) => r = RZ ∧ me_wf N MZ ∧ me_kp M0 MZ ∧ (RZ = 1 ∨ RZ = 0)) (fg_B D A (fun _ => me_W ad ca MZ) (fun _ => [])) A
set_option maxHeartbeats 4000000 in
set_option maxRecDepth 100000 in
theorem c_Checks_allowsStack (l : Launch) (D : va_G) (ad : Nat → Nat → Nat) (ca : Nat → ClassId) (N : Nat → Nat) (M0 MZ : me_M) (RZ : Int32) (j0 : Nat) (x1 : Int64) (h : f_Checks_allowsStack M0 j0 x1 = (some (MZ, RZ))) (hwf : me_wf N M0) (hj0 : j0 < N 6) (sz : Nat) : Met l y_Checks_allowsStack (fg_w y_Checks_allowsStack prog_3_method_10_code 7 (some .boolean)) rm_Checks_allowsStack (va_Pc [.ref (ad 6 j0), .long x1] (fz_P D (me_T ca) (me_W ad ca M0) sz)) (q_Checks_allowsStack D ad ca N M0 MZ RZ (va_A (me_W ad ca M0) sz)) rm_Checks_allowsStack.cells rm_Checks_allowsStack.slots (va_A (me_W ad ca M0) sz) := by
  refine fz_enter (fun A => q_Checks_allowsStack D ad ca N M0 MZ RZ A) (by decide +kernel) (Nat.le_of_ble_eq_true rfl) ?_
  intro p e s m below meth c ls A hx hb hml hown hts hr hlocks hin hP hK hD hS hA hX hl hz
  have hl : lv_has ls 7 [(0, .ref (ad 6 j0)), (1, .long x1)] := hl
  unfold f_Checks_allowsStack at h
  have hkp : me_kp M0 M0 := me_kp.rf
  have hkb := hkp
  have b_211 : ∀ (M : me_M) (y3 : Nat) (y4 : Int32) (y5 : Int32) (H : Heap) (locs : List Loc) (ls : Array Slot), f_Checks_allowsStack_b211 j0 M y3 y4 y5 = (some (MZ, RZ)) → (y3 < N 10) → (y5 = 1 ∨ y5 = 0) → me_wf N M → me_kp M0 M → va_P D classes (me_W ad ca M) H → va_D A (me_W ad ca M) → va_S A s.heap H locs → lv_has ls 7 [(0, .ref (ad 6 j0)), (3, .ref (ad 10 y3)), (4, .int y4), (5, .int y5)] → W p l e rm_Checks_allowsStack s m [.ref (ad 6 j0), .long x1].toArray below meth c H locs 0 0 (MQ below (q_Checks_allowsStack D ad ca N M0 MZ RZ A) [.ref (ad 6 j0), .long x1].toArray s rm_Checks_allowsStack.cells rm_Checks_allowsStack.slots A) (F0 m 211 ls []) := by
    intro M y3 y4 y5 H locs ls h hy3 zy5 hwf hkp hP hD hS hl
    unfold f_Checks_allowsStack_b211 at h
    have hkb := hkp
    refine lv_iload hx hb d_Checks_allowsStack_211 (lv_at hl 3 rfl) ?_
    refine lv_if_eq (tgt := 232) hx hb d_Checks_allowsStack_213 (by decide) (fun c1 => ?_) (fun c1 => ?_)
    · have h := if_t c1 h
      refine lv_aload_n hx hb d_Checks_allowsStack_232 rfl (lv_at hl 1 rfl) ?_
      refine lv_iload hx hb d_Checks_allowsStack_233 (lv_at hl 2 rfl) ?_
      obtain ⟨M2, eM2, h⟩ := bd_ob h
      refine me_thenv0 (M1 := M2) (me_runV (C := "FilterGuard$Cell") (As := [.int y4]) (rest := []) ⟨hx, hb, hml, hown, hts⟩ (c_Cell_storeBytes l D ad ca N M M2 y3 y4 eM2 hwf hy3 _) rfl (by show fg_nm y_Cell_storeBytes 1; decide +kernel) u_1642 u_1407 u_1408 u_188 u_1409 ⟨Nat.le_of_ble_eq_true rfl, Nat.le_of_ble_eq_true rfl⟩ hX hz hK hP hD hwf hS hA hy3 (by decide) rfl rfl rfl hl.1 (Nat.le_of_ble_eq_true rfl) d_Checks_allowsStack_235 ⟨Nat.le_of_ble_eq_true rfl, Nat.le_of_ble_eq_true rfl⟩) hP hD hK hS hA rfl rfl (fun H locs hw hP hD hS => ?_)
      obtain ⟨hwf, hk9⟩ := hw
      have hkp := hkp.tr hk9
      refine lv_iconst (v := 1) hx hb d_Checks_allowsStack_238 (by decide) ?_
      exact me_retz (me_kp M0) h (by decide) hx hb hr hlocks hwf hkp hP hK hD hS d_Checks_allowsStack_239
    have h := if_f c1 h
    refine lv_aload_n hx hb d_Checks_allowsStack_216 rfl (lv_at hl 1 rfl) ?_
    refine lv_aload_n hx hb d_Checks_allowsStack_217 rfl (lv_at hl 0 rfl) ?_
    obtain ⟨M3, r4, eM3, h⟩ := b2_ob h
    refine me_theni0 (M1 := M3) (me_runV (C := "FilterGuard$Checks") (As := []) (rest := [.ref (ad 10 y3)]) ⟨hx, hb, hml, hown, hts⟩ (c_Checks_operandKind l D ad ca N M M3 r4 j0 eM3 hwf hj0 _) rfl (by show fg_nm y_Checks_operandKind 0; decide +kernel) u_1605 u_1607 u_65 u_191 u_1608 ⟨Nat.le_of_ble_eq_true rfl, Nat.le_of_ble_eq_true rfl⟩ hX hz hK hP hD hwf hS hA hj0 (by decide) rfl rfl rfl hl.1 (Nat.le_of_ble_eq_true rfl) d_Checks_allowsStack_218 ⟨Nat.le_of_ble_eq_true rfl, Nat.le_of_ble_eq_true rfl⟩) hP hD hK hS hA rfl rfl (fun H locs hw hP hD hS => ?_)
    obtain ⟨hwf, hk9⟩ := hw
    have hkp := hkp.tr hk9
    obtain ⟨M5, eM5, h⟩ := st_ob h
    refine p_Cell_0 eM5 hx hb hts hown hK hP hD hwf hS hy3 (hts _ u_421) d_Checks_allowsStack_221 (fun H locs hP hD hwf hS => ?_)
    have hkp := kp_I eM5 hkp
    refine lv_aload_n hx hb d_Checks_allowsStack_224 rfl (lv_at hl 1 rfl) ?_
    refine lv_iconst (v := 0) hx hb d_Checks_allowsStack_225 (by decide) ?_
    obtain ⟨M6, eM6, h⟩ := st_ob h
    refine p_Cell_5 eM6 hx hb hts hown hK hP hD hwf hS hy3 (hts _ u_434) d_Checks_allowsStack_226 (fun H locs hP hD hwf hS => ?_)
    have hkp := kp_I eM6 hkp
    refine lv_goto (tgt := 238) hx hb d_Checks_allowsStack_229 (by decide) ?_
    refine lv_iconst (v := 1) hx hb d_Checks_allowsStack_238 (by decide) ?_
    exact me_retz (me_kp M0) h (by decide) hx hb hr hlocks hwf hkp hP hK hD hS d_Checks_allowsStack_239
  have b_189 : ∀ (M : me_M) (y3 : Nat) (y4 : Int32) (y5 : Int32) (H : Heap) (locs : List Loc) (ls : Array Slot), f_Checks_allowsStack_b189 j0 M y3 y4 y5 = (some (MZ, RZ)) → (y3 < N 10) → (y5 = 1 ∨ y5 = 0) → me_wf N M → me_kp M0 M → va_P D classes (me_W ad ca M) H → va_D A (me_W ad ca M) → va_S A s.heap H locs → lv_has ls 7 [(0, .ref (ad 6 j0)), (3, .ref (ad 10 y3)), (4, .int y4), (5, .int y5)] → W p l e rm_Checks_allowsStack s m [.ref (ad 6 j0), .long x1].toArray below meth c H locs 0 0 (MQ below (q_Checks_allowsStack D ad ca N M0 MZ RZ A) [.ref (ad 6 j0), .long x1].toArray s rm_Checks_allowsStack.cells rm_Checks_allowsStack.slots A) (F0 m 189 ls []) := by
    intro M y3 y4 y5 H locs ls h hy3 zy5 hwf hkp hP hD hS hl
    unfold f_Checks_allowsStack_b189 at h
    have hkb := hkp
    refine lv_aload_n hx hb d_Checks_allowsStack_189 rfl (lv_at hl 0 rfl) ?_
    refine g_Checks_0 hx hb hts hown hK hP hwf hj0 (hts _ u_610) d_Checks_allowsStack_190 ?_
    obtain ⟨j7, e8, h⟩ := bd_ob h
    have hj7 : j7 < N 2 := (hwf.2.1 6 j0 0 _ e8 (by decide) hj0)
    refine me_opt (j := j7) e8 ?_
    refine g_Code_10 hx hb hts hown hK hP hwf hj7 (hts _ u_253) d_Checks_allowsStack_193 ?_
    refine lv_iconst (v := 5) hx hb d_Checks_allowsStack_196 (by decide) ?_
    refine lv_icmp_ne (tgt := 211) hx hb d_Checks_allowsStack_197 (by decide) (fun c9 => ?_) (fun c9 => ?_)
    · have h := if_f c9 h
      exact b_211 M y3 y4 y5 _ _ _ h hy3 zy5 hwf hkp hP hD hS (lv_sub hl [0, 1, 2, 3] rfl)
    have h := if_t c9 h
    refine lv_aload_n hx hb d_Checks_allowsStack_200 rfl (lv_at hl 1 rfl) ?_
    refine lv_iload hx hb d_Checks_allowsStack_201 (lv_at hl 2 rfl) ?_
    obtain ⟨M10, r11, eM10, h⟩ := b2_ob h
    refine me_theni0 (M1 := M10) (me_runV (C := "FilterGuard$Cell") (As := [.int y4]) (rest := []) ⟨hx, hb, hml, hown, hts⟩ (c_Cell_isReadable l D ad ca N M M10 r11 y3 y4 eM10 hwf hy3 _) rfl (by show fg_nm y_Cell_isReadable 1; decide +kernel) u_1631 u_1364 u_1365 u_188 u_1366 ⟨Nat.le_of_ble_eq_true rfl, Nat.le_of_ble_eq_true rfl⟩ hX hz hK hP hD hwf hS hA hy3 (by decide) rfl rfl rfl hl.1 (Nat.le_of_ble_eq_true rfl) d_Checks_allowsStack_203 ⟨Nat.le_of_ble_eq_true rfl, Nat.le_of_ble_eq_true rfl⟩) hP hD hK hS hA rfl rfl (fun H locs hw hP hD hS => ?_)
    obtain ⟨hwf, hk9, zr11⟩ := hw
    have hkp := hkp.tr hk9
    refine lv_if_ne (tgt := 211) hx hb d_Checks_allowsStack_206 (by decide) (fun c12 => ?_) (fun c12 => ?_)
    · have h := if_f c12 h
      exact b_211 M10 y3 y4 y5 _ _ _ h hy3 zy5 hwf hkp hP hD hS (lv_sub hl [0, 1, 2, 3] rfl)
    have h := if_t c12 h
    refine lv_iconst (v := 0) hx hb d_Checks_allowsStack_209 (by decide) ?_
    exact me_retz (me_kp M0) h (by decide) hx hb hr hlocks hwf hkp hP hK hD hS d_Checks_allowsStack_210
  have b_166 : ∀ (M : me_M) (y3 : Nat) (y4 : Int32) (y5 : Int32) (s0 : Int32) (H : Heap) (locs : List Loc) (ls : Array Slot), f_Checks_allowsStack_b166 j0 M y3 y4 y5 s0 = (some (MZ, RZ)) → (y3 < N 10) → (y5 = 1 ∨ y5 = 0) → (s0 = 1 ∨ s0 = 0) → me_wf N M → me_kp M0 M → va_P D classes (me_W ad ca M) H → va_D A (me_W ad ca M) → va_S A s.heap H locs → lv_has ls 7 [(0, .ref (ad 6 j0)), (3, .ref (ad 10 y3)), (4, .int y4), (5, .int y5)] → W p l e rm_Checks_allowsStack s m [.ref (ad 6 j0), .long x1].toArray below meth c H locs 0 0 (MQ below (q_Checks_allowsStack D ad ca N M0 MZ RZ A) [.ref (ad 6 j0), .long x1].toArray s rm_Checks_allowsStack.cells rm_Checks_allowsStack.slots A) (F0 m 166 ls [.int s0]) := by
    intro M y3 y4 y5 s0 H locs ls h hy3 zy5 zs0 hwf hkp hP hD hS hl
    unfold f_Checks_allowsStack_b166 at h
    have hkb := hkp
    refine lv_istore (lv' := [(6, .int s0), (0, .ref (ad 6 j0)), (3, .ref (ad 10 y3)), (4, .int y4), (5, .int y5)]) hx hb d_Checks_allowsStack_166 hl (by decide) rfl (fun ls hl => ?_)
    refine lv_iload hx hb d_Checks_allowsStack_168 (lv_at hl 0 rfl) ?_
    refine lv_if_ne (tgt := 189) hx hb d_Checks_allowsStack_170 (by decide) (fun c13 => ?_) (fun c13 => ?_)
    · have h := if_f c13 h
      exact b_189 M y3 y4 y5 _ _ _ h hy3 zy5 hwf hkp hP hD hS (lv_sub hl [1, 2, 3, 4] rfl)
    have h := if_t c13 h
    refine lv_iload hx hb d_Checks_allowsStack_173 (lv_at hl 4 rfl) ?_
    refine lv_if_eq (tgt := 209) hx hb d_Checks_allowsStack_175 (by decide) (fun c14 => ?_) (fun c14 => ?_)
    · have h := if_t c14 h
      refine lv_iconst (v := 0) hx hb d_Checks_allowsStack_209 (by decide) ?_
      exact me_retz (me_kp M0) h (by decide) hx hb hr hlocks hwf hkp hP hK hD hS d_Checks_allowsStack_210
    have h := if_f c14 h
    refine lv_aload_n hx hb d_Checks_allowsStack_178 rfl (lv_at hl 1 rfl) ?_
    refine g_Checks_0 hx hb hts hown hK hP hwf hj0 (hts _ u_610) d_Checks_allowsStack_179 ?_
    obtain ⟨j15, e16, h⟩ := bd_ob h
    have hj15 : j15 < N 2 := (hwf.2.1 6 j0 0 _ e16 (by decide) hj0)
    refine me_opt (j := j15) e16 ?_
    refine g_Code_10 hx hb hts hown hK hP hwf hj15 (hts _ u_253) d_Checks_allowsStack_182 ?_
    refine lv_iconst (v := 5) hx hb d_Checks_allowsStack_185 (by decide) ?_
    refine lv_icmp_eq (tgt := 209) hx hb d_Checks_allowsStack_186 (by decide) (fun c17 => ?_) (fun c17 => ?_)
    · have h := if_t c17 h
      refine lv_iconst (v := 0) hx hb d_Checks_allowsStack_209 (by decide) ?_
      exact me_retz (me_kp M0) h (by decide) hx hb hr hlocks hwf hkp hP hK hD hS d_Checks_allowsStack_210
    have h := if_f c17 h
    exact b_189 M y3 y4 y5 _ _ _ h hy3 zy5 hwf hkp hP hD hS (lv_sub hl [1, 2, 3, 4] rfl)
  have b_123 : ∀ (M : me_M) (y3 : Nat) (y4 : Int32) (y5 : Int32) (s0 : Int32) (s1 : Nat) (H : Heap) (locs : List Loc) (ls : Array Slot), f_Checks_allowsStack_b123 M y3 y4 y5 s0 s1 = (some (MZ, RZ)) → (y3 < N 10) → (y5 = 1 ∨ y5 = 0) → (s1 < N 10) → me_wf N M → me_kp M0 M → va_P D classes (me_W ad ca M) H → va_D A (me_W ad ca M) → va_S A s.heap H locs → lv_has ls 7 [(3, .ref (ad 10 y3)), (4, .int y4), (5, .int y5)] → W p l e rm_Checks_allowsStack s m [.ref (ad 6 j0), .long x1].toArray below meth c H locs 0 0 (MQ below (q_Checks_allowsStack D ad ca N M0 MZ RZ A) [.ref (ad 6 j0), .long x1].toArray s rm_Checks_allowsStack.cells rm_Checks_allowsStack.slots A) (F0 m 123 ls [.int s0, .ref (ad 10 s1)]) := by
    intro M y3 y4 y5 s0 s1 H locs ls h hy3 zy5 hs1 hwf hkp hP hD hS hl
    unfold f_Checks_allowsStack_b123 at h
    have hkb := hkp
    obtain ⟨M18, eM18, h⟩ := st_ob h
    refine p_Cell_0 eM18 hx hb hts hown hK hP hD hwf hS hs1 (hts _ u_421) d_Checks_allowsStack_123 (fun H locs hP hD hwf hS => ?_)
    have hkp := kp_I eM18 hkp
    refine lv_iload hx hb d_Checks_allowsStack_126 (lv_at hl 2 rfl) ?_
    refine lv_if_eq (tgt := 138) hx hb d_Checks_allowsStack_128 (by decide) (fun c19 => ?_) (fun c19 => ?_)
    · have h := if_t c19 h
      refine lv_aload_n hx hb d_Checks_allowsStack_138 rfl (lv_at hl 0 rfl) ?_
      refine lv_iload hx hb d_Checks_allowsStack_139 (lv_at hl 1 rfl) ?_
      obtain ⟨M20, r21, eM20, h⟩ := b2_ob h
      refine me_theni0 (M1 := M20) (me_runV (C := "FilterGuard$Cell") (As := [.int y4]) (rest := []) ⟨hx, hb, hml, hown, hts⟩ (c_Cell_isReadable l D ad ca N M18 M20 r21 y3 y4 eM20 hwf hy3 _) rfl (by show fg_nm y_Cell_isReadable 1; decide +kernel) u_1631 u_1364 u_1365 u_188 u_1366 ⟨Nat.le_of_ble_eq_true rfl, Nat.le_of_ble_eq_true rfl⟩ hX hz hK hP hD hwf hS hA hy3 (by decide) rfl rfl rfl hl.1 (Nat.le_of_ble_eq_true rfl) d_Checks_allowsStack_141 ⟨Nat.le_of_ble_eq_true rfl, Nat.le_of_ble_eq_true rfl⟩) hP hD hK hS hA rfl rfl (fun H locs hw hP hD hS => ?_)
      obtain ⟨hwf, hk9, zr21⟩ := hw
      have hkp := hkp.tr hk9
      refine lv_if_eq (tgt := 151) hx hb d_Checks_allowsStack_144 (by decide) (fun c22 => ?_) (fun c22 => ?_)
      · have h := if_t c22 h
        refine lv_iconst (v := 0) hx hb d_Checks_allowsStack_151 (by decide) ?_
        exact me_retz (me_kp M0) h (by decide) hx hb hr hlocks hwf hkp hP hK hD hS d_Checks_allowsStack_152
      have h := if_f c22 h
      refine lv_iconst (v := 1) hx hb d_Checks_allowsStack_147 (by decide) ?_
      refine lv_goto (tgt := 152) hx hb d_Checks_allowsStack_148 (by decide) ?_
      exact me_retz (me_kp M0) h (by decide) hx hb hr hlocks hwf hkp hP hK hD hS d_Checks_allowsStack_152
    have h := if_f c19 h
    refine lv_aload_n hx hb d_Checks_allowsStack_131 rfl (lv_at hl 0 rfl) ?_
    refine g_Cell_0 hx hb hts hown hK hP hwf hy3 (hts _ u_421) d_Checks_allowsStack_132 ?_
    refine lv_if_ne (tgt := 147) hx hb d_Checks_allowsStack_135 (by decide) (fun c23 => ?_) (fun c23 => ?_)
    · have h := if_f c23 h
      refine lv_iconst (v := 1) hx hb d_Checks_allowsStack_147 (by decide) ?_
      refine lv_goto (tgt := 152) hx hb d_Checks_allowsStack_148 (by decide) ?_
      exact me_retz (me_kp M0) h (by decide) hx hb hr hlocks hwf hkp hP hK hD hS d_Checks_allowsStack_152
    have h := if_t c23 h
    refine lv_aload_n hx hb d_Checks_allowsStack_138 rfl (lv_at hl 0 rfl) ?_
    refine lv_iload hx hb d_Checks_allowsStack_139 (lv_at hl 1 rfl) ?_
    obtain ⟨M24, r25, eM24, h⟩ := b2_ob h
    refine me_theni0 (M1 := M24) (me_runV (C := "FilterGuard$Cell") (As := [.int y4]) (rest := []) ⟨hx, hb, hml, hown, hts⟩ (c_Cell_isReadable l D ad ca N M18 M24 r25 y3 y4 eM24 hwf hy3 _) rfl (by show fg_nm y_Cell_isReadable 1; decide +kernel) u_1631 u_1364 u_1365 u_188 u_1366 ⟨Nat.le_of_ble_eq_true rfl, Nat.le_of_ble_eq_true rfl⟩ hX hz hK hP hD hwf hS hA hy3 (by decide) rfl rfl rfl hl.1 (Nat.le_of_ble_eq_true rfl) d_Checks_allowsStack_141 ⟨Nat.le_of_ble_eq_true rfl, Nat.le_of_ble_eq_true rfl⟩) hP hD hK hS hA rfl rfl (fun H locs hw hP hD hS => ?_)
    obtain ⟨hwf, hk9, zr25⟩ := hw
    have hkp := hkp.tr hk9
    refine lv_if_eq (tgt := 151) hx hb d_Checks_allowsStack_144 (by decide) (fun c26 => ?_) (fun c26 => ?_)
    · have h := if_t c26 h
      refine lv_iconst (v := 0) hx hb d_Checks_allowsStack_151 (by decide) ?_
      exact me_retz (me_kp M0) h (by decide) hx hb hr hlocks hwf hkp hP hK hD hS d_Checks_allowsStack_152
    have h := if_f c26 h
    refine lv_iconst (v := 1) hx hb d_Checks_allowsStack_147 (by decide) ?_
    refine lv_goto (tgt := 152) hx hb d_Checks_allowsStack_148 (by decide) ?_
    exact me_retz (me_kp M0) h (by decide) hx hb hr hlocks hwf hkp hP hK hD hS d_Checks_allowsStack_152
  have b_122 : ∀ (M : me_M) (y3 : Nat) (y4 : Int32) (y5 : Int32) (s0 : Nat) (H : Heap) (locs : List Loc) (ls : Array Slot), f_Checks_allowsStack_b122 M y3 y4 y5 s0 = (some (MZ, RZ)) → (y3 < N 10) → (y5 = 1 ∨ y5 = 0) → (s0 < N 10) → me_wf N M → me_kp M0 M → va_P D classes (me_W ad ca M) H → va_D A (me_W ad ca M) → va_S A s.heap H locs → lv_has ls 7 [(3, .ref (ad 10 y3)), (4, .int y4), (5, .int y5)] → W p l e rm_Checks_allowsStack s m [.ref (ad 6 j0), .long x1].toArray below meth c H locs 0 0 (MQ below (q_Checks_allowsStack D ad ca N M0 MZ RZ A) [.ref (ad 6 j0), .long x1].toArray s rm_Checks_allowsStack.cells rm_Checks_allowsStack.slots A) (F0 m 122 ls [.ref (ad 10 s0)]) := by
    intro M y3 y4 y5 s0 H locs ls h hy3 zy5 hs0 hwf hkp hP hD hS hl
    unfold f_Checks_allowsStack_b122 at h
    have hkb := hkp
    refine lv_iconst (v := 1) hx hb d_Checks_allowsStack_122 (by decide) ?_
    exact b_123 M y3 y4 y5 (1 : Int32) s0 _ _ _ h hy3 zy5 hs0 hwf hkp hP hD hS (lv_sub hl [0, 1, 2] rfl)
  have b_78 : ∀ (M : me_M) (y3 : Nat) (y4 : Int32) (s0 : Int32) (H : Heap) (locs : List Loc) (ls : Array Slot), f_Checks_allowsStack_b78 j0 M y3 y4 s0 = (some (MZ, RZ)) → (y3 < N 10) → (s0 = 1 ∨ s0 = 0) → me_wf N M → me_kp M0 M → va_P D classes (me_W ad ca M) H → va_D A (me_W ad ca M) → va_S A s.heap H locs → lv_has ls 7 [(0, .ref (ad 6 j0)), (3, .ref (ad 10 y3)), (4, .int y4)] → W p l e rm_Checks_allowsStack s m [.ref (ad 6 j0), .long x1].toArray below meth c H locs 0 0 (MQ below (q_Checks_allowsStack D ad ca N M0 MZ RZ A) [.ref (ad 6 j0), .long x1].toArray s rm_Checks_allowsStack.cells rm_Checks_allowsStack.slots A) (F0 m 78 ls [.int s0]) := by
    intro M y3 y4 s0 H locs ls h hy3 zs0 hwf hkp hP hD hS hl
    unfold f_Checks_allowsStack_b78 at h
    have hkb := hkp
    refine lv_istore (lv' := [(5, .int s0), (0, .ref (ad 6 j0)), (3, .ref (ad 10 y3)), (4, .int y4)]) hx hb d_Checks_allowsStack_78 hl (by decide) rfl (fun ls hl => ?_)
    refine lv_aload_n hx hb d_Checks_allowsStack_80 rfl (lv_at hl 1 rfl) ?_
    refine g_Checks_0 hx hb hts hown hK hP hwf hj0 (hts _ u_610) d_Checks_allowsStack_81 ?_
    obtain ⟨j27, e28, h⟩ := bd_ob h
    have hj27 : j27 < N 2 := (hwf.2.1 6 j0 0 _ e28 (by decide) hj0)
    refine me_opt (j := j27) e28 ?_
    refine g_Code_10 hx hb hts hown hK hP hwf hj27 (hts _ u_253) d_Checks_allowsStack_84 ?_
    refine lv_iconst (v := 2) hx hb d_Checks_allowsStack_87 (by decide) ?_
    refine lv_icmp_ne (tgt := 153) hx hb d_Checks_allowsStack_88 (by decide) (fun c29 => ?_) (fun c29 => ?_)
    · have h := if_f c29 h
      refine lv_aload_n hx hb d_Checks_allowsStack_153 rfl (lv_at hl 1 rfl) ?_
      obtain ⟨M30, r31, eM30, h⟩ := b2_ob h
      refine me_theni0 (M1 := M30) (me_runV (C := "FilterGuard$Checks") (As := []) (rest := []) ⟨hx, hb, hml, hown, hts⟩ (c_Checks_operandKind l D ad ca N M M30 r31 j0 eM30 hwf hj0 _) rfl (by show fg_nm y_Checks_operandKind 0; decide +kernel) u_1605 u_1607 u_65 u_191 u_1608 ⟨Nat.le_of_ble_eq_true rfl, Nat.le_of_ble_eq_true rfl⟩ hX hz hK hP hD hwf hS hA hj0 (by decide) rfl rfl rfl hl.1 (Nat.le_of_ble_eq_true rfl) d_Checks_allowsStack_154 ⟨Nat.le_of_ble_eq_true rfl, Nat.le_of_ble_eq_true rfl⟩) hP hD hK hS hA rfl rfl (fun H locs hw hP hD hS => ?_)
      obtain ⟨hwf, hk9⟩ := hw
      have hkp := hkp.tr hk9
      refine lv_iconst (v := 1) hx hb d_Checks_allowsStack_157 (by decide) ?_
      refine lv_icmp_ne (tgt := 165) hx hb d_Checks_allowsStack_158 (by decide) (fun c32 => ?_) (fun c32 => ?_)
      · have h := if_f c32 h
        refine lv_iconst (v := 0) hx hb d_Checks_allowsStack_165 (by decide) ?_
        exact b_166 M30 y3 y4 s0 (0 : Int32) _ _ _ h hy3 zs0 (by decide) hwf hkp hP hD hS (lv_sub hl [1, 2, 3, 0] rfl)
      have h := if_t c32 h
      refine lv_iconst (v := 1) hx hb d_Checks_allowsStack_161 (by decide) ?_
      refine lv_goto (tgt := 166) hx hb d_Checks_allowsStack_162 (by decide) ?_
      exact b_166 M30 y3 y4 s0 (1 : Int32) _ _ _ h hy3 zs0 (by decide) hwf hkp hP hD hS (lv_sub hl [1, 2, 3, 0] rfl)
    have h := if_t c29 h
    refine lv_aload_n hx hb d_Checks_allowsStack_91 rfl (lv_at hl 1 rfl) ?_
    refine g_Checks_3 hx hb hts hown hK hP hwf hj0 (hts _ u_613) d_Checks_allowsStack_92 ?_
    obtain ⟨j33, e34, h⟩ := bd_ob h
    have hj33 : j33 < N 18 := (hwf.2.1 6 j0 3 _ e34 (by decide) hj0)
    refine me_opt (j := j33) e34 ?_
    refine lv_aload_n hx hb d_Checks_allowsStack_95 rfl (lv_at hl 1 rfl) ?_
    refine g_Checks_0 hx hb hts hown hK hP hwf hj0 (hts _ u_610) d_Checks_allowsStack_96 ?_
    refine me_opt (j := j27) e28 ?_
    refine g_Code_6 hx hb hts hown hK hP hwf hj27 (hts _ u_234) d_Checks_allowsStack_99 ?_
    obtain ⟨g35, h⟩ := gd_ob h
    refine me_aald (k := 18) (t := 10) hx hb hK hP hwf hj33 (by decide) (by decide) rfl (fun _ => rfl) g35 d_Checks_allowsStack_102 ?_
    obtain ⟨j36, e37, h⟩ := bd_ob h
    have hj36 : j36 < N 10 := (hwf.2.1 18 j33 ((mI M 2 j27 6).toNatClampNeg) _ e37 (by decide) hj33)
    refine me_opt (j := j36) e37 ?_
    refine lv_iload hx hb d_Checks_allowsStack_103 (lv_at hl 0 rfl) ?_
    refine lv_if_eq (tgt := 122) hx hb d_Checks_allowsStack_105 (by decide) (fun c38 => ?_) (fun c38 => ?_)
    · have h := if_t c38 h
      exact b_122 M y3 y4 s0 j36 _ _ _ h hy3 zs0 hj36 hwf hkp hP hD hS (lv_sub hl [2, 3, 0] rfl)
    have h := if_f c38 h
    refine lv_aload_n hx hb d_Checks_allowsStack_108 rfl (lv_at hl 2 rfl) ?_
    refine g_Cell_0 hx hb hts hown hK hP hwf hy3 (hts _ u_421) d_Checks_allowsStack_109 ?_
    refine lv_if_eq (tgt := 122) hx hb d_Checks_allowsStack_112 (by decide) (fun c39 => ?_) (fun c39 => ?_)
    · have h := if_t c39 h
      exact b_122 M y3 y4 s0 j36 _ _ _ h hy3 zs0 hj36 hwf hkp hP hD hS (lv_sub hl [2, 3, 0] rfl)
    have h := if_f c39 h
    refine lv_aload_n hx hb d_Checks_allowsStack_115 rfl (lv_at hl 2 rfl) ?_
    refine g_Cell_0 hx hb hts hown hK hP hwf hy3 (hts _ u_421) d_Checks_allowsStack_116 ?_
    refine lv_goto (tgt := 123) hx hb d_Checks_allowsStack_119 (by decide) ?_
    exact b_123 M y3 y4 s0 (mI M 10 y3 0) j36 _ _ _ h hy3 zs0 hj36 hwf hkp hP hD hS (lv_sub hl [2, 3, 0] rfl)
  refine lv_lload_n hx hb d_Checks_allowsStack_0 rfl (lv_at hl 1 rfl) ?_
  refine lv_ldc2 hx hb hown (hts _ u_1629) d_Checks_allowsStack_1 ?_
  refine W.lcmp hx hb d_Checks_allowsStack_4 ?_
  refine lv_if_lt (tgt := 38) hx hb d_Checks_allowsStack_5 (by decide) (fun c40 => ?_) (fun c40 => ?_)
  · have h := if_t ((lg_cmp_lt _ _).mp c40) h
    refine lv_iconst (v := 0) hx hb d_Checks_allowsStack_38 (by decide) ?_
    exact me_retz (me_kp M0) h (by decide) hx hb hr hlocks hwf hkp hP hK hD hS d_Checks_allowsStack_39
  have h := if_f (fun z => c40 ((lg_cmp_lt _ _).mpr z)) h
  refine lv_lload_n hx hb d_Checks_allowsStack_8 rfl (lv_at hl 1 rfl) ?_
  refine lv_aload_n hx hb d_Checks_allowsStack_9 rfl (lv_at hl 0 rfl) ?_
  refine g_Checks_0 hx hb hts hown hK hP hwf hj0 (hts _ u_610) d_Checks_allowsStack_10 ?_
  obtain ⟨j41, e42, h⟩ := bd_ob h
  have hj41 : j41 < N 2 := (hwf.2.1 6 j0 0 _ e42 (by decide) hj0)
  refine me_opt (j := j41) e42 ?_
  refine g_Code_11 hx hb hts hown hK hP hwf hj41 (hts _ u_258) d_Checks_allowsStack_13 ?_
  refine lv_i2l (v := (mI M0 2 j41 11).toInt64) hx hb d_Checks_allowsStack_16 rfl ?_
  refine lv_ladd hx hb d_Checks_allowsStack_17 ?_
  refine lv_lconst (v := 0) hx hb d_Checks_allowsStack_18 (by decide) ?_
  refine W.lcmp hx hb d_Checks_allowsStack_19 ?_
  refine lv_if_gt (tgt := 38) hx hb d_Checks_allowsStack_20 (by decide) (fun c43 => ?_) (fun c43 => ?_)
  · have h := if_t ((lg_cmp_gt _ _).mp c43) h
    refine lv_iconst (v := 0) hx hb d_Checks_allowsStack_38 (by decide) ?_
    exact me_retz (me_kp M0) h (by decide) hx hb hr hlocks hwf hkp hP hK hD hS d_Checks_allowsStack_39
  have h := if_f (fun z => c43 ((lg_cmp_gt _ _).mpr z)) h
  refine lv_lload_n hx hb d_Checks_allowsStack_23 rfl (lv_at hl 1 rfl) ?_
  refine lv_aload_n hx hb d_Checks_allowsStack_24 rfl (lv_at hl 0 rfl) ?_
  refine g_Checks_0 hx hb hts hown hK hP hwf hj0 (hts _ u_610) d_Checks_allowsStack_25 ?_
  refine me_opt (j := j41) e42 ?_
  refine g_Code_11 hx hb hts hown hK hP hwf hj41 (hts _ u_258) d_Checks_allowsStack_28 ?_
  refine lv_i2l (v := (mI M0 2 j41 11).toInt64) hx hb d_Checks_allowsStack_31 rfl ?_
  obtain ⟨g44, h⟩ := gd_ob h
  refine lv_lrem hx hb d_Checks_allowsStack_32 g44 ?_
  refine fg_topl (y := jlrem x1 ((mI M0 2 j41 11).toInt64)) rfl ?_
  refine lv_lconst (v := 0) hx hb d_Checks_allowsStack_33 (by decide) ?_
  refine W.lcmp hx hb d_Checks_allowsStack_34 ?_
  refine lv_if_eq (tgt := 40) hx hb d_Checks_allowsStack_35 (by decide) (fun c45 => ?_) (fun c45 => ?_)
  · have h := if_t ((lg_cmp_eq _ _).mp c45) h
    refine lv_aload_n hx hb d_Checks_allowsStack_40 rfl (lv_at hl 0 rfl) ?_
    refine g_Checks_2 hx hb hts hown hK hP hwf hj0 (hts _ u_612) d_Checks_allowsStack_41 ?_
    obtain ⟨j46, e47, h⟩ := bd_ob h
    have hj46 : j46 < N 9 := (hwf.2.1 6 j0 2 _ e47 (by decide) hj0)
    refine me_opt (j := j46) e47 ?_
    refine lv_lload_n hx hb d_Checks_allowsStack_44 rfl (lv_at hl 1 rfl) ?_
    refine lv_l2i (v := x1.toInt32) hx hb d_Checks_allowsStack_45 rfl ?_
    obtain ⟨M48, r49, eM48, h⟩ := b2_ob h
    refine me_thenr0 (M1 := M48) (me_runV (C := "FilterGuard$State") (As := [.int x1.toInt32]) (rest := []) ⟨hx, hb, hml, hown, hts⟩ (c_State_slotAt l D ad ca N M0 M48 r49 j46 x1.toInt32 eM48 hwf hj46 _) rfl (by show fg_nm y_State_slotAt 1; decide +kernel) u_1630 u_1356 u_1357 u_189 u_1358 ⟨Nat.le_of_ble_eq_true rfl, Nat.le_of_ble_eq_true rfl⟩ hX hz hK hP hD hwf hS hA hj46 (by decide) rfl rfl rfl hl.1 (Nat.le_of_ble_eq_true rfl) d_Checks_allowsStack_46 ⟨Nat.le_of_ble_eq_true rfl, Nat.le_of_ble_eq_true rfl⟩) hP hD hK hS hA rfl rfl (fun H locs hw hP hD hS => ?_)
    obtain ⟨hwf, hk9, hr49⟩ := hw
    have hkp := hkp.tr hk9
    refine lv_astore_n (lv' := [(3, .ref (ad 10 r49)), (0, .ref (ad 6 j0)), (1, .long x1)]) hx hb d_Checks_allowsStack_49 rfl hl (by decide) rfl (fun ls hl => ?_)
    refine lv_aload_n hx hb d_Checks_allowsStack_50 rfl (lv_at hl 1 rfl) ?_
    refine g_Checks_0 hx hb hts hown hK hP hwf hj0 (hts _ u_610) d_Checks_allowsStack_51 ?_
    refine me_opt (j := j41) (kp_r hkb hkp e42) ?_
    refine lv_lload_n hx hb d_Checks_allowsStack_54 rfl (lv_at hl 2 rfl) ?_
    refine lv_l2i (v := x1.toInt32) hx hb d_Checks_allowsStack_55 rfl ?_
    obtain ⟨M50, r51, eM50, h⟩ := b2_ob h
    refine me_theni0 (M1 := M50) (me_runV (C := "FilterGuard$Code") (As := [.int x1.toInt32]) (rest := []) ⟨hx, hb, hml, hown, hts⟩ (c_Code_bytesAt l D ad ca N M48 M50 r51 j41 x1.toInt32 eM50 hwf hj41 _) rfl (by show fg_nm y_Code_bytesAt 1; decide +kernel) u_1641 u_1395 u_1396 u_182 u_1397 ⟨Nat.le_of_ble_eq_true rfl, Nat.le_of_ble_eq_true rfl⟩ hX hz hK hP hD hwf hS hA hj41 (by decide) rfl rfl rfl hl.1 (Nat.le_of_ble_eq_true rfl) d_Checks_allowsStack_56 ⟨Nat.le_of_ble_eq_true rfl, Nat.le_of_ble_eq_true rfl⟩) hP hD hK hS hA rfl rfl (fun H locs hw hP hD hS => ?_)
    obtain ⟨hwf, hk9⟩ := hw
    have hkp := hkp.tr hk9
    refine lv_istore (lv' := [(4, .int r51), (3, .ref (ad 10 r49)), (0, .ref (ad 6 j0)), (1, .long x1)]) hx hb d_Checks_allowsStack_59 hl (by decide) rfl (fun ls hl => ?_)
    refine lv_aload_n hx hb d_Checks_allowsStack_61 rfl (lv_at hl 2 rfl) ?_
    refine g_Checks_0 hx hb hts hown hK hP hwf hj0 (hts _ u_610) d_Checks_allowsStack_62 ?_
    refine me_opt (j := j41) (kp_r hkb hkp e42) ?_
    refine g_Code_11 hx hb hts hown hK hP hwf hj41 (hts _ u_258) d_Checks_allowsStack_65 ?_
    refine lv_bipush (v := 8) hx hb d_Checks_allowsStack_68 (by decide) ?_
    refine lv_icmp_ne (tgt := 77) hx hb d_Checks_allowsStack_70 (by decide) (fun c52 => ?_) (fun c52 => ?_)
    · have h := if_f c52 h
      refine lv_iconst (v := 0) hx hb d_Checks_allowsStack_77 (by decide) ?_
      exact b_78 M50 r49 r51 (0 : Int32) _ _ _ h hr49 (by decide) hwf hkp hP hD hS (lv_sub hl [2, 1, 0] rfl)
    have h := if_t c52 h
    refine lv_iconst (v := 1) hx hb d_Checks_allowsStack_73 (by decide) ?_
    refine lv_goto (tgt := 78) hx hb d_Checks_allowsStack_74 (by decide) ?_
    exact b_78 M50 r49 r51 (1 : Int32) _ _ _ h hr49 (by decide) hwf hkp hP hD hS (lv_sub hl [2, 1, 0] rfl)
  have h := if_f (fun z => c45 ((lg_cmp_eq _ _).mpr z)) h
  refine lv_iconst (v := 0) hx hb d_Checks_allowsStack_38 (by decide) ?_
  exact me_retz (me_kp M0) h (by decide) hx hb hr hlocks hwf hkp hP hK hD hS d_Checks_allowsStack_39
theorem d_Checks_allowsContext_75 : decode prog_3_method_9_code 75 = .ok (.putfield 34, 3) := by decide +kernel
theorem d_Checks_allowsContext_78 : decode prog_3_method_9_code 78 = .ok (.lload_n 1, 1) := by decide +kernel
theorem d_Checks_allowsContext_79 : decode prog_3_method_9_code 79 = .ok (.ldc2_w 110, 3) := by decide +kernel
theorem u_1648 : Cond.constantLong "FilterGuard$Checks" 110 16 ∈ fg_g := fg_in (List.mem_of_getElem? (i := 1648) (by decide +kernel)) rfl
theorem d_Checks_allowsContext_82 : decode prog_3_method_9_code 82 = .ok (.lcmp, 1) := by decide +kernel
theorem d_Checks_allowsContext_83 : decode prog_3_method_9_code 83 = .ok (.ifCond .ge 15, 3) := by decide +kernel
theorem d_Checks_allowsContext_98 : decode prog_3_method_9_code 98 = .ok (.iconst 1, 1) := by decide +kernel
theorem d_Checks_allowsContext_99 : decode prog_3_method_9_code 99 = .ok (.goto 4, 3) := by decide +kernel
theorem d_Checks_allowsContext_103 : decode prog_3_method_9_code 103 = .ok (.ireturn, 1) := by decide +kernel
theorem d_Checks_allowsContext_86 : decode prog_3_method_9_code 86 = .ok (.aload_n 0, 1) := by decide +kernel
theorem d_Checks_allowsContext_87 : decode prog_3_method_9_code 87 = .ok (.getfield 23, 3) := by decide +kernel
theorem d_Checks_allowsContext_90 : decode prog_3_method_9_code 90 = .ok (.getfield 105, 3) := by decide +kernel
theorem d_Checks_allowsContext_93 : decode prog_3_method_9_code 93 = .ok (.bipush 8, 2) := by decide +kernel
theorem d_Checks_allowsContext_95 : decode prog_3_method_9_code 95 = .ok (.if_icmp .ne 7, 3) := by decide +kernel
theorem d_Checks_allowsContext_102 : decode prog_3_method_9_code 102 = .ok (.iconst 0, 1) := by decide +kernel
theorem d_Checks_allowsContext_0 : decode prog_3_method_9_code 0 = .ok (.lload_n 1, 1) := by decide +kernel
theorem d_Checks_allowsContext_1 : decode prog_3_method_9_code 1 = .ok (.lconst 0, 1) := by decide +kernel
theorem d_Checks_allowsContext_2 : decode prog_3_method_9_code 2 = .ok (.lcmp, 1) := by decide +kernel
theorem d_Checks_allowsContext_3 : decode prog_3_method_9_code 3 = .ok (.ifCond .lt 35, 3) := by decide +kernel
theorem d_Checks_allowsContext_38 : decode prog_3_method_9_code 38 = .ok (.iconst 0, 1) := by decide +kernel
theorem d_Checks_allowsContext_39 : decode prog_3_method_9_code 39 = .ok (.ireturn, 1) := by decide +kernel
theorem d_Checks_allowsContext_6 : decode prog_3_method_9_code 6 = .ok (.lload_n 1, 1) := by decide +kernel
theorem d_Checks_allowsContext_7 : decode prog_3_method_9_code 7 = .ok (.aload_n 0, 1) := by decide +kernel
theorem d_Checks_allowsContext_8 : decode prog_3_method_9_code 8 = .ok (.getfield 23, 3) := by decide +kernel
theorem d_Checks_allowsContext_11 : decode prog_3_method_9_code 11 = .ok (.getfield 105, 3) := by decide +kernel
theorem d_Checks_allowsContext_14 : decode prog_3_method_9_code 14 = .ok (.i2l, 1) := by decide +kernel
theorem d_Checks_allowsContext_15 : decode prog_3_method_9_code 15 = .ok (.ladd, 1) := by decide +kernel
theorem d_Checks_allowsContext_16 : decode prog_3_method_9_code 16 = .ok (.ldc2_w 108, 3) := by decide +kernel
theorem u_1647 : Cond.constantLong "FilterGuard$Checks" 108 64 ∈ fg_g := fg_in (List.mem_of_getElem? (i := 1647) (by decide +kernel)) rfl
theorem d_Checks_allowsContext_19 : decode prog_3_method_9_code 19 = .ok (.lcmp, 1) := by decide +kernel
theorem d_Checks_allowsContext_20 : decode prog_3_method_9_code 20 = .ok (.ifCond .gt 18, 3) := by decide +kernel
theorem d_Checks_allowsContext_23 : decode prog_3_method_9_code 23 = .ok (.lload_n 1, 1) := by decide +kernel
theorem d_Checks_allowsContext_24 : decode prog_3_method_9_code 24 = .ok (.aload_n 0, 1) := by decide +kernel
theorem d_Checks_allowsContext_25 : decode prog_3_method_9_code 25 = .ok (.getfield 23, 3) := by decide +kernel
theorem d_Checks_allowsContext_28 : decode prog_3_method_9_code 28 = .ok (.getfield 105, 3) := by decide +kernel
theorem d_Checks_allowsContext_31 : decode prog_3_method_9_code 31 = .ok (.i2l, 1) := by decide +kernel
theorem d_Checks_allowsContext_32 : decode prog_3_method_9_code 32 = .ok (.lrem, 1) := by decide +kernel
theorem d_Checks_allowsContext_33 : decode prog_3_method_9_code 33 = .ok (.lconst 0, 1) := by decide +kernel
theorem d_Checks_allowsContext_34 : decode prog_3_method_9_code 34 = .ok (.lcmp, 1) := by decide +kernel
theorem d_Checks_allowsContext_35 : decode prog_3_method_9_code 35 = .ok (.ifCond .eq 5, 3) := by decide +kernel
theorem d_Checks_allowsContext_40 : decode prog_3_method_9_code 40 = .ok (.aload_n 0, 1) := by decide +kernel
theorem d_Checks_allowsContext_41 : decode prog_3_method_9_code 41 = .ok (.getfield 22, 3) := by decide +kernel
theorem d_Checks_allowsContext_44 : decode prog_3_method_9_code 44 = .ok (.aload_n 0, 1) := by decide +kernel
theorem d_Checks_allowsContext_45 : decode prog_3_method_9_code 45 = .ok (.getfield 23, 3) := by decide +kernel
theorem d_Checks_allowsContext_48 : decode prog_3_method_9_code 48 = .ok (.getfield 46, 3) := by decide +kernel
theorem d_Checks_allowsContext_51 : decode prog_3_method_9_code 51 = .ok (.aaload, 1) := by decide +kernel
theorem d_Checks_allowsContext_52 : decode prog_3_method_9_code 52 = .ok (.lload_n 1, 1) := by decide +kernel
theorem d_Checks_allowsContext_53 : decode prog_3_method_9_code 53 = .ok (.ldc2_w 110, 3) := by decide +kernel
theorem d_Checks_allowsContext_56 : decode prog_3_method_9_code 56 = .ok (.lcmp, 1) := by decide +kernel
theorem d_Checks_allowsContext_57 : decode prog_3_method_9_code 57 = .ok (.ifCond .lt 7, 3) := by decide +kernel
theorem d_Checks_allowsContext_64 : decode prog_3_method_9_code 64 = .ok (.lload_n 1, 1) := by decide +kernel
theorem d_Checks_allowsContext_65 : decode prog_3_method_9_code 65 = .ok (.lconst 0, 1) := by decide +kernel
theorem d_Checks_allowsContext_66 : decode prog_3_method_9_code 66 = .ok (.lcmp, 1) := by decide +kernel
theorem d_Checks_allowsContext_67 : decode prog_3_method_9_code 67 = .ok (.ifCond .ne 7, 3) := by decide +kernel
theorem d_Checks_allowsContext_74 : decode prog_3_method_9_code 74 = .ok (.iconst 5, 1) := by decide +kernel
theorem d_Checks_allowsContext_70 : decode prog_3_method_9_code 70 = .ok (.iconst 4, 1) := by decide +kernel
theorem d_Checks_allowsContext_71 : decode prog_3_method_9_code 71 = .ok (.goto 4, 3) := by decide +kernel
theorem d_Checks_allowsContext_60 : decode prog_3_method_9_code 60 = .ok (.iconst 1, 1) := by decide +kernel
theorem d_Checks_allowsContext_61 : decode prog_3_method_9_code 61 = .ok (.goto 14, 3) := by decide +kernel
abbrev y_Checks_allowsContext : MethodName := ⟨"FilterGuard$Checks", "allowsContext", "(J)Z"⟩
def rm_Checks_allowsContext : Room := { frames := 1, cells := 0, slots := 0, locals := 20 }
abbrev q_Checks_allowsContext (D : va_G) (ad : Nat → Nat → Nat) (ca : Nat → ClassId) (N : Nat → Nat) (M0 MZ : me_M) (RZ : Int32) (A : Nat → Prop) : Array Value → Jvm.State → Outcome → Jvm.State → Prop := va_Qi (fun r (_ : Unit) => r = RZ ∧ me_wf N MZ ∧ me_kp M0 MZ ∧ (RZ = 1 ∨ RZ = 0)) (fg_B D A (fun _ => me_W ad ca MZ) (fun _ => [])) A
set_option maxHeartbeats 4000000 in
set_option maxRecDepth 100000 in
theorem c_Checks_allowsContext (l : Launch) (D : va_G) (ad : Nat → Nat → Nat) (ca : Nat → ClassId) (N : Nat → Nat) (M0 MZ : me_M) (RZ : Int32) (j0 : Nat) (x1 : Int64) (h : f_Checks_allowsContext M0 j0 x1 = (some (MZ, RZ))) (hwf : me_wf N M0) (hj0 : j0 < N 6) (sz : Nat) : Met l y_Checks_allowsContext (fg_w y_Checks_allowsContext prog_3_method_9_code 3 (some .boolean)) rm_Checks_allowsContext (va_Pc [.ref (ad 6 j0), .long x1] (fz_P D (me_T ca) (me_W ad ca M0) sz)) (q_Checks_allowsContext D ad ca N M0 MZ RZ (va_A (me_W ad ca M0) sz)) rm_Checks_allowsContext.cells rm_Checks_allowsContext.slots (va_A (me_W ad ca M0) sz) := by
  refine fz_enter (fun A => q_Checks_allowsContext D ad ca N M0 MZ RZ A) (by decide +kernel) (Nat.le_of_ble_eq_true rfl) ?_
  intro p e s m below meth c ls A hx hb hml hown hts hr hlocks hin hP hK hD hS hA hX hl hz
  have hl : lv_has ls 3 [(0, .ref (ad 6 j0)), (1, .long x1)] := hl
  unfold f_Checks_allowsContext at h
  have hkp : me_kp M0 M0 := me_kp.rf
  have hkb := hkp
  have b_75 : ∀ (M : me_M) (s0 : Int32) (s1 : Nat) (H : Heap) (locs : List Loc) (ls : Array Slot), f_Checks_allowsContext_b75 j0 x1 M s0 s1 = (some (MZ, RZ)) → (s1 < N 10) → me_wf N M → me_kp M0 M → va_P D classes (me_W ad ca M) H → va_D A (me_W ad ca M) → va_S A s.heap H locs → lv_has ls 3 [(0, .ref (ad 6 j0)), (1, .long x1)] → W p l e rm_Checks_allowsContext s m [.ref (ad 6 j0), .long x1].toArray below meth c H locs 0 0 (MQ below (q_Checks_allowsContext D ad ca N M0 MZ RZ A) [.ref (ad 6 j0), .long x1].toArray s rm_Checks_allowsContext.cells rm_Checks_allowsContext.slots A) (F0 m 75 ls [.int s0, .ref (ad 10 s1)]) := by
    intro M s0 s1 H locs ls h hs1 hwf hkp hP hD hS hl
    unfold f_Checks_allowsContext_b75 at h
    have hkb := hkp
    obtain ⟨M1, eM1, h⟩ := st_ob h
    refine p_Cell_0 eM1 hx hb hts hown hK hP hD hwf hS hs1 (hts _ u_421) d_Checks_allowsContext_75 (fun H locs hP hD hwf hS => ?_)
    have hkp := kp_I eM1 hkp
    refine lv_lload_n hx hb d_Checks_allowsContext_78 rfl (lv_at hl 1 rfl) ?_
    refine lv_ldc2 hx hb hown (hts _ u_1648) d_Checks_allowsContext_79 ?_
    refine W.lcmp hx hb d_Checks_allowsContext_82 ?_
    refine lv_if_ge (tgt := 98) hx hb d_Checks_allowsContext_83 (by decide) (fun c2 => ?_) (fun c2 => ?_)
    · have h := if_f (Int64.not_lt.mpr ((lg_cmp_ge _ _).mp c2)) h
      refine lv_iconst (v := 1) hx hb d_Checks_allowsContext_98 (by decide) ?_
      refine lv_goto (tgt := 103) hx hb d_Checks_allowsContext_99 (by decide) ?_
      exact me_retz (me_kp M0) h (by decide) hx hb hr hlocks hwf hkp hP hK hD hS d_Checks_allowsContext_103
    have h := if_t (Int64.not_le.mp (fun z => c2 ((lg_cmp_ge _ _).mpr z))) h
    refine lv_aload_n hx hb d_Checks_allowsContext_86 rfl (lv_at hl 0 rfl) ?_
    refine g_Checks_0 hx hb hts hown hK hP hwf hj0 (hts _ u_610) d_Checks_allowsContext_87 ?_
    obtain ⟨j3, e4, h⟩ := bd_ob h
    have hj3 : j3 < N 2 := (hwf.2.1 6 j0 0 _ (kp_r hkb hkp e4) (by decide) hj0)
    refine me_opt (j := j3) (kp_r hkb hkp e4) ?_
    refine g_Code_11 hx hb hts hown hK hP hwf hj3 (hts _ u_258) d_Checks_allowsContext_90 ?_
    refine lv_bipush (v := 8) hx hb d_Checks_allowsContext_93 (by decide) ?_
    refine lv_icmp_ne (tgt := 102) hx hb d_Checks_allowsContext_95 (by decide) (fun c5 => ?_) (fun c5 => ?_)
    · have h := if_f c5 h
      refine lv_iconst (v := 0) hx hb d_Checks_allowsContext_102 (by decide) ?_
      exact me_retz (me_kp M0) h (by decide) hx hb hr hlocks hwf hkp hP hK hD hS d_Checks_allowsContext_103
    have h := if_t c5 h
    refine lv_iconst (v := 1) hx hb d_Checks_allowsContext_98 (by decide) ?_
    refine lv_goto (tgt := 103) hx hb d_Checks_allowsContext_99 (by decide) ?_
    exact me_retz (me_kp M0) h (by decide) hx hb hr hlocks hwf hkp hP hK hD hS d_Checks_allowsContext_103
  refine lv_lload_n hx hb d_Checks_allowsContext_0 rfl (lv_at hl 1 rfl) ?_
  refine lv_lconst (v := 0) hx hb d_Checks_allowsContext_1 (by decide) ?_
  refine W.lcmp hx hb d_Checks_allowsContext_2 ?_
  refine lv_if_lt (tgt := 38) hx hb d_Checks_allowsContext_3 (by decide) (fun c6 => ?_) (fun c6 => ?_)
  · have h := if_t ((lg_cmp_lt _ _).mp c6) h
    refine lv_iconst (v := 0) hx hb d_Checks_allowsContext_38 (by decide) ?_
    exact me_retz (me_kp M0) h (by decide) hx hb hr hlocks hwf hkp hP hK hD hS d_Checks_allowsContext_39
  have h := if_f (fun z => c6 ((lg_cmp_lt _ _).mpr z)) h
  refine lv_lload_n hx hb d_Checks_allowsContext_6 rfl (lv_at hl 1 rfl) ?_
  refine lv_aload_n hx hb d_Checks_allowsContext_7 rfl (lv_at hl 0 rfl) ?_
  refine g_Checks_0 hx hb hts hown hK hP hwf hj0 (hts _ u_610) d_Checks_allowsContext_8 ?_
  obtain ⟨j7, e8, h⟩ := bd_ob h
  have hj7 : j7 < N 2 := (hwf.2.1 6 j0 0 _ e8 (by decide) hj0)
  refine me_opt (j := j7) e8 ?_
  refine g_Code_11 hx hb hts hown hK hP hwf hj7 (hts _ u_258) d_Checks_allowsContext_11 ?_
  refine lv_i2l (v := (mI M0 2 j7 11).toInt64) hx hb d_Checks_allowsContext_14 rfl ?_
  refine lv_ladd hx hb d_Checks_allowsContext_15 ?_
  refine lv_ldc2 hx hb hown (hts _ u_1647) d_Checks_allowsContext_16 ?_
  refine W.lcmp hx hb d_Checks_allowsContext_19 ?_
  refine lv_if_gt (tgt := 38) hx hb d_Checks_allowsContext_20 (by decide) (fun c9 => ?_) (fun c9 => ?_)
  · have h := if_t ((lg_cmp_gt _ _).mp c9) h
    refine lv_iconst (v := 0) hx hb d_Checks_allowsContext_38 (by decide) ?_
    exact me_retz (me_kp M0) h (by decide) hx hb hr hlocks hwf hkp hP hK hD hS d_Checks_allowsContext_39
  have h := if_f (fun z => c9 ((lg_cmp_gt _ _).mpr z)) h
  refine lv_lload_n hx hb d_Checks_allowsContext_23 rfl (lv_at hl 1 rfl) ?_
  refine lv_aload_n hx hb d_Checks_allowsContext_24 rfl (lv_at hl 0 rfl) ?_
  refine g_Checks_0 hx hb hts hown hK hP hwf hj0 (hts _ u_610) d_Checks_allowsContext_25 ?_
  refine me_opt (j := j7) e8 ?_
  refine g_Code_11 hx hb hts hown hK hP hwf hj7 (hts _ u_258) d_Checks_allowsContext_28 ?_
  refine lv_i2l (v := (mI M0 2 j7 11).toInt64) hx hb d_Checks_allowsContext_31 rfl ?_
  obtain ⟨g10, h⟩ := gd_ob h
  refine lv_lrem hx hb d_Checks_allowsContext_32 g10 ?_
  refine fg_topl (y := jlrem x1 ((mI M0 2 j7 11).toInt64)) rfl ?_
  refine lv_lconst (v := 0) hx hb d_Checks_allowsContext_33 (by decide) ?_
  refine W.lcmp hx hb d_Checks_allowsContext_34 ?_
  refine lv_if_eq (tgt := 40) hx hb d_Checks_allowsContext_35 (by decide) (fun c11 => ?_) (fun c11 => ?_)
  · have h := if_t ((lg_cmp_eq _ _).mp c11) h
    refine lv_aload_n hx hb d_Checks_allowsContext_40 rfl (lv_at hl 0 rfl) ?_
    refine g_Checks_3 hx hb hts hown hK hP hwf hj0 (hts _ u_613) d_Checks_allowsContext_41 ?_
    obtain ⟨j12, e13, h⟩ := bd_ob h
    have hj12 : j12 < N 18 := (hwf.2.1 6 j0 3 _ e13 (by decide) hj0)
    refine me_opt (j := j12) e13 ?_
    refine lv_aload_n hx hb d_Checks_allowsContext_44 rfl (lv_at hl 0 rfl) ?_
    refine g_Checks_0 hx hb hts hown hK hP hwf hj0 (hts _ u_610) d_Checks_allowsContext_45 ?_
    refine me_opt (j := j7) e8 ?_
    refine g_Code_6 hx hb hts hown hK hP hwf hj7 (hts _ u_234) d_Checks_allowsContext_48 ?_
    obtain ⟨g14, h⟩ := gd_ob h
    refine me_aald (k := 18) (t := 10) hx hb hK hP hwf hj12 (by decide) (by decide) rfl (fun _ => rfl) g14 d_Checks_allowsContext_51 ?_
    obtain ⟨j15, e16, h⟩ := bd_ob h
    have hj15 : j15 < N 10 := (hwf.2.1 18 j12 ((mI M0 2 j7 6).toNatClampNeg) _ e16 (by decide) hj12)
    refine me_opt (j := j15) e16 ?_
    refine lv_lload_n hx hb d_Checks_allowsContext_52 rfl (lv_at hl 1 rfl) ?_
    refine lv_ldc2 hx hb hown (hts _ u_1648) d_Checks_allowsContext_53 ?_
    refine W.lcmp hx hb d_Checks_allowsContext_56 ?_
    refine lv_if_lt (tgt := 64) hx hb d_Checks_allowsContext_57 (by decide) (fun c17 => ?_) (fun c17 => ?_)
    · have h := if_t ((lg_cmp_lt _ _).mp c17) h
      refine lv_lload_n hx hb d_Checks_allowsContext_64 rfl (lv_at hl 1 rfl) ?_
      refine lv_lconst (v := 0) hx hb d_Checks_allowsContext_65 (by decide) ?_
      refine W.lcmp hx hb d_Checks_allowsContext_66 ?_
      refine lv_if_ne (tgt := 74) hx hb d_Checks_allowsContext_67 (by decide) (fun c18 => ?_) (fun c18 => ?_)
      · have h := if_f (fun z => c18 ((lg_cmp_eq _ _).mpr z)) h
        refine lv_iconst (v := 5) hx hb d_Checks_allowsContext_74 (by decide) ?_
        exact b_75 M0 (5 : Int32) j15 _ _ _ h hj15 hwf hkp hP hD hS (lv_sub hl [0, 1] rfl)
      have h := if_t ((lg_cmp_eq _ _).mp c18) h
      refine lv_iconst (v := 4) hx hb d_Checks_allowsContext_70 (by decide) ?_
      refine lv_goto (tgt := 75) hx hb d_Checks_allowsContext_71 (by decide) ?_
      exact b_75 M0 (4 : Int32) j15 _ _ _ h hj15 hwf hkp hP hD hS (lv_sub hl [0, 1] rfl)
    have h := if_f (fun z => c17 ((lg_cmp_lt _ _).mpr z)) h
    refine lv_iconst (v := 1) hx hb d_Checks_allowsContext_60 (by decide) ?_
    refine lv_goto (tgt := 75) hx hb d_Checks_allowsContext_61 (by decide) ?_
    exact b_75 M0 (1 : Int32) j15 _ _ _ h hj15 hwf hkp hP hD hS (lv_sub hl [0, 1] rfl)
  have h := if_f (fun z => c11 ((lg_cmp_eq _ _).mpr z)) h
  refine lv_iconst (v := 0) hx hb d_Checks_allowsContext_38 (by decide) ?_
  exact me_retz (me_kp M0) h (by decide) hx hb hr hlocks hwf hkp hP hK hD hS d_Checks_allowsContext_39
theorem d_Checks_allowsMemory_163 : decode prog_3_method_8_code 163 = .ok (.iload 7, 2) := by decide +kernel
theorem d_Checks_allowsMemory_165 : decode prog_3_method_8_code 165 = .ok (.ifCond .eq 19, 3) := by decide +kernel
theorem d_Checks_allowsMemory_184 : decode prog_3_method_8_code 184 = .ok (.iconst 0, 1) := by decide +kernel
theorem d_Checks_allowsMemory_185 : decode prog_3_method_8_code 185 = .ok (.ireturn, 1) := by decide +kernel
theorem d_Checks_allowsMemory_168 : decode prog_3_method_8_code 168 = .ok (.iload_n 2, 1) := by decide +kernel
theorem d_Checks_allowsMemory_169 : decode prog_3_method_8_code 169 = .ok (.ifCond .ne 11, 3) := by decide +kernel
theorem d_Checks_allowsMemory_180 : decode prog_3_method_8_code 180 = .ok (.iconst 1, 1) := by decide +kernel
theorem d_Checks_allowsMemory_181 : decode prog_3_method_8_code 181 = .ok (.goto 4, 3) := by decide +kernel
theorem d_Checks_allowsMemory_172 : decode prog_3_method_8_code 172 = .ok (.aload_n 0, 1) := by decide +kernel
theorem d_Checks_allowsMemory_173 : decode prog_3_method_8_code 173 = .ok (.invokevirtual 72, 3) := by decide +kernel
theorem d_Checks_allowsMemory_176 : decode prog_3_method_8_code 176 = .ok (.iconst 1, 1) := by decide +kernel
theorem d_Checks_allowsMemory_177 : decode prog_3_method_8_code 177 = .ok (.if_icmp .ne 7, 3) := by decide +kernel
theorem d_Checks_allowsMemory_141 : decode prog_3_method_8_code 141 = .ok (.istore 7, 2) := by decide +kernel
theorem d_Checks_allowsMemory_143 : decode prog_3_method_8_code 143 = .ok (.iload_n 2, 1) := by decide +kernel
theorem d_Checks_allowsMemory_144 : decode prog_3_method_8_code 144 = .ok (.ifCond .eq 19, 3) := by decide +kernel
theorem d_Checks_allowsMemory_147 : decode prog_3_method_8_code 147 = .ok (.aload_n 0, 1) := by decide +kernel
theorem d_Checks_allowsMemory_148 : decode prog_3_method_8_code 148 = .ok (.getfield 22, 3) := by decide +kernel
theorem d_Checks_allowsMemory_151 : decode prog_3_method_8_code 151 = .ok (.aload_n 0, 1) := by decide +kernel
theorem d_Checks_allowsMemory_152 : decode prog_3_method_8_code 152 = .ok (.getfield 23, 3) := by decide +kernel
theorem d_Checks_allowsMemory_155 : decode prog_3_method_8_code 155 = .ok (.getfield 46, 3) := by decide +kernel
theorem d_Checks_allowsMemory_158 : decode prog_3_method_8_code 158 = .ok (.aaload, 1) := by decide +kernel
theorem d_Checks_allowsMemory_159 : decode prog_3_method_8_code 159 = .ok (.iconst 1, 1) := by decide +kernel
theorem d_Checks_allowsMemory_160 : decode prog_3_method_8_code 160 = .ok (.putfield 34, 3) := by decide +kernel
theorem d_Checks_allowsMemory_140 : decode prog_3_method_8_code 140 = .ok (.iconst 0, 1) := by decide +kernel
theorem d_Checks_allowsMemory_136 : decode prog_3_method_8_code 136 = .ok (.iconst 1, 1) := by decide +kernel
theorem d_Checks_allowsMemory_137 : decode prog_3_method_8_code 137 = .ok (.goto 4, 3) := by decide +kernel
theorem d_Checks_allowsMemory_38 : decode prog_3_method_8_code 38 = .ok (.istore_n 3, 1) := by decide +kernel
theorem d_Checks_allowsMemory_39 : decode prog_3_method_8_code 39 = .ok (.aload_n 0, 1) := by decide +kernel
theorem d_Checks_allowsMemory_40 : decode prog_3_method_8_code 40 = .ok (.getfield 22, 3) := by decide +kernel
theorem d_Checks_allowsMemory_43 : decode prog_3_method_8_code 43 = .ok (.iload_n 3, 1) := by decide +kernel
theorem d_Checks_allowsMemory_44 : decode prog_3_method_8_code 44 = .ok (.aaload, 1) := by decide +kernel
theorem d_Checks_allowsMemory_45 : decode prog_3_method_8_code 45 = .ok (.getfield 34, 3) := by decide +kernel
theorem d_Checks_allowsMemory_48 : decode prog_3_method_8_code 48 = .ok (.istore 4, 2) := by decide +kernel
theorem d_Checks_allowsMemory_50 : decode prog_3_method_8_code 50 = .ok (.aload_n 1, 1) := by decide +kernel
theorem d_Checks_allowsMemory_51 : decode prog_3_method_8_code 51 = .ok (.iload_n 3, 1) := by decide +kernel
theorem d_Checks_allowsMemory_52 : decode prog_3_method_8_code 52 = .ok (.laload, 1) := by decide +kernel
theorem d_Checks_allowsMemory_53 : decode prog_3_method_8_code 53 = .ok (.aload_n 0, 1) := by decide +kernel
theorem d_Checks_allowsMemory_54 : decode prog_3_method_8_code 54 = .ok (.getfield 23, 3) := by decide +kernel
theorem d_Checks_allowsMemory_57 : decode prog_3_method_8_code 57 = .ok (.getfield 91, 3) := by decide +kernel
theorem u_244 : Cond.fieldLink "FilterGuard$Checks" 91 "FilterGuard$Code" "offset" "I" ∈ fg_g := fg_in (List.mem_of_getElem? (i := 244) (by decide +kernel)) rfl
theorem d_Checks_allowsMemory_60 : decode prog_3_method_8_code 60 = .ok (.i2l, 1) := by decide +kernel
theorem d_Checks_allowsMemory_61 : decode prog_3_method_8_code 61 = .ok (.ladd, 1) := by decide +kernel
theorem d_Checks_allowsMemory_62 : decode prog_3_method_8_code 62 = .ok (.lstore 5, 2) := by decide +kernel
theorem d_Checks_allowsMemory_64 : decode prog_3_method_8_code 64 = .ok (.iload 4, 2) := by decide +kernel
theorem d_Checks_allowsMemory_66 : decode prog_3_method_8_code 66 = .ok (.iconst 3, 1) := by decide +kernel
theorem d_Checks_allowsMemory_67 : decode prog_3_method_8_code 67 = .ok (.if_icmp .ne 15, 3) := by decide +kernel
theorem d_Checks_allowsMemory_82 : decode prog_3_method_8_code 82 = .ok (.iload 4, 2) := by decide +kernel
theorem d_Checks_allowsMemory_84 : decode prog_3_method_8_code 84 = .ok (.iconst 2, 1) := by decide +kernel
theorem d_Checks_allowsMemory_85 : decode prog_3_method_8_code 85 = .ok (.if_icmp .ne 27, 3) := by decide +kernel
theorem d_Checks_allowsMemory_112 : decode prog_3_method_8_code 112 = .ok (.iload 4, 2) := by decide +kernel
theorem d_Checks_allowsMemory_114 : decode prog_3_method_8_code 114 = .ok (.bipush 7, 2) := by decide +kernel
theorem d_Checks_allowsMemory_116 : decode prog_3_method_8_code 116 = .ok (.if_icmp .eq 20, 3) := by decide +kernel
theorem d_Checks_allowsMemory_119 : decode prog_3_method_8_code 119 = .ok (.iload 4, 2) := by decide +kernel
theorem d_Checks_allowsMemory_121 : decode prog_3_method_8_code 121 = .ok (.iconst 4, 1) := by decide +kernel
theorem d_Checks_allowsMemory_122 : decode prog_3_method_8_code 122 = .ok (.if_icmp .ne 18, 3) := by decide +kernel
theorem d_Checks_allowsMemory_125 : decode prog_3_method_8_code 125 = .ok (.aload_n 0, 1) := by decide +kernel
theorem d_Checks_allowsMemory_126 : decode prog_3_method_8_code 126 = .ok (.getfield 23, 3) := by decide +kernel
theorem d_Checks_allowsMemory_129 : decode prog_3_method_8_code 129 = .ok (.getfield 55, 3) := by decide +kernel
theorem d_Checks_allowsMemory_132 : decode prog_3_method_8_code 132 = .ok (.iconst 5, 1) := by decide +kernel
theorem d_Checks_allowsMemory_133 : decode prog_3_method_8_code 133 = .ok (.if_icmp .eq 7, 3) := by decide +kernel
theorem d_Checks_allowsMemory_88 : decode prog_3_method_8_code 88 = .ok (.iload_n 2, 1) := by decide +kernel
theorem d_Checks_allowsMemory_89 : decode prog_3_method_8_code 89 = .ok (.ifCond .eq 21, 3) := by decide +kernel
theorem d_Checks_allowsMemory_110 : decode prog_3_method_8_code 110 = .ok (.iconst 0, 1) := by decide +kernel
theorem d_Checks_allowsMemory_111 : decode prog_3_method_8_code 111 = .ok (.ireturn, 1) := by decide +kernel
theorem d_Checks_allowsMemory_92 : decode prog_3_method_8_code 92 = .ok (.aload_n 0, 1) := by decide +kernel
theorem d_Checks_allowsMemory_93 : decode prog_3_method_8_code 93 = .ok (.lload 5, 2) := by decide +kernel
theorem d_Checks_allowsMemory_95 : decode prog_3_method_8_code 95 = .ok (.iconst 1, 1) := by decide +kernel
theorem d_Checks_allowsMemory_96 : decode prog_3_method_8_code 96 = .ok (.invokestatic 94, 3) := by decide +kernel
theorem d_Checks_allowsMemory_99 : decode prog_3_method_8_code 99 = .ok (.lsub, 1) := by decide +kernel
theorem d_Checks_allowsMemory_100 : decode prog_3_method_8_code 100 = .ok (.invokevirtual 102, 3) := by decide +kernel
theorem u_1643 : Cond.methodLink "FilterGuard$Checks" 102 ⟨"FilterGuard$Checks", "allowsContext", "(J)Z"⟩ ∈ fg_g := fg_in (List.mem_of_getElem? (i := 1643) (by decide +kernel)) rfl
theorem u_1646 : Cond.code ⟨"FilterGuard$Checks", "allowsContext", "(J)Z"⟩ prog_3_method_9_code 3 (some .boolean) ∈ fg_g := fg_in (List.mem_of_getElem? (i := 1646) (by decide +kernel)) rfl
theorem u_1645 : Cond.instanceMethod ⟨"FilterGuard$Checks", "allowsContext", "(J)Z"⟩ ∈ fg_g := fg_in (List.mem_of_getElem? (i := 1645) (by decide +kernel)) rfl
theorem u_72 : Cond.selects "FilterGuard$Checks" ⟨"FilterGuard$Checks", "allowsContext", "(J)Z"⟩ ⟨"FilterGuard$Checks", "allowsContext", "(J)Z"⟩ ∈ fg_g := fg_in (List.mem_of_getElem? (i := 72) (by decide +kernel)) rfl
theorem d_Checks_allowsMemory_103 : decode prog_3_method_8_code 103 = .ok (.ifCond .eq 7, 3) := by decide +kernel
theorem d_Checks_allowsMemory_106 : decode prog_3_method_8_code 106 = .ok (.iconst 1, 1) := by decide +kernel
theorem d_Checks_allowsMemory_107 : decode prog_3_method_8_code 107 = .ok (.goto 4, 3) := by decide +kernel
theorem d_Checks_allowsMemory_70 : decode prog_3_method_8_code 70 = .ok (.aload_n 0, 1) := by decide +kernel
theorem d_Checks_allowsMemory_71 : decode prog_3_method_8_code 71 = .ok (.lload 5, 2) := by decide +kernel
theorem d_Checks_allowsMemory_73 : decode prog_3_method_8_code 73 = .ok (.iconst 2, 1) := by decide +kernel
theorem d_Checks_allowsMemory_74 : decode prog_3_method_8_code 74 = .ok (.invokestatic 94, 3) := by decide +kernel
theorem d_Checks_allowsMemory_77 : decode prog_3_method_8_code 77 = .ok (.lsub, 1) := by decide +kernel
theorem d_Checks_allowsMemory_78 : decode prog_3_method_8_code 78 = .ok (.invokevirtual 98, 3) := by decide +kernel
theorem u_1637 : Cond.methodLink "FilterGuard$Checks" 98 ⟨"FilterGuard$Checks", "allowsStack", "(J)Z"⟩ ∈ fg_g := fg_in (List.mem_of_getElem? (i := 1637) (by decide +kernel)) rfl
theorem u_1640 : Cond.code ⟨"FilterGuard$Checks", "allowsStack", "(J)Z"⟩ prog_3_method_10_code 7 (some .boolean) ∈ fg_g := fg_in (List.mem_of_getElem? (i := 1640) (by decide +kernel)) rfl
theorem u_1639 : Cond.instanceMethod ⟨"FilterGuard$Checks", "allowsStack", "(J)Z"⟩ ∈ fg_g := fg_in (List.mem_of_getElem? (i := 1639) (by decide +kernel)) rfl
theorem u_71 : Cond.selects "FilterGuard$Checks" ⟨"FilterGuard$Checks", "allowsStack", "(J)Z"⟩ ⟨"FilterGuard$Checks", "allowsStack", "(J)Z"⟩ ∈ fg_g := fg_in (List.mem_of_getElem? (i := 71) (by decide +kernel)) rfl
theorem d_Checks_allowsMemory_81 : decode prog_3_method_8_code 81 = .ok (.ireturn, 1) := by decide +kernel
theorem d_Checks_allowsMemory_16 : decode prog_3_method_8_code 16 = .ok (.istore_n 2, 1) := by decide +kernel
theorem d_Checks_allowsMemory_17 : decode prog_3_method_8_code 17 = .ok (.iload_n 2, 1) := by decide +kernel
theorem d_Checks_allowsMemory_18 : decode prog_3_method_8_code 18 = .ok (.ifCond .eq 13, 3) := by decide +kernel
theorem d_Checks_allowsMemory_31 : decode prog_3_method_8_code 31 = .ok (.aload_n 0, 1) := by decide +kernel
theorem d_Checks_allowsMemory_32 : decode prog_3_method_8_code 32 = .ok (.getfield 23, 3) := by decide +kernel
theorem d_Checks_allowsMemory_35 : decode prog_3_method_8_code 35 = .ok (.getfield 46, 3) := by decide +kernel
theorem d_Checks_allowsMemory_21 : decode prog_3_method_8_code 21 = .ok (.aload_n 0, 1) := by decide +kernel
theorem d_Checks_allowsMemory_22 : decode prog_3_method_8_code 22 = .ok (.getfield 23, 3) := by decide +kernel
theorem d_Checks_allowsMemory_25 : decode prog_3_method_8_code 25 = .ok (.getfield 52, 3) := by decide +kernel
theorem d_Checks_allowsMemory_28 : decode prog_3_method_8_code 28 = .ok (.goto 10, 3) := by decide +kernel
theorem d_Checks_allowsMemory_0 : decode prog_3_method_8_code 0 = .ok (.aload_n 0, 1) := by decide +kernel
theorem d_Checks_allowsMemory_1 : decode prog_3_method_8_code 1 = .ok (.getfield 23, 3) := by decide +kernel
theorem d_Checks_allowsMemory_4 : decode prog_3_method_8_code 4 = .ok (.getfield 55, 3) := by decide +kernel
theorem d_Checks_allowsMemory_7 : decode prog_3_method_8_code 7 = .ok (.iconst 2, 1) := by decide +kernel
theorem d_Checks_allowsMemory_8 : decode prog_3_method_8_code 8 = .ok (.if_icmp .ne 7, 3) := by decide +kernel
theorem d_Checks_allowsMemory_15 : decode prog_3_method_8_code 15 = .ok (.iconst 0, 1) := by decide +kernel
theorem d_Checks_allowsMemory_11 : decode prog_3_method_8_code 11 = .ok (.iconst 1, 1) := by decide +kernel
theorem d_Checks_allowsMemory_12 : decode prog_3_method_8_code 12 = .ok (.goto 4, 3) := by decide +kernel
abbrev y_Checks_allowsMemory : MethodName := ⟨"FilterGuard$Checks", "allowsMemory", "([J)Z"⟩
def rm_Checks_allowsMemory : Room := { frames := 4, cells := 0, slots := 0, locals := 108 }
abbrev q_Checks_allowsMemory (D : va_G) (ad : Nat → Nat → Nat) (ca : Nat → ClassId) (N : Nat → Nat) (M0 MZ : me_M) (RZ : Int32) (A : Nat → Prop) : Array Value → Jvm.State → Outcome → Jvm.State → Prop := va_Qi (fun r (_ : Unit) => r = RZ ∧ me_wf N MZ ∧ me_kp M0 MZ ∧ (RZ = 1 ∨ RZ = 0)) (fg_B D A (fun _ => me_W ad ca MZ) (fun _ => [])) A
set_option maxHeartbeats 4000000 in
set_option maxRecDepth 100000 in
theorem c_Checks_allowsMemory (l : Launch) (D : va_G) (ad : Nat → Nat → Nat) (ca : Nat → ClassId) (N : Nat → Nat) (M0 MZ : me_M) (RZ : Int32) (j0 : Nat) (j1 : Nat) (h : f_Checks_allowsMemory M0 j0 j1 = (some (MZ, RZ))) (hwf : me_wf N M0) (hj0 : j0 < N 6) (hj1 : j1 < N 16) (sz : Nat) : Met l y_Checks_allowsMemory (fg_w y_Checks_allowsMemory prog_3_method_8_code 8 (some .boolean)) rm_Checks_allowsMemory (va_Pc [.ref (ad 6 j0), .ref (ad 16 j1)] (fz_P D (me_T ca) (me_W ad ca M0) sz)) (q_Checks_allowsMemory D ad ca N M0 MZ RZ (va_A (me_W ad ca M0) sz)) rm_Checks_allowsMemory.cells rm_Checks_allowsMemory.slots (va_A (me_W ad ca M0) sz) := by
  refine fz_enter (fun A => q_Checks_allowsMemory D ad ca N M0 MZ RZ A) (by decide +kernel) (Nat.le_of_ble_eq_true rfl) ?_
  intro p e s m below meth c ls A hx hb hml hown hts hr hlocks hin hP hK hD hS hA hX hl hz
  have hl : lv_has ls 8 [(0, .ref (ad 6 j0)), (1, .ref (ad 16 j1))] := hl
  unfold f_Checks_allowsMemory at h
  have hkp : me_kp M0 M0 := me_kp.rf
  have hkb := hkp
  have b_163 : ∀ (M : me_M) (y2 : Int32) (y7 : Int32) (H : Heap) (locs : List Loc) (ls : Array Slot), f_Checks_allowsMemory_b163 j0 M y2 y7 = (some (MZ, RZ)) → (y2 = 1 ∨ y2 = 0) → (y7 = 1 ∨ y7 = 0) → me_wf N M → me_kp M0 M → va_P D classes (me_W ad ca M) H → va_D A (me_W ad ca M) → va_S A s.heap H locs → lv_has ls 8 [(0, .ref (ad 6 j0)), (2, .int y2), (7, .int y7)] → W p l e rm_Checks_allowsMemory s m [.ref (ad 6 j0), .ref (ad 16 j1)].toArray below meth c H locs 0 0 (MQ below (q_Checks_allowsMemory D ad ca N M0 MZ RZ A) [.ref (ad 6 j0), .ref (ad 16 j1)].toArray s rm_Checks_allowsMemory.cells rm_Checks_allowsMemory.slots A) (F0 m 163 ls []) := by
    intro M y2 y7 H locs ls h zy2 zy7 hwf hkp hP hD hS hl
    unfold f_Checks_allowsMemory_b163 at h
    have hkb := hkp
    refine lv_iload hx hb d_Checks_allowsMemory_163 (lv_at hl 2 rfl) ?_
    refine lv_if_eq (tgt := 184) hx hb d_Checks_allowsMemory_165 (by decide) (fun c1 => ?_) (fun c1 => ?_)
    · have h := if_t c1 h
      refine lv_iconst (v := 0) hx hb d_Checks_allowsMemory_184 (by decide) ?_
      exact me_retz (me_kp M0) h (by decide) hx hb hr hlocks hwf hkp hP hK hD hS d_Checks_allowsMemory_185
    have h := if_f c1 h
    refine lv_iload_n hx hb d_Checks_allowsMemory_168 rfl (lv_at hl 1 rfl) ?_
    refine lv_if_ne (tgt := 180) hx hb d_Checks_allowsMemory_169 (by decide) (fun c2 => ?_) (fun c2 => ?_)
    · have h := if_f c2 h
      refine lv_iconst (v := 1) hx hb d_Checks_allowsMemory_180 (by decide) ?_
      refine lv_goto (tgt := 185) hx hb d_Checks_allowsMemory_181 (by decide) ?_
      exact me_retz (me_kp M0) h (by decide) hx hb hr hlocks hwf hkp hP hK hD hS d_Checks_allowsMemory_185
    have h := if_t c2 h
    refine lv_aload_n hx hb d_Checks_allowsMemory_172 rfl (lv_at hl 0 rfl) ?_
    obtain ⟨M3, r4, eM3, h⟩ := b2_ob h
    refine me_theni0 (M1 := M3) (me_runV (C := "FilterGuard$Checks") (As := []) (rest := []) ⟨hx, hb, hml, hown, hts⟩ (c_Checks_operandKind l D ad ca N M M3 r4 j0 eM3 hwf hj0 _) rfl (by show fg_nm y_Checks_operandKind 0; decide +kernel) u_1605 u_1607 u_65 u_191 u_1608 ⟨Nat.le_of_ble_eq_true rfl, Nat.le_of_ble_eq_true rfl⟩ hX hz hK hP hD hwf hS hA hj0 (by decide) rfl rfl rfl hl.1 (Nat.le_of_ble_eq_true rfl) d_Checks_allowsMemory_173 ⟨Nat.le_of_ble_eq_true rfl, Nat.le_of_ble_eq_true rfl⟩) hP hD hK hS hA rfl rfl (fun H locs hw hP hD hS => ?_)
    obtain ⟨hwf, hk9⟩ := hw
    have hkp := hkp.tr hk9
    refine lv_iconst (v := 1) hx hb d_Checks_allowsMemory_176 (by decide) ?_
    refine lv_icmp_ne (tgt := 184) hx hb d_Checks_allowsMemory_177 (by decide) (fun c5 => ?_) (fun c5 => ?_)
    · have h := if_f c5 h
      refine lv_iconst (v := 0) hx hb d_Checks_allowsMemory_184 (by decide) ?_
      exact me_retz (me_kp M0) h (by decide) hx hb hr hlocks hwf hkp hP hK hD hS d_Checks_allowsMemory_185
    have h := if_t c5 h
    refine lv_iconst (v := 1) hx hb d_Checks_allowsMemory_180 (by decide) ?_
    refine lv_goto (tgt := 185) hx hb d_Checks_allowsMemory_181 (by decide) ?_
    exact me_retz (me_kp M0) h (by decide) hx hb hr hlocks hwf hkp hP hK hD hS d_Checks_allowsMemory_185
  have b_141 : ∀ (M : me_M) (y2 : Int32) (s0 : Int32) (H : Heap) (locs : List Loc) (ls : Array Slot), f_Checks_allowsMemory_b141 j0 M y2 s0 = (some (MZ, RZ)) → (y2 = 1 ∨ y2 = 0) → (s0 = 1 ∨ s0 = 0) → me_wf N M → me_kp M0 M → va_P D classes (me_W ad ca M) H → va_D A (me_W ad ca M) → va_S A s.heap H locs → lv_has ls 8 [(0, .ref (ad 6 j0)), (2, .int y2)] → W p l e rm_Checks_allowsMemory s m [.ref (ad 6 j0), .ref (ad 16 j1)].toArray below meth c H locs 0 0 (MQ below (q_Checks_allowsMemory D ad ca N M0 MZ RZ A) [.ref (ad 6 j0), .ref (ad 16 j1)].toArray s rm_Checks_allowsMemory.cells rm_Checks_allowsMemory.slots A) (F0 m 141 ls [.int s0]) := by
    intro M y2 s0 H locs ls h zy2 zs0 hwf hkp hP hD hS hl
    unfold f_Checks_allowsMemory_b141 at h
    have hkb := hkp
    refine lv_istore (lv' := [(7, .int s0), (0, .ref (ad 6 j0)), (2, .int y2)]) hx hb d_Checks_allowsMemory_141 hl (by decide) rfl (fun ls hl => ?_)
    refine lv_iload_n hx hb d_Checks_allowsMemory_143 rfl (lv_at hl 2 rfl) ?_
    refine lv_if_eq (tgt := 163) hx hb d_Checks_allowsMemory_144 (by decide) (fun c6 => ?_) (fun c6 => ?_)
    · have h := if_t c6 h
      exact b_163 M y2 s0 _ _ _ h zy2 zs0 hwf hkp hP hD hS (lv_sub hl [1, 2, 0] rfl)
    have h := if_f c6 h
    refine lv_aload_n hx hb d_Checks_allowsMemory_147 rfl (lv_at hl 1 rfl) ?_
    refine g_Checks_3 hx hb hts hown hK hP hwf hj0 (hts _ u_613) d_Checks_allowsMemory_148 ?_
    obtain ⟨j7, e8, h⟩ := bd_ob h
    have hj7 : j7 < N 18 := (hwf.2.1 6 j0 3 _ e8 (by decide) hj0)
    refine me_opt (j := j7) e8 ?_
    refine lv_aload_n hx hb d_Checks_allowsMemory_151 rfl (lv_at hl 1 rfl) ?_
    refine g_Checks_0 hx hb hts hown hK hP hwf hj0 (hts _ u_610) d_Checks_allowsMemory_152 ?_
    obtain ⟨j9, e10, h⟩ := bd_ob h
    have hj9 : j9 < N 2 := (hwf.2.1 6 j0 0 _ e10 (by decide) hj0)
    refine me_opt (j := j9) e10 ?_
    refine g_Code_6 hx hb hts hown hK hP hwf hj9 (hts _ u_234) d_Checks_allowsMemory_155 ?_
    obtain ⟨g11, h⟩ := gd_ob h
    refine me_aald (k := 18) (t := 10) hx hb hK hP hwf hj7 (by decide) (by decide) rfl (fun _ => rfl) g11 d_Checks_allowsMemory_158 ?_
    obtain ⟨j12, e13, h⟩ := bd_ob h
    have hj12 : j12 < N 10 := (hwf.2.1 18 j7 ((mI M 2 j9 6).toNatClampNeg) _ e13 (by decide) hj7)
    refine me_opt (j := j12) e13 ?_
    refine lv_iconst (v := 1) hx hb d_Checks_allowsMemory_159 (by decide) ?_
    obtain ⟨M14, eM14, h⟩ := st_ob h
    refine p_Cell_0 eM14 hx hb hts hown hK hP hD hwf hS hj12 (hts _ u_421) d_Checks_allowsMemory_160 (fun H locs hP hD hwf hS => ?_)
    have hkp := kp_I eM14 hkp
    exact b_163 M14 y2 s0 _ _ _ h zy2 zs0 hwf hkp hP hD hS (lv_sub hl [1, 2, 0] rfl)
  have b_140 : ∀ (M : me_M) (y2 : Int32) (H : Heap) (locs : List Loc) (ls : Array Slot), f_Checks_allowsMemory_b140 j0 M y2 = (some (MZ, RZ)) → (y2 = 1 ∨ y2 = 0) → me_wf N M → me_kp M0 M → va_P D classes (me_W ad ca M) H → va_D A (me_W ad ca M) → va_S A s.heap H locs → lv_has ls 8 [(0, .ref (ad 6 j0)), (2, .int y2)] → W p l e rm_Checks_allowsMemory s m [.ref (ad 6 j0), .ref (ad 16 j1)].toArray below meth c H locs 0 0 (MQ below (q_Checks_allowsMemory D ad ca N M0 MZ RZ A) [.ref (ad 6 j0), .ref (ad 16 j1)].toArray s rm_Checks_allowsMemory.cells rm_Checks_allowsMemory.slots A) (F0 m 140 ls []) := by
    intro M y2 H locs ls h zy2 hwf hkp hP hD hS hl
    unfold f_Checks_allowsMemory_b140 at h
    have hkb := hkp
    refine lv_iconst (v := 0) hx hb d_Checks_allowsMemory_140 (by decide) ?_
    exact b_141 M y2 (0 : Int32) _ _ _ h zy2 (by decide) hwf hkp hP hD hS (lv_sub hl [0, 1] rfl)
  have b_136 : ∀ (M : me_M) (y2 : Int32) (H : Heap) (locs : List Loc) (ls : Array Slot), f_Checks_allowsMemory_b136 j0 M y2 = (some (MZ, RZ)) → (y2 = 1 ∨ y2 = 0) → me_wf N M → me_kp M0 M → va_P D classes (me_W ad ca M) H → va_D A (me_W ad ca M) → va_S A s.heap H locs → lv_has ls 8 [(0, .ref (ad 6 j0)), (2, .int y2)] → W p l e rm_Checks_allowsMemory s m [.ref (ad 6 j0), .ref (ad 16 j1)].toArray below meth c H locs 0 0 (MQ below (q_Checks_allowsMemory D ad ca N M0 MZ RZ A) [.ref (ad 6 j0), .ref (ad 16 j1)].toArray s rm_Checks_allowsMemory.cells rm_Checks_allowsMemory.slots A) (F0 m 136 ls []) := by
    intro M y2 H locs ls h zy2 hwf hkp hP hD hS hl
    unfold f_Checks_allowsMemory_b136 at h
    have hkb := hkp
    refine lv_iconst (v := 1) hx hb d_Checks_allowsMemory_136 (by decide) ?_
    refine lv_goto (tgt := 141) hx hb d_Checks_allowsMemory_137 (by decide) ?_
    exact b_141 M y2 (1 : Int32) _ _ _ h zy2 (by decide) hwf hkp hP hD hS (lv_sub hl [0, 1] rfl)
  have b_38 : ∀ (M : me_M) (y2 : Int32) (s0 : Int32) (H : Heap) (locs : List Loc) (ls : Array Slot), f_Checks_allowsMemory_b38 j0 j1 M y2 s0 = (some (MZ, RZ)) → (y2 = 1 ∨ y2 = 0) → me_wf N M → me_kp M0 M → va_P D classes (me_W ad ca M) H → va_D A (me_W ad ca M) → va_S A s.heap H locs → lv_has ls 8 [(0, .ref (ad 6 j0)), (1, .ref (ad 16 j1)), (2, .int y2)] → W p l e rm_Checks_allowsMemory s m [.ref (ad 6 j0), .ref (ad 16 j1)].toArray below meth c H locs 0 0 (MQ below (q_Checks_allowsMemory D ad ca N M0 MZ RZ A) [.ref (ad 6 j0), .ref (ad 16 j1)].toArray s rm_Checks_allowsMemory.cells rm_Checks_allowsMemory.slots A) (F0 m 38 ls [.int s0]) := by
    intro M y2 s0 H locs ls h zy2 hwf hkp hP hD hS hl
    unfold f_Checks_allowsMemory_b38 at h
    have hkb := hkp
    refine lv_istore_n (lv' := [(3, .int s0), (0, .ref (ad 6 j0)), (1, .ref (ad 16 j1)), (2, .int y2)]) hx hb d_Checks_allowsMemory_38 rfl hl (by decide) rfl (fun ls hl => ?_)
    refine lv_aload_n hx hb d_Checks_allowsMemory_39 rfl (lv_at hl 1 rfl) ?_
    refine g_Checks_3 hx hb hts hown hK hP hwf hj0 (hts _ u_613) d_Checks_allowsMemory_40 ?_
    obtain ⟨j15, e16, h⟩ := bd_ob h
    have hj15 : j15 < N 18 := (hwf.2.1 6 j0 3 _ e16 (by decide) hj0)
    refine me_opt (j := j15) e16 ?_
    refine lv_iload_n hx hb d_Checks_allowsMemory_43 rfl (lv_at hl 0 rfl) ?_
    obtain ⟨g17, h⟩ := gd_ob h
    refine me_aald (k := 18) (t := 10) hx hb hK hP hwf hj15 (by decide) (by decide) rfl (fun _ => rfl) g17 d_Checks_allowsMemory_44 ?_
    obtain ⟨j18, e19, h⟩ := bd_ob h
    have hj18 : j18 < N 10 := (hwf.2.1 18 j15 s0.toNatClampNeg _ e19 (by decide) hj15)
    refine me_opt (j := j18) e19 ?_
    refine g_Cell_0 hx hb hts hown hK hP hwf hj18 (hts _ u_421) d_Checks_allowsMemory_45 ?_
    obtain ⟨v20, ev20, h⟩ := st_ob h
    refine fg_topi (y := v20) ev20.symm ?_
    refine lv_istore (lv' := [(4, .int v20), (3, .int s0), (0, .ref (ad 6 j0)), (1, .ref (ad 16 j1)), (2, .int y2)]) hx hb d_Checks_allowsMemory_48 hl (by decide) rfl (fun ls hl => ?_)
    refine lv_aload_n hx hb d_Checks_allowsMemory_50 rfl (lv_at hl 3 rfl) ?_
    refine lv_iload_n hx hb d_Checks_allowsMemory_51 rfl (lv_at hl 1 rfl) ?_
    obtain ⟨g21, h⟩ := gd_ob h
    refine me_lald hx hb hK hP hwf hj1 g21 d_Checks_allowsMemory_52 ?_
    refine lv_aload_n hx hb d_Checks_allowsMemory_53 rfl (lv_at hl 2 rfl) ?_
    refine g_Checks_0 hx hb hts hown hK hP hwf hj0 (hts _ u_610) d_Checks_allowsMemory_54 ?_
    obtain ⟨j22, e23, h⟩ := bd_ob h
    have hj22 : j22 < N 2 := (hwf.2.1 6 j0 0 _ e23 (by decide) hj0)
    refine me_opt (j := j22) e23 ?_
    refine g_Code_8 hx hb hts hown hK hP hwf hj22 (hts _ u_244) d_Checks_allowsMemory_57 ?_
    refine lv_i2l (v := (mI M 2 j22 8).toInt64) hx hb d_Checks_allowsMemory_60 rfl ?_
    refine lv_ladd hx hb d_Checks_allowsMemory_61 ?_
    obtain ⟨v24, ev24, h⟩ := st_ob h
    refine fg_topl (y := v24) ev24.symm ?_
    refine lv_lstore (lv' := [(5, .long v24), (4, .int v20), (3, .int s0), (0, .ref (ad 6 j0)), (1, .ref (ad 16 j1)), (2, .int y2)]) hx hb d_Checks_allowsMemory_62 hl (by decide) rfl (fun ls hl => ?_)
    refine lv_iload hx hb d_Checks_allowsMemory_64 (lv_at hl 1 rfl) ?_
    refine lv_iconst (v := 3) hx hb d_Checks_allowsMemory_66 (by decide) ?_
    refine lv_icmp_ne (tgt := 82) hx hb d_Checks_allowsMemory_67 (by decide) (fun c25 => ?_) (fun c25 => ?_)
    · have h := if_f c25 h
      refine lv_iload hx hb d_Checks_allowsMemory_82 (lv_at hl 1 rfl) ?_
      refine lv_iconst (v := 2) hx hb d_Checks_allowsMemory_84 (by decide) ?_
      refine lv_icmp_ne (tgt := 112) hx hb d_Checks_allowsMemory_85 (by decide) (fun c26 => ?_) (fun c26 => ?_)
      · have h := if_f c26 h
        refine lv_iload hx hb d_Checks_allowsMemory_112 (lv_at hl 1 rfl) ?_
        refine lv_bipush (v := 7) hx hb d_Checks_allowsMemory_114 (by decide) ?_
        refine lv_icmp_eq (tgt := 136) hx hb d_Checks_allowsMemory_116 (by decide) (fun c27 => ?_) (fun c27 => ?_)
        · have h := if_t c27 h
          exact b_136 M y2 _ _ _ h zy2 hwf hkp hP hD hS (lv_sub hl [3, 5] rfl)
        have h := if_f c27 h
        refine lv_iload hx hb d_Checks_allowsMemory_119 (lv_at hl 1 rfl) ?_
        refine lv_iconst (v := 4) hx hb d_Checks_allowsMemory_121 (by decide) ?_
        refine lv_icmp_ne (tgt := 140) hx hb d_Checks_allowsMemory_122 (by decide) (fun c28 => ?_) (fun c28 => ?_)
        · have h := if_f c28 h
          exact b_140 M y2 _ _ _ h zy2 hwf hkp hP hD hS (lv_sub hl [3, 5] rfl)
        have h := if_t c28 h
        refine lv_aload_n hx hb d_Checks_allowsMemory_125 rfl (lv_at hl 3 rfl) ?_
        refine g_Checks_0 hx hb hts hown hK hP hwf hj0 (hts _ u_610) d_Checks_allowsMemory_126 ?_
        refine me_opt (j := j22) e23 ?_
        refine g_Code_10 hx hb hts hown hK hP hwf hj22 (hts _ u_253) d_Checks_allowsMemory_129 ?_
        refine lv_iconst (v := 5) hx hb d_Checks_allowsMemory_132 (by decide) ?_
        refine lv_icmp_eq (tgt := 140) hx hb d_Checks_allowsMemory_133 (by decide) (fun c29 => ?_) (fun c29 => ?_)
        · have h := if_t c29 h
          exact b_140 M y2 _ _ _ h zy2 hwf hkp hP hD hS (lv_sub hl [3, 5] rfl)
        have h := if_f c29 h
        exact b_136 M y2 _ _ _ h zy2 hwf hkp hP hD hS (lv_sub hl [3, 5] rfl)
      have h := if_t c26 h
      refine lv_iload_n hx hb d_Checks_allowsMemory_88 rfl (lv_at hl 5 rfl) ?_
      refine lv_if_eq (tgt := 110) hx hb d_Checks_allowsMemory_89 (by decide) (fun c30 => ?_) (fun c30 => ?_)
      · have h := if_t c30 h
        refine lv_iconst (v := 0) hx hb d_Checks_allowsMemory_110 (by decide) ?_
        exact me_retz (me_kp M0) h (by decide) hx hb hr hlocks hwf hkp hP hK hD hS d_Checks_allowsMemory_111
      have h := if_f c30 h
      refine lv_aload_n hx hb d_Checks_allowsMemory_92 rfl (lv_at hl 3 rfl) ?_
      refine lv_lload hx hb d_Checks_allowsMemory_93 (lv_at hl 0 rfl) ?_
      refine lv_iconst (v := 1) hx hb d_Checks_allowsMemory_95 (by decide) ?_
      obtain ⟨r31, er31, h⟩ := bd_ob h
      refine me_panl' (r0 := r31) (fg_runSN (wc := []) (tc := []) (A2 := A) (As := [.int 1]) (rest := [.long v24, .ref (ad 6 j0)]) ⟨hx, hb, hml, hown, hts⟩ (c_G_baseOf l D r31 (1 : Int32) er31 _) (by show fg_nm y_G_baseOf 1; decide +kernel) o_1627 u_1587 u_181 u_1588 ⟨Nat.le_of_ble_eq_true rfl, Nat.le_of_ble_eq_true rfl⟩ hX me_P0 (hK.sub (tys' := []) [] rfl) me_D0 rfl hl.1 (Nat.le_of_ble_eq_true rfl) d_Checks_allowsMemory_96 ⟨Nat.le_of_ble_eq_true rfl, Nat.le_of_ble_eq_true rfl⟩) hP hD hK hS hA rfl rfl (fun H locs hw hP hD hS => ?_)
      refine lv_lsub hx hb d_Checks_allowsMemory_99 ?_
      obtain ⟨M32, r33, eM32, h⟩ := b2_ob h
      refine me_theni0 (M1 := M32) (me_runV (C := "FilterGuard$Checks") (As := [.long (v24 - r31)]) (rest := []) ⟨hx, hb, hml, hown, hts⟩ (c_Checks_allowsContext l D ad ca N M M32 r33 j0 (v24 - r31) eM32 hwf hj0 _) rfl (by show fg_nm y_Checks_allowsContext 1; decide +kernel) u_1643 u_1645 u_72 u_191 u_1646 ⟨Nat.le_of_ble_eq_true rfl, Nat.le_of_ble_eq_true rfl⟩ hX hz hK hP hD hwf hS hA hj0 (by decide) rfl rfl rfl hl.1 (Nat.le_of_ble_eq_true rfl) d_Checks_allowsMemory_100 ⟨Nat.le_of_ble_eq_true rfl, Nat.le_of_ble_eq_true rfl⟩) hP hD hK hS hA rfl rfl (fun H locs hw hP hD hS => ?_)
      obtain ⟨hwf, hk9, zr33⟩ := hw
      have hkp := hkp.tr hk9
      refine lv_if_eq (tgt := 110) hx hb d_Checks_allowsMemory_103 (by decide) (fun c34 => ?_) (fun c34 => ?_)
      · have h := if_t c34 h
        refine lv_iconst (v := 0) hx hb d_Checks_allowsMemory_110 (by decide) ?_
        exact me_retz (me_kp M0) h (by decide) hx hb hr hlocks hwf hkp hP hK hD hS d_Checks_allowsMemory_111
      have h := if_f c34 h
      refine lv_iconst (v := 1) hx hb d_Checks_allowsMemory_106 (by decide) ?_
      refine lv_goto (tgt := 111) hx hb d_Checks_allowsMemory_107 (by decide) ?_
      exact me_retz (me_kp M0) h (by decide) hx hb hr hlocks hwf hkp hP hK hD hS d_Checks_allowsMemory_111
    have h := if_t c25 h
    refine lv_aload_n hx hb d_Checks_allowsMemory_70 rfl (lv_at hl 3 rfl) ?_
    refine lv_lload hx hb d_Checks_allowsMemory_71 (lv_at hl 0 rfl) ?_
    refine lv_iconst (v := 2) hx hb d_Checks_allowsMemory_73 (by decide) ?_
    obtain ⟨r35, er35, h⟩ := bd_ob h
    refine me_panl' (r0 := r35) (fg_runSN (wc := []) (tc := []) (A2 := A) (As := [.int 2]) (rest := [.long v24, .ref (ad 6 j0)]) ⟨hx, hb, hml, hown, hts⟩ (c_G_baseOf l D r35 (2 : Int32) er35 _) (by show fg_nm y_G_baseOf 1; decide +kernel) o_1627 u_1587 u_181 u_1588 ⟨Nat.le_of_ble_eq_true rfl, Nat.le_of_ble_eq_true rfl⟩ hX me_P0 (hK.sub (tys' := []) [] rfl) me_D0 rfl hl.1 (Nat.le_of_ble_eq_true rfl) d_Checks_allowsMemory_74 ⟨Nat.le_of_ble_eq_true rfl, Nat.le_of_ble_eq_true rfl⟩) hP hD hK hS hA rfl rfl (fun H locs hw hP hD hS => ?_)
    refine lv_lsub hx hb d_Checks_allowsMemory_77 ?_
    obtain ⟨M36, r37, eM36, h⟩ := b2_ob h
    refine me_theni0 (M1 := M36) (me_runV (C := "FilterGuard$Checks") (As := [.long (v24 - r35)]) (rest := []) ⟨hx, hb, hml, hown, hts⟩ (c_Checks_allowsStack l D ad ca N M M36 r37 j0 (v24 - r35) eM36 hwf hj0 _) rfl (by show fg_nm y_Checks_allowsStack 1; decide +kernel) u_1637 u_1639 u_71 u_191 u_1640 ⟨Nat.le_of_ble_eq_true rfl, Nat.le_of_ble_eq_true rfl⟩ hX hz hK hP hD hwf hS hA hj0 (by decide) rfl rfl rfl hl.1 (Nat.le_of_ble_eq_true rfl) d_Checks_allowsMemory_78 ⟨Nat.le_of_ble_eq_true rfl, Nat.le_of_ble_eq_true rfl⟩) hP hD hK hS hA rfl rfl (fun H locs hw hP hD hS => ?_)
    obtain ⟨hwf, hk9, zr37⟩ := hw
    have hkp := hkp.tr hk9
    exact me_retz (me_kp M0) h zr37 hx hb hr hlocks hwf hkp hP hK hD hS d_Checks_allowsMemory_81
  have b_16 : ∀ (M : me_M) (s0 : Int32) (H : Heap) (locs : List Loc) (ls : Array Slot), f_Checks_allowsMemory_b16 j0 j1 M s0 = (some (MZ, RZ)) → (s0 = 1 ∨ s0 = 0) → me_wf N M → me_kp M0 M → va_P D classes (me_W ad ca M) H → va_D A (me_W ad ca M) → va_S A s.heap H locs → lv_has ls 8 [(0, .ref (ad 6 j0)), (1, .ref (ad 16 j1))] → W p l e rm_Checks_allowsMemory s m [.ref (ad 6 j0), .ref (ad 16 j1)].toArray below meth c H locs 0 0 (MQ below (q_Checks_allowsMemory D ad ca N M0 MZ RZ A) [.ref (ad 6 j0), .ref (ad 16 j1)].toArray s rm_Checks_allowsMemory.cells rm_Checks_allowsMemory.slots A) (F0 m 16 ls [.int s0]) := by
    intro M s0 H locs ls h zs0 hwf hkp hP hD hS hl
    unfold f_Checks_allowsMemory_b16 at h
    have hkb := hkp
    refine lv_istore_n (lv' := [(2, .int s0), (0, .ref (ad 6 j0)), (1, .ref (ad 16 j1))]) hx hb d_Checks_allowsMemory_16 rfl hl (by decide) rfl (fun ls hl => ?_)
    refine lv_iload_n hx hb d_Checks_allowsMemory_17 rfl (lv_at hl 0 rfl) ?_
    refine lv_if_eq (tgt := 31) hx hb d_Checks_allowsMemory_18 (by decide) (fun c38 => ?_) (fun c38 => ?_)
    · have h := if_t c38 h
      refine lv_aload_n hx hb d_Checks_allowsMemory_31 rfl (lv_at hl 1 rfl) ?_
      refine g_Checks_0 hx hb hts hown hK hP hwf hj0 (hts _ u_610) d_Checks_allowsMemory_32 ?_
      obtain ⟨j39, e40, h⟩ := bd_ob h
      have hj39 : j39 < N 2 := (hwf.2.1 6 j0 0 _ e40 (by decide) hj0)
      refine me_opt (j := j39) e40 ?_
      refine g_Code_6 hx hb hts hown hK hP hwf hj39 (hts _ u_234) d_Checks_allowsMemory_35 ?_
      exact b_38 M s0 (mI M 2 j39 6) _ _ _ h zs0 hwf hkp hP hD hS (lv_sub hl [1, 2, 0] rfl)
    have h := if_f c38 h
    refine lv_aload_n hx hb d_Checks_allowsMemory_21 rfl (lv_at hl 1 rfl) ?_
    refine g_Checks_0 hx hb hts hown hK hP hwf hj0 (hts _ u_610) d_Checks_allowsMemory_22 ?_
    obtain ⟨j41, e42, h⟩ := bd_ob h
    have hj41 : j41 < N 2 := (hwf.2.1 6 j0 0 _ e42 (by decide) hj0)
    refine me_opt (j := j41) e42 ?_
    refine g_Code_7 hx hb hts hown hK hP hwf hj41 (hts _ u_240) d_Checks_allowsMemory_25 ?_
    refine lv_goto (tgt := 38) hx hb d_Checks_allowsMemory_28 (by decide) ?_
    exact b_38 M s0 (mI M 2 j41 7) _ _ _ h zs0 hwf hkp hP hD hS (lv_sub hl [1, 2, 0] rfl)
  refine lv_aload_n hx hb d_Checks_allowsMemory_0 rfl (lv_at hl 0 rfl) ?_
  refine g_Checks_0 hx hb hts hown hK hP hwf hj0 (hts _ u_610) d_Checks_allowsMemory_1 ?_
  obtain ⟨j43, e44, h⟩ := bd_ob h
  have hj43 : j43 < N 2 := (hwf.2.1 6 j0 0 _ e44 (by decide) hj0)
  refine me_opt (j := j43) e44 ?_
  refine g_Code_10 hx hb hts hown hK hP hwf hj43 (hts _ u_253) d_Checks_allowsMemory_4 ?_
  refine lv_iconst (v := 2) hx hb d_Checks_allowsMemory_7 (by decide) ?_
  refine lv_icmp_ne (tgt := 15) hx hb d_Checks_allowsMemory_8 (by decide) (fun c45 => ?_) (fun c45 => ?_)
  · have h := if_f c45 h
    refine lv_iconst (v := 0) hx hb d_Checks_allowsMemory_15 (by decide) ?_
    exact b_16 M0 (0 : Int32) _ _ _ h (by decide) hwf hkp hP hD hS (lv_sub hl [0, 1] rfl)
  have h := if_t c45 h
  refine lv_iconst (v := 1) hx hb d_Checks_allowsMemory_11 (by decide) ?_
  refine lv_goto (tgt := 16) hx hb d_Checks_allowsMemory_12 (by decide) ?_
  exact b_16 M0 (1 : Int32) _ _ _ h (by decide) hwf hkp hP hD hS (lv_sub hl [0, 1] rfl)
