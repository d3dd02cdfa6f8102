theorem d_Checks_allows_68 : decode prog_3_method_4_code 68 = .ok (.aload_n 0, 1) := by decide +kernel
theorem d_Checks_allows_69 : decode prog_3_method_4_code 69 = .ok (.getfield 23, 3) := by decide +kernel
theorem d_Checks_allows_72 : decode prog_3_method_4_code 72 = .ok (.getfield 55, 3) := by decide +kernel
theorem d_Checks_allows_75 : decode prog_3_method_4_code 75 = .ok (.tableswitch 124 1 10 #[53, 124, 124, 124, 124, 86, 122, 91, 97, 103], 53) := by decide +kernel
theorem d_Checks_allows_128 : decode prog_3_method_4_code 128 = .ok (.aload_n 0, 1) := by decide +kernel
theorem d_Checks_allows_129 : decode prog_3_method_4_code 129 = .ok (.getfield 22, 3) := by decide +kernel
theorem d_Checks_allows_132 : decode prog_3_method_4_code 132 = .ok (.aload_n 0, 1) := by decide +kernel
theorem d_Checks_allows_133 : decode prog_3_method_4_code 133 = .ok (.getfield 23, 3) := by decide +kernel
theorem d_Checks_allows_136 : decode prog_3_method_4_code 136 = .ok (.getfield 46, 3) := by decide +kernel
theorem d_Checks_allows_139 : decode prog_3_method_4_code 139 = .ok (.aaload, 1) := by decide +kernel
theorem d_Checks_allows_140 : decode prog_3_method_4_code 140 = .ok (.aload_n 0, 1) := by decide +kernel
theorem d_Checks_allows_141 : decode prog_3_method_4_code 141 = .ok (.getfield 23, 3) := by decide +kernel
theorem d_Checks_allows_144 : decode prog_3_method_4_code 144 = .ok (.getfield 52, 3) := by decide +kernel
theorem d_Checks_allows_147 : decode prog_3_method_4_code 147 = .ok (.ifCond .ne 7, 3) := by decide +kernel
theorem d_Checks_allows_154 : decode prog_3_method_4_code 154 = .ok (.bipush 6, 2) := by decide +kernel
theorem d_Checks_allows_156 : decode prog_3_method_4_code 156 = .ok (.putfield 34, 3) := by decide +kernel
theorem d_Checks_allows_159 : decode prog_3_method_4_code 159 = .ok (.iconst 1, 1) := by decide +kernel
theorem d_Checks_allows_160 : decode prog_3_method_4_code 160 = .ok (.ireturn, 1) := by decide +kernel
theorem d_Checks_allows_150 : decode prog_3_method_4_code 150 = .ok (.iconst 1, 1) := by decide +kernel
theorem d_Checks_allows_151 : decode prog_3_method_4_code 151 = .ok (.goto 5, 3) := by decide +kernel
theorem d_Checks_allows_199 : decode prog_3_method_4_code 199 = .ok (.aload_n 0, 1) := by decide +kernel
theorem d_Checks_allows_200 : decode prog_3_method_4_code 200 = .ok (.aload_n 1, 1) := by decide +kernel
theorem d_Checks_allows_201 : decode prog_3_method_4_code 201 = .ok (.invokevirtual 69, 3) := by decide +kernel
theorem u_1633 : Cond.methodLink "FilterGuard$Checks" 69 ⟨"FilterGuard$Checks", "allowsMemory", "([J)Z"⟩ ∈ fg_g := fg_in (List.mem_of_getElem? (i := 1633) (by decide +kernel)) rfl
theorem u_1636 : Cond.code ⟨"FilterGuard$Checks", "allowsMemory", "([J)Z"⟩ prog_3_method_8_code 8 (some .boolean) ∈ fg_g := fg_in (List.mem_of_getElem? (i := 1636) (by decide +kernel)) rfl
theorem u_1635 : Cond.instanceMethod ⟨"FilterGuard$Checks", "allowsMemory", "([J)Z"⟩ ∈ fg_g := fg_in (List.mem_of_getElem? (i := 1635) (by decide +kernel)) rfl
theorem u_70 : Cond.selects "FilterGuard$Checks" ⟨"FilterGuard$Checks", "allowsMemory", "([J)Z"⟩ ⟨"FilterGuard$Checks", "allowsMemory", "([J)Z"⟩ ∈ fg_g := fg_in (List.mem_of_getElem? (i := 70) (by decide +kernel)) rfl
theorem d_Checks_allows_204 : decode prog_3_method_4_code 204 = .ok (.ireturn, 1) := by decide +kernel
theorem d_Checks_allows_161 : decode prog_3_method_4_code 161 = .ok (.aload_n 0, 1) := by decide +kernel
theorem d_Checks_allows_162 : decode prog_3_method_4_code 162 = .ok (.invokevirtual 58, 3) := by decide +kernel
theorem u_1601 : Cond.methodLink "FilterGuard$Checks" 58 ⟨"FilterGuard$Checks", "allowsArithmetic", "()Z"⟩ ∈ fg_g := fg_in (List.mem_of_getElem? (i := 1601) (by decide +kernel)) rfl
theorem u_1604 : Cond.code ⟨"FilterGuard$Checks", "allowsArithmetic", "()Z"⟩ prog_3_method_6_code 6 (some .boolean) ∈ fg_g := fg_in (List.mem_of_getElem? (i := 1604) (by decide +kernel)) rfl
theorem u_1603 : Cond.instanceMethod ⟨"FilterGuard$Checks", "allowsArithmetic", "()Z"⟩ ∈ fg_g := fg_in (List.mem_of_getElem? (i := 1603) (by decide +kernel)) rfl
theorem u_64 : Cond.selects "FilterGuard$Checks" ⟨"FilterGuard$Checks", "allowsArithmetic", "()Z"⟩ ⟨"FilterGuard$Checks", "allowsArithmetic", "()Z"⟩ ∈ fg_g := fg_in (List.mem_of_getElem? (i := 64) (by decide +kernel)) rfl
theorem d_Checks_allows_165 : decode prog_3_method_4_code 165 = .ok (.ireturn, 1) := by decide +kernel
theorem d_Checks_allows_197 : decode prog_3_method_4_code 197 = .ok (.iconst 1, 1) := by decide +kernel
theorem d_Checks_allows_198 : decode prog_3_method_4_code 198 = .ok (.ireturn, 1) := by decide +kernel
theorem d_Checks_allows_166 : decode prog_3_method_4_code 166 = .ok (.aload_n 0, 1) := by decide +kernel
theorem d_Checks_allows_167 : decode prog_3_method_4_code 167 = .ok (.aload_n 1, 1) := by decide +kernel
theorem d_Checks_allows_168 : decode prog_3_method_4_code 168 = .ok (.invokevirtual 62, 3) := by decide +kernel
theorem u_1611 : Cond.methodLink "FilterGuard$Checks" 62 ⟨"FilterGuard$Checks", "allowsRelation", "([J)Z"⟩ ∈ fg_g := fg_in (List.mem_of_getElem? (i := 1611) (by decide +kernel)) rfl
theorem u_1614 : Cond.code ⟨"FilterGuard$Checks", "allowsRelation", "([J)Z"⟩ prog_3_method_7_code 6 (some .boolean) ∈ fg_g := fg_in (List.mem_of_getElem? (i := 1614) (by decide +kernel)) rfl
theorem u_1613 : Cond.instanceMethod ⟨"FilterGuard$Checks", "allowsRelation", "([J)Z"⟩ ∈ fg_g := fg_in (List.mem_of_getElem? (i := 1613) (by decide +kernel)) rfl
theorem u_66 : Cond.selects "FilterGuard$Checks" ⟨"FilterGuard$Checks", "allowsRelation", "([J)Z"⟩ ⟨"FilterGuard$Checks", "allowsRelation", "([J)Z"⟩ ∈ fg_g := fg_in (List.mem_of_getElem? (i := 66) (by decide +kernel)) rfl
theorem d_Checks_allows_171 : decode prog_3_method_4_code 171 = .ok (.ireturn, 1) := by decide +kernel
theorem d_Checks_allows_172 : decode prog_3_method_4_code 172 = .ok (.aload_n 0, 1) := by decide +kernel
theorem d_Checks_allows_173 : decode prog_3_method_4_code 173 = .ok (.aload_n 1, 1) := by decide +kernel
theorem d_Checks_allows_174 : decode prog_3_method_4_code 174 = .ok (.invokevirtual 66, 3) := by decide +kernel
theorem u_1615 : Cond.methodLink "FilterGuard$Checks" 66 ⟨"FilterGuard$Checks", "allowsCall", "([J)Z"⟩ ∈ fg_g := fg_in (List.mem_of_getElem? (i := 1615) (by decide +kernel)) rfl
theorem u_1618 : Cond.code ⟨"FilterGuard$Checks", "allowsCall", "([J)Z"⟩ prog_3_method_11_code 4 (some .boolean) ∈ fg_g := fg_in (List.mem_of_getElem? (i := 1618) (by decide +kernel)) rfl
theorem u_1617 : Cond.instanceMethod ⟨"FilterGuard$Checks", "allowsCall", "([J)Z"⟩ ∈ fg_g := fg_in (List.mem_of_getElem? (i := 1617) (by decide +kernel)) rfl
theorem u_67 : Cond.selects "FilterGuard$Checks" ⟨"FilterGuard$Checks", "allowsCall", "([J)Z"⟩ ⟨"FilterGuard$Checks", "allowsCall", "([J)Z"⟩ ∈ fg_g := fg_in (List.mem_of_getElem? (i := 67) (by decide +kernel)) rfl
theorem d_Checks_allows_177 : decode prog_3_method_4_code 177 = .ok (.ireturn, 1) := by decide +kernel
theorem d_Checks_allows_178 : decode prog_3_method_4_code 178 = .ok (.aload_n 0, 1) := by decide +kernel
theorem d_Checks_allows_179 : decode prog_3_method_4_code 179 = .ok (.getfield 22, 3) := by decide +kernel
theorem d_Checks_allows_182 : decode prog_3_method_4_code 182 = .ok (.iconst 0, 1) := by decide +kernel
theorem d_Checks_allows_183 : decode prog_3_method_4_code 183 = .ok (.aaload, 1) := by decide +kernel
theorem d_Checks_allows_184 : decode prog_3_method_4_code 184 = .ok (.getfield 34, 3) := by decide +kernel
theorem d_Checks_allows_187 : decode prog_3_method_4_code 187 = .ok (.iconst 1, 1) := by decide +kernel
theorem d_Checks_allows_188 : decode prog_3_method_4_code 188 = .ok (.if_icmp .ne 7, 3) := by decide +kernel
theorem d_Checks_allows_195 : decode prog_3_method_4_code 195 = .ok (.iconst 0, 1) := by decide +kernel
theorem d_Checks_allows_196 : decode prog_3_method_4_code 196 = .ok (.ireturn, 1) := by decide +kernel
theorem d_Checks_allows_191 : decode prog_3_method_4_code 191 = .ok (.iconst 1, 1) := by decide +kernel
theorem d_Checks_allows_192 : decode prog_3_method_4_code 192 = .ok (.goto 4, 3) := by decide +kernel
theorem d_Checks_allows_33 : decode prog_3_method_4_code 33 = .ok (.istore_n 2, 1) := by decide +kernel
theorem d_Checks_allows_34 : decode prog_3_method_4_code 34 = .ok (.iload_n 2, 1) := by decide +kernel
theorem d_Checks_allows_35 : decode prog_3_method_4_code 35 = .ok (.ifCond .ne 31, 3) := by decide +kernel
theorem d_Checks_allows_66 : decode prog_3_method_4_code 66 = .ok (.iconst 0, 1) := by decide +kernel
theorem d_Checks_allows_67 : decode prog_3_method_4_code 67 = .ok (.ireturn, 1) := by decide +kernel
theorem d_Checks_allows_38 : decode prog_3_method_4_code 38 = .ok (.aload_n 0, 1) := by decide +kernel
theorem d_Checks_allows_39 : decode prog_3_method_4_code 39 = .ok (.getfield 23, 3) := by decide +kernel
theorem d_Checks_allows_42 : decode prog_3_method_4_code 42 = .ok (.getfield 49, 3) := by decide +kernel
theorem d_Checks_allows_45 : decode prog_3_method_4_code 45 = .ok (.ifCond .eq 23, 3) := by decide +kernel
theorem d_Checks_allows_48 : decode prog_3_method_4_code 48 = .ok (.aload_n 0, 1) := by decide +kernel
theorem d_Checks_allows_49 : decode prog_3_method_4_code 49 = .ok (.getfield 22, 3) := by decide +kernel
theorem d_Checks_allows_52 : decode prog_3_method_4_code 52 = .ok (.aload_n 0, 1) := by decide +kernel
theorem d_Checks_allows_53 : decode prog_3_method_4_code 53 = .ok (.getfield 23, 3) := by decide +kernel
theorem d_Checks_allows_56 : decode prog_3_method_4_code 56 = .ok (.getfield 52, 3) := by decide +kernel
theorem d_Checks_allows_59 : decode prog_3_method_4_code 59 = .ok (.aaload, 1) := by decide +kernel
theorem d_Checks_allows_60 : decode prog_3_method_4_code 60 = .ok (.getfield 34, 3) := by decide +kernel
theorem d_Checks_allows_63 : decode prog_3_method_4_code 63 = .ok (.ifCond .ne 5, 3) := by decide +kernel
theorem d_Checks_allows_32 : decode prog_3_method_4_code 32 = .ok (.iconst 0, 1) := by decide +kernel
theorem d_Checks_allows_0 : decode prog_3_method_4_code 0 = .ok (.aload_n 0, 1) := by decide +kernel
theorem d_Checks_allows_1 : decode prog_3_method_4_code 1 = .ok (.getfield 23, 3) := by decide +kernel
theorem d_Checks_allows_4 : decode prog_3_method_4_code 4 = .ok (.getfield 40, 3) := by decide +kernel
theorem u_271 : Cond.fieldLink "FilterGuard$Checks" 40 "FilterGuard$Code" "readsTo" "Z" ∈ fg_g := fg_in (List.mem_of_getElem? (i := 271) (by decide +kernel)) rfl
theorem d_Checks_allows_7 : decode prog_3_method_4_code 7 = .ok (.ifCond .eq 25, 3) := by decide +kernel
theorem d_Checks_allows_10 : decode prog_3_method_4_code 10 = .ok (.aload_n 0, 1) := by decide +kernel
theorem d_Checks_allows_11 : decode prog_3_method_4_code 11 = .ok (.getfield 22, 3) := by decide +kernel
theorem d_Checks_allows_14 : decode prog_3_method_4_code 14 = .ok (.aload_n 0, 1) := by decide +kernel
theorem d_Checks_allows_15 : decode prog_3_method_4_code 15 = .ok (.getfield 23, 3) := by decide +kernel
theorem d_Checks_allows_18 : decode prog_3_method_4_code 18 = .ok (.getfield 46, 3) := by decide +kernel
theorem d_Checks_allows_21 : decode prog_3_method_4_code 21 = .ok (.aaload, 1) := by decide +kernel
theorem d_Checks_allows_22 : decode prog_3_method_4_code 22 = .ok (.getfield 34, 3) := by decide +kernel
theorem d_Checks_allows_25 : decode prog_3_method_4_code 25 = .ok (.ifCond .ne 7, 3) := by decide +kernel
theorem d_Checks_allows_28 : decode prog_3_method_4_code 28 = .ok (.iconst 1, 1) := by decide +kernel
theorem d_Checks_allows_29 : decode prog_3_method_4_code 29 = .ok (.goto 4, 3) := by decide +kernel
abbrev y_Checks_allows : MethodName := ⟨"FilterGuard$Checks", "allows", "([J)Z"⟩
def rm_Checks_allows : Room := { frames := 6, cells := 0, slots := 0, locals := 158 }
abbrev q_Checks_allows (D : va_G) (ad : Nat → Nat → Nat) (ca : Nat → ClassId) (N : Nat → Nat) (M0 MZ : me_M) (RZ : Int32) (A : Nat → Prop) : Array Value → Jvm.State → Outcome → Jvm.State → Prop := va_Qi (fun r (_ : Unit) => r = RZ ∧ me_wf N MZ ∧ me_kp M0 MZ ∧ (RZ = 1 ∨ RZ = 0)) (fg_B D A (fun _ => me_W ad ca MZ) (fun _ => [])) A
set_option maxHeartbeats 4000000 in
set_option maxRecDepth 100000 in
theorem c_Checks_allows (l : Launch) (D : va_G) (ad : Nat → Nat → Nat) (ca : Nat → ClassId) (N : Nat → Nat) (M0 MZ : me_M) (RZ : Int32) (j0 : Nat) (j1 : Nat) (h : f_Checks_allows M0 j0 j1 = (some (MZ, RZ))) (hwf : me_wf N M0) (hj0 : j0 < N 6) (hj1 : j1 < N 16) (sz : Nat) : Met l y_Checks_allows (fg_w y_Checks_allows prog_3_method_4_code 3 (some .boolean)) rm_Checks_allows (va_Pc [.ref (ad 6 j0), .ref (ad 16 j1)] (fz_P D (me_T ca) (me_W ad ca M0) sz)) (q_Checks_allows D ad ca N M0 MZ RZ (va_A (me_W ad ca M0) sz)) rm_Checks_allows.cells rm_Checks_allows.slots (va_A (me_W ad ca M0) sz) := by
  refine fz_enter (fun A => q_Checks_allows D ad ca N M0 MZ RZ A) (by decide +kernel) (Nat.le_of_ble_eq_true rfl) ?_
  intro p e s m below meth c ls A hx hb hml hown hts hr hlocks hin hP hK hD hS hA hX hl hz
  have hl : lv_has ls 3 [(0, .ref (ad 6 j0)), (1, .ref (ad 16 j1))] := hl
  unfold f_Checks_allows at h
  have hkp : me_kp M0 M0 := me_kp.rf
  have hkb := hkp
  have b_68 : ∀ (M : me_M) (H : Heap) (locs : List Loc) (ls : Array Slot), f_Checks_allows_b68 j0 j1 M = (some (MZ, RZ)) → me_wf N M → me_kp M0 M → va_P D classes (me_W ad ca M) H → va_D A (me_W ad ca M) → va_S A s.heap H locs → lv_has ls 3 [(0, .ref (ad 6 j0)), (1, .ref (ad 16 j1))] → W p l e rm_Checks_allows s m [.ref (ad 6 j0), .ref (ad 16 j1)].toArray below meth c H locs 0 0 (MQ below (q_Checks_allows D ad ca N M0 MZ RZ A) [.ref (ad 6 j0), .ref (ad 16 j1)].toArray s rm_Checks_allows.cells rm_Checks_allows.slots A) (F0 m 68 ls []) := by
    intro M H locs ls h hwf hkp hP hD hS hl
    unfold f_Checks_allows_b68 at h
    have hkb := hkp
    refine lv_aload_n hx hb d_Checks_allows_68 rfl (lv_at hl 0 rfl) ?_
    refine g_Checks_0 hx hb hts hown hK hP hwf hj0 (hts _ u_610) d_Checks_allows_69 ?_
    obtain ⟨j2, e3, h⟩ := bd_ob h
    have hj2 : j2 < N 2 := (hwf.2.1 6 j0 0 _ e3 (by decide) hj0)
    refine me_opt (j := j2) e3 ?_
    refine g_Code_10 hx hb hts hown hK hP hwf hj2 (hts _ u_253) d_Checks_allows_72 ?_
    refine lv_topi (fun w4 ew4 => ?_)
    by_cases n5 : w4 = 1
    · have h := if_t (ew4.symm.trans n5) h
      subst n5
      refine lv_tableIn (off := 53) (tgt := 128) hx hb d_Checks_allows_75 (by decide) (by decide) (by decide) (by decide) ?_
      refine lv_aload_n hx hb d_Checks_allows_128 rfl (lv_at hl 0 rfl) ?_
      refine g_Checks_3 hx hb hts hown hK hP hwf hj0 (hts _ u_613) d_Checks_allows_129 ?_
      obtain ⟨j6, e7, h⟩ := bd_ob h
      have hj6 : j6 < N 18 := (hwf.2.1 6 j0 3 _ e7 (by decide) hj0)
      refine me_opt (j := j6) e7 ?_
      refine lv_aload_n hx hb d_Checks_allows_132 rfl (lv_at hl 0 rfl) ?_
      refine g_Checks_0 hx hb hts hown hK hP hwf hj0 (hts _ u_610) d_Checks_allows_133 ?_
      refine me_opt (j := j2) e3 ?_
      refine g_Code_6 hx hb hts hown hK hP hwf hj2 (hts _ u_234) d_Checks_allows_136 ?_
      obtain ⟨g8, h⟩ := gd_ob h
      refine me_aald (k := 18) (t := 10) hx hb hK hP hwf hj6 (by decide) (by decide) rfl (fun _ => rfl) g8 d_Checks_allows_139 ?_
      obtain ⟨j9, e10, h⟩ := bd_ob h
      have hj9 : j9 < N 10 := (hwf.2.1 18 j6 ((mI M 2 j2 6).toNatClampNeg) _ e10 (by decide) hj6)
      refine me_opt (j := j9) e10 ?_
      refine lv_aload_n hx hb d_Checks_allows_140 rfl (lv_at hl 0 rfl) ?_
      refine g_Checks_0 hx hb hts hown hK hP hwf hj0 (hts _ u_610) d_Checks_allows_141 ?_
      refine me_opt (j := j2) e3 ?_
      refine g_Code_7 hx hb hts hown hK hP hwf hj2 (hts _ u_240) d_Checks_allows_144 ?_
      refine lv_if_ne (tgt := 154) hx hb d_Checks_allows_147 (by decide) (fun c11 => ?_) (fun c11 => ?_)
      · have h := if_f c11 h
        refine lv_bipush (v := 6) hx hb d_Checks_allows_154 (by decide) ?_
        obtain ⟨M12, eM12, h⟩ := st_ob h
        refine p_Cell_0 eM12 hx hb hts hown hK hP hD hwf hS hj9 (hts _ u_421) d_Checks_allows_156 (fun H locs hP hD hwf hS => ?_)
        have hkp := kp_I eM12 hkp
        refine lv_iconst (v := 1) hx hb d_Checks_allows_159 (by decide) ?_
        exact me_retz (me_kp M0) h (by decide) hx hb hr hlocks hwf hkp hP hK hD hS d_Checks_allows_160
      have h := if_t c11 h
      refine lv_iconst (v := 1) hx hb d_Checks_allows_150 (by decide) ?_
      refine lv_goto (tgt := 156) hx hb d_Checks_allows_151 (by decide) ?_
      obtain ⟨M13, eM13, h⟩ := st_ob h
      refine p_Cell_0 eM13 hx hb hts hown hK hP hD hwf hS hj9 (hts _ u_421) d_Checks_allows_156 (fun H locs hP hD hwf hS => ?_)
      have hkp := kp_I eM13 hkp
      refine lv_iconst (v := 1) hx hb d_Checks_allows_159 (by decide) ?_
      exact me_retz (me_kp M0) h (by decide) hx hb hr hlocks hwf hkp hP hK hD hS d_Checks_allows_160
    have h := if_f (fun z => n5 (ew4.trans z)) h
    by_cases n14 : w4 = 2
    · have h := if_t (ew4.symm.trans n14) h
      subst n14
      refine lv_tableIn (off := 124) (tgt := 199) hx hb d_Checks_allows_75 (by decide) (by decide) (by decide) (by decide) ?_
      refine lv_aload_n hx hb d_Checks_allows_199 rfl (lv_at hl 0 rfl) ?_
      refine lv_aload_n hx hb d_Checks_allows_200 rfl (lv_at hl 1 rfl) ?_
      obtain ⟨M15, r16, eM15, h⟩ := b2_ob h
      refine me_theni0 (M1 := M15) (me_runV (C := "FilterGuard$Checks") (As := [.ref (ad 16 j1)]) (rest := []) ⟨hx, hb, hml, hown, hts⟩ (c_Checks_allowsMemory l D ad ca N M M15 r16 j0 j1 eM15 hwf hj0 hj1 _) rfl (by show fg_nm y_Checks_allowsMemory 1; decide +kernel) u_1633 u_1635 u_70 u_191 u_1636 ⟨Nat.le_of_ble_eq_true rfl, Nat.le_of_ble_eq_true rfl⟩ hX hz hK hP hD hwf hS hA hj0 (by decide) rfl rfl rfl hl.1 (Nat.le_of_ble_eq_true rfl) d_Checks_allows_201 ⟨Nat.le_of_ble_eq_true rfl, Nat.le_of_ble_eq_true rfl⟩) hP hD hK hS hA rfl rfl (fun H locs hw hP hD hS => ?_)
      obtain ⟨hwf, hk9, zr16⟩ := hw
      have hkp := hkp.tr hk9
      exact me_retz (me_kp M0) h zr16 hx hb hr hlocks hwf hkp hP hK hD hS d_Checks_allows_204
    have h := if_f (fun z => n14 (ew4.trans z)) h
    by_cases n17 : w4 = 3
    · have h := if_t (ew4.symm.trans n17) h
      subst n17
      refine lv_tableIn (off := 124) (tgt := 199) hx hb d_Checks_allows_75 (by decide) (by decide) (by decide) (by decide) ?_
      refine lv_aload_n hx hb d_Checks_allows_199 rfl (lv_at hl 0 rfl) ?_
      refine lv_aload_n hx hb d_Checks_allows_200 rfl (lv_at hl 1 rfl) ?_
      obtain ⟨M18, r19, eM18, h⟩ := b2_ob h
      refine me_theni0 (M1 := M18) (me_runV (C := "FilterGuard$Checks") (As := [.ref (ad 16 j1)]) (rest := []) ⟨hx, hb, hml, hown, hts⟩ (c_Checks_allowsMemory l D ad ca N M M18 r19 j0 j1 eM18 hwf hj0 hj1 _) rfl (by show fg_nm y_Checks_allowsMemory 1; decide +kernel) u_1633 u_1635 u_70 u_191 u_1636 ⟨Nat.le_of_ble_eq_true rfl, Nat.le_of_ble_eq_true rfl⟩ hX hz hK hP hD hwf hS hA hj0 (by decide) rfl rfl rfl hl.1 (Nat.le_of_ble_eq_true rfl) d_Checks_allows_201 ⟨Nat.le_of_ble_eq_true rfl, Nat.le_of_ble_eq_true rfl⟩) hP hD hK hS hA rfl rfl (fun H locs hw hP hD hS => ?_)
      obtain ⟨hwf, hk9, zr19⟩ := hw
      have hkp := hkp.tr hk9
      exact me_retz (me_kp M0) h zr19 hx hb hr hlocks hwf hkp hP hK hD hS d_Checks_allows_204
    have h := if_f (fun z => n17 (ew4.trans z)) h
    by_cases n20 : w4 = 4
    · have h := if_t (ew4.symm.trans n20) h
      subst n20
      refine lv_tableIn (off := 124) (tgt := 199) hx hb d_Checks_allows_75 (by decide) (by decide) (by decide) (by decide) ?_
      refine lv_aload_n hx hb d_Checks_allows_199 rfl (lv_at hl 0 rfl) ?_
      refine lv_aload_n hx hb d_Checks_allows_200 rfl (lv_at hl 1 rfl) ?_
      obtain ⟨M21, r22, eM21, h⟩ := b2_ob h
      refine me_theni0 (M1 := M21) (me_runV (C := "FilterGuard$Checks") (As := [.ref (ad 16 j1)]) (rest := []) ⟨hx, hb, hml, hown, hts⟩ (c_Checks_allowsMemory l D ad ca N M M21 r22 j0 j1 eM21 hwf hj0 hj1 _) rfl (by show fg_nm y_Checks_allowsMemory 1; decide +kernel) u_1633 u_1635 u_70 u_191 u_1636 ⟨Nat.le_of_ble_eq_true rfl, Nat.le_of_ble_eq_true rfl⟩ hX hz hK hP hD hwf hS hA hj0 (by decide) rfl rfl rfl hl.1 (Nat.le_of_ble_eq_true rfl) d_Checks_allows_201 ⟨Nat.le_of_ble_eq_true rfl, Nat.le_of_ble_eq_true rfl⟩) hP hD hK hS hA rfl rfl (fun H locs hw hP hD hS => ?_)
      obtain ⟨hwf, hk9, zr22⟩ := hw
      have hkp := hkp.tr hk9
      exact me_retz (me_kp M0) h zr22 hx hb hr hlocks hwf hkp hP hK hD hS d_Checks_allows_204
    have h := if_f (fun z => n20 (ew4.trans z)) h
    by_cases n23 : w4 = 5
    · have h := if_t (ew4.symm.trans n23) h
      subst n23
      refine lv_tableIn (off := 124) (tgt := 199) hx hb d_Checks_allows_75 (by decide) (by decide) (by decide) (by decide) ?_
      refine lv_aload_n hx hb d_Checks_allows_199 rfl (lv_at hl 0 rfl) ?_
      refine lv_aload_n hx hb d_Checks_allows_200 rfl (lv_at hl 1 rfl) ?_
      obtain ⟨M24, r25, eM24, h⟩ := b2_ob h
      refine me_theni0 (M1 := M24) (me_runV (C := "FilterGuard$Checks") (As := [.ref (ad 16 j1)]) (rest := []) ⟨hx, hb, hml, hown, hts⟩ (c_Checks_allowsMemory l D ad ca N M M24 r25 j0 j1 eM24 hwf hj0 hj1 _) rfl (by show fg_nm y_Checks_allowsMemory 1; decide +kernel) u_1633 u_1635 u_70 u_191 u_1636 ⟨Nat.le_of_ble_eq_true rfl, Nat.le_of_ble_eq_true rfl⟩ hX hz hK hP hD hwf hS hA hj0 (by decide) rfl rfl rfl hl.1 (Nat.le_of_ble_eq_true rfl) d_Checks_allows_201 ⟨Nat.le_of_ble_eq_true rfl, Nat.le_of_ble_eq_true rfl⟩) hP hD hK hS hA rfl rfl (fun H locs hw hP hD hS => ?_)
      obtain ⟨hwf, hk9, zr25⟩ := hw
      have hkp := hkp.tr hk9
      exact me_retz (me_kp M0) h zr25 hx hb hr hlocks hwf hkp hP hK hD hS d_Checks_allows_204
    have h := if_f (fun z => n23 (ew4.trans z)) h
    by_cases n26 : w4 = 6
    · have h := if_t (ew4.symm.trans n26) h
      subst n26
      refine lv_tableIn (off := 86) (tgt := 161) hx hb d_Checks_allows_75 (by decide) (by decide) (by decide) (by decide) ?_
      refine lv_aload_n hx hb d_Checks_allows_161 rfl (lv_at hl 0 rfl) ?_
      obtain ⟨M27, r28, eM27, h⟩ := b2_ob h
      refine me_theni0 (M1 := M27) (me_runV (C := "FilterGuard$Checks") (As := []) (rest := []) ⟨hx, hb, hml, hown, hts⟩ (c_Checks_allowsArithmetic l D ad ca N M M27 r28 j0 eM27 hwf hj0 _) rfl (by show fg_nm y_Checks_allowsArithmetic 0; decide +kernel) u_1601 u_1603 u_64 u_191 u_1604 ⟨Nat.le_of_ble_eq_true rfl, Nat.le_of_ble_eq_true rfl⟩ hX hz hK hP hD hwf hS hA hj0 (by decide) rfl rfl rfl hl.1 (Nat.le_of_ble_eq_true rfl) d_Checks_allows_162 ⟨Nat.le_of_ble_eq_true rfl, Nat.le_of_ble_eq_true rfl⟩) hP hD hK hS hA rfl rfl (fun H locs hw hP hD hS => ?_)
      obtain ⟨hwf, hk9, zr28⟩ := hw
      have hkp := hkp.tr hk9
      exact me_retz (me_kp M0) h zr28 hx hb hr hlocks hwf hkp hP hK hD hS d_Checks_allows_165
    have h := if_f (fun z => n26 (ew4.trans z)) h
    by_cases n29 : w4 = 7
    · have h := if_t (ew4.symm.trans n29) h
      subst n29
      refine lv_tableIn (off := 122) (tgt := 197) hx hb d_Checks_allows_75 (by decide) (by decide) (by decide) (by decide) ?_
      refine lv_iconst (v := 1) hx hb d_Checks_allows_197 (by decide) ?_
      exact me_retz (me_kp M0) h (by decide) hx hb hr hlocks hwf hkp hP hK hD hS d_Checks_allows_198
    have h := if_f (fun z => n29 (ew4.trans z)) h
    by_cases n30 : w4 = 8
    · have h := if_t (ew4.symm.trans n30) h
      subst n30
      refine lv_tableIn (off := 91) (tgt := 166) hx hb d_Checks_allows_75 (by decide) (by decide) (by decide) (by decide) ?_
      refine lv_aload_n hx hb d_Checks_allows_166 rfl (lv_at hl 0 rfl) ?_
      refine lv_aload_n hx hb d_Checks_allows_167 rfl (lv_at hl 1 rfl) ?_
      obtain ⟨M31, r32, eM31, h⟩ := b2_ob h
      refine me_theni0 (M1 := M31) (me_runV (C := "FilterGuard$Checks") (As := [.ref (ad 16 j1)]) (rest := []) ⟨hx, hb, hml, hown, hts⟩ (c_Checks_allowsRelation l D ad ca N M M31 r32 j0 j1 eM31 hwf hj0 hj1 _) rfl (by show fg_nm y_Checks_allowsRelation 1; decide +kernel) u_1611 u_1613 u_66 u_191 u_1614 ⟨Nat.le_of_ble_eq_true rfl, Nat.le_of_ble_eq_true rfl⟩ hX hz hK hP hD hwf hS hA hj0 (by decide) rfl rfl rfl hl.1 (Nat.le_of_ble_eq_true rfl) d_Checks_allows_168 ⟨Nat.le_of_ble_eq_true rfl, Nat.le_of_ble_eq_true rfl⟩) hP hD hK hS hA rfl rfl (fun H locs hw hP hD hS => ?_)
      obtain ⟨hwf, hk9, zr32⟩ := hw
      have hkp := hkp.tr hk9
      exact me_retz (me_kp M0) h zr32 hx hb hr hlocks hwf hkp hP hK hD hS d_Checks_allows_171
    have h := if_f (fun z => n30 (ew4.trans z)) h
    by_cases n33 : w4 = 9
    · have h := if_t (ew4.symm.trans n33) h
      subst n33
      refine lv_tableIn (off := 97) (tgt := 172) hx hb d_Checks_allows_75 (by decide) (by decide) (by decide) (by decide) ?_
      refine lv_aload_n hx hb d_Checks_allows_172 rfl (lv_at hl 0 rfl) ?_
      refine lv_aload_n hx hb d_Checks_allows_173 rfl (lv_at hl 1 rfl) ?_
      obtain ⟨M34, r35, eM34, h⟩ := b2_ob h
      refine me_theni0 (M1 := M34) (me_runV (C := "FilterGuard$Checks") (As := [.ref (ad 16 j1)]) (rest := []) ⟨hx, hb, hml, hown, hts⟩ (c_Checks_allowsCall l D ad ca N M M34 r35 j0 j1 eM34 hwf hj0 hj1 _) rfl (by show fg_nm y_Checks_allowsCall 1; decide +kernel) u_1615 u_1617 u_67 u_191 u_1618 ⟨Nat.le_of_ble_eq_true rfl, Nat.le_of_ble_eq_true rfl⟩ hX hz hK hP hD hwf hS hA hj0 (by decide) rfl rfl rfl hl.1 (Nat.le_of_ble_eq_true rfl) d_Checks_allows_174 ⟨Nat.le_of_ble_eq_true rfl, Nat.le_of_ble_eq_true rfl⟩) hP hD hK hS hA rfl rfl (fun H locs hw hP hD hS => ?_)
      obtain ⟨hwf, hk9, zr35⟩ := hw
      have hkp := hkp.tr hk9
      exact me_retz (me_kp M0) h zr35 hx hb hr hlocks hwf hkp hP hK hD hS d_Checks_allows_177
    have h := if_f (fun z => n33 (ew4.trans z)) h
    by_cases n36 : w4 = 10
    · have h := if_t (ew4.symm.trans n36) h
      subst n36
      refine lv_tableIn (off := 103) (tgt := 178) hx hb d_Checks_allows_75 (by decide) (by decide) (by decide) (by decide) ?_
      refine lv_aload_n hx hb d_Checks_allows_178 rfl (lv_at hl 0 rfl) ?_
      refine g_Checks_3 hx hb hts hown hK hP hwf hj0 (hts _ u_613) d_Checks_allows_179 ?_
      obtain ⟨j37, e38, h⟩ := bd_ob h
      have hj37 : j37 < N 18 := (hwf.2.1 6 j0 3 _ e38 (by decide) hj0)
      refine me_opt (j := j37) e38 ?_
      refine lv_iconst (v := 0) hx hb d_Checks_allows_182 (by decide) ?_
      obtain ⟨g39, h⟩ := gd_ob h
      refine me_aald (k := 18) (t := 10) hx hb hK hP hwf hj37 (by decide) (by decide) rfl (fun _ => rfl) (me_in (i := (0 : Int32)) (k := 0) (by decide) (by decide) g39) d_Checks_allows_183 ?_
      rw [show (0 : Int32).toNatClampNeg = 0 by decide]
      obtain ⟨j40, e41, h⟩ := bd_ob h
      have hj40 : j40 < N 10 := (hwf.2.1 18 j37 0 _ e41 (by decide) hj37)
      refine me_opt (j := j40) e41 ?_
      refine g_Cell_0 hx hb hts hown hK hP hwf hj40 (hts _ u_421) d_Checks_allows_184 ?_
      refine lv_iconst (v := 1) hx hb d_Checks_allows_187 (by decide) ?_
      refine lv_icmp_ne (tgt := 195) hx hb d_Checks_allows_188 (by decide) (fun c42 => ?_) (fun c42 => ?_)
      · have h := if_f c42 h
        refine lv_iconst (v := 0) hx hb d_Checks_allows_195 (by decide) ?_
        exact me_retz (me_kp M0) h (by decide) hx hb hr hlocks hwf hkp hP hK hD hS d_Checks_allows_196
      have h := if_t c42 h
      refine lv_iconst (v := 1) hx hb d_Checks_allows_191 (by decide) ?_
      refine lv_goto (tgt := 196) hx hb d_Checks_allows_192 (by decide) ?_
      exact me_retz (me_kp M0) h (by decide) hx hb hr hlocks hwf hkp hP hK hD hS d_Checks_allows_196
    have h := if_f (fun z => n36 (ew4.trans z)) h
    have in5 := lv_neT n5 (show (1 : Int32).toInt = 1 from rfl)
    have in14 := lv_neT n14 (show (2 : Int32).toInt = 2 from rfl)
    have in17 := lv_neT n17 (show (3 : Int32).toInt = 3 from rfl)
    have in20 := lv_neT n20 (show (4 : Int32).toInt = 4 from rfl)
    have in23 := lv_neT n23 (show (5 : Int32).toInt = 5 from rfl)
    have in26 := lv_neT n26 (show (6 : Int32).toInt = 6 from rfl)
    have in29 := lv_neT n29 (show (7 : Int32).toInt = 7 from rfl)
    have in30 := lv_neT n30 (show (8 : Int32).toInt = 8 from rfl)
    have in33 := lv_neT n33 (show (9 : Int32).toInt = 9 from rfl)
    have in36 := lv_neT n36 (show (10 : Int32).toInt = 10 from rfl)
    refine lv_tableOut (tgt := 199) hx hb d_Checks_allows_75 (by omega) (by decide) ?_
    refine lv_aload_n hx hb d_Checks_allows_199 rfl (lv_at hl 0 rfl) ?_
    refine lv_aload_n hx hb d_Checks_allows_200 rfl (lv_at hl 1 rfl) ?_
    obtain ⟨M43, r44, eM43, h⟩ := b2_ob h
    refine me_theni0 (M1 := M43) (me_runV (C := "FilterGuard$Checks") (As := [.ref (ad 16 j1)]) (rest := []) ⟨hx, hb, hml, hown, hts⟩ (c_Checks_allowsMemory l D ad ca N M M43 r44 j0 j1 eM43 hwf hj0 hj1 _) rfl (by show fg_nm y_Checks_allowsMemory 1; decide +kernel) u_1633 u_1635 u_70 u_191 u_1636 ⟨Nat.le_of_ble_eq_true rfl, Nat.le_of_ble_eq_true rfl⟩ hX hz hK hP hD hwf hS hA hj0 (by decide) rfl rfl rfl hl.1 (Nat.le_of_ble_eq_true rfl) d_Checks_allows_201 ⟨Nat.le_of_ble_eq_true rfl, Nat.le_of_ble_eq_true rfl⟩) hP hD hK hS hA rfl rfl (fun H locs hw hP hD hS => ?_)
    obtain ⟨hwf, hk9, zr44⟩ := hw
    have hkp := hkp.tr hk9
    exact me_retz (me_kp M0) h zr44 hx hb hr hlocks hwf hkp hP hK hD hS d_Checks_allows_204
  have b_33 : ∀ (M : me_M) (s0 : Int32) (H : Heap) (locs : List Loc) (ls : Array Slot), f_Checks_allows_b33 j0 j1 M s0 = (some (MZ, RZ)) → (s0 = 1 ∨ s0 = 0) → me_wf N M → me_kp M0 M → va_P D classes (me_W ad ca M) H → va_D A (me_W ad ca M) → va_S A s.heap H locs → lv_has ls 3 [(0, .ref (ad 6 j0)), (1, .ref (ad 16 j1))] → W p l e rm_Checks_allows s m [.ref (ad 6 j0), .ref (ad 16 j1)].toArray below meth c H locs 0 0 (MQ below (q_Checks_allows D ad ca N M0 MZ RZ A) [.ref (ad 6 j0), .ref (ad 16 j1)].toArray s rm_Checks_allows.cells rm_Checks_allows.slots A) (F0 m 33 ls [.int s0]) := by
    intro M s0 H locs ls h zs0 hwf hkp hP hD hS hl
    unfold f_Checks_allows_b33 at h
    have hkb := hkp
    refine lv_istore_n (lv' := [(2, .int s0), (0, .ref (ad 6 j0)), (1, .ref (ad 16 j1))]) hx hb d_Checks_allows_33 rfl hl (by decide) rfl (fun ls hl => ?_)
    refine lv_iload_n hx hb d_Checks_allows_34 rfl (lv_at hl 0 rfl) ?_
    refine lv_if_ne (tgt := 66) hx hb d_Checks_allows_35 (by decide) (fun c45 => ?_) (fun c45 => ?_)
    · have h := if_f c45 h
      refine lv_iconst (v := 0) hx hb d_Checks_allows_66 (by decide) ?_
      exact me_retz (me_kp M0) h (by decide) hx hb hr hlocks hwf hkp hP hK hD hS d_Checks_allows_67
    have h := if_t c45 h
    refine lv_aload_n hx hb d_Checks_allows_38 rfl (lv_at hl 1 rfl) ?_
    refine g_Checks_0 hx hb hts hown hK hP hwf hj0 (hts _ u_610) d_Checks_allows_39 ?_
    obtain ⟨j46, e47, h⟩ := bd_ob h
    have hj46 : j46 < N 2 := (hwf.2.1 6 j0 0 _ e47 (by decide) hj0)
    refine me_opt (j := j46) e47 ?_
    refine g_Code_15 hx hb hts hown hK hP hwf hj46 (hts _ u_274) d_Checks_allows_42 ?_
    have z48 := (hwf.2.2.2 2 j46 15 rfl)
    refine lv_if_eq (tgt := 68) hx hb d_Checks_allows_45 (by decide) (fun c49 => ?_) (fun c49 => ?_)
    · have h := if_t c49 h
      exact b_68 M _ _ _ h hwf hkp hP hD hS (lv_sub hl [1, 2] rfl)
    have h := if_f c49 h
    refine lv_aload_n hx hb d_Checks_allows_48 rfl (lv_at hl 1 rfl) ?_
    refine g_Checks_3 hx hb hts hown hK hP hwf hj0 (hts _ u_613) d_Checks_allows_49 ?_
    obtain ⟨j50, e51, h⟩ := bd_ob h
    have hj50 : j50 < N 18 := (hwf.2.1 6 j0 3 _ e51 (by decide) hj0)
    refine me_opt (j := j50) e51 ?_
    refine lv_aload_n hx hb d_Checks_allows_52 rfl (lv_at hl 1 rfl) ?_
    refine g_Checks_0 hx hb hts hown hK hP hwf hj0 (hts _ u_610) d_Checks_allows_53 ?_
    refine me_opt (j := j46) e47 ?_
    refine g_Code_7 hx hb hts hown hK hP hwf hj46 (hts _ u_240) d_Checks_allows_56 ?_
    obtain ⟨g52, h⟩ := gd_ob h
    refine me_aald (k := 18) (t := 10) hx hb hK hP hwf hj50 (by decide) (by decide) rfl (fun _ => rfl) g52 d_Checks_allows_59 ?_
    obtain ⟨j53, e54, h⟩ := bd_ob h
    have hj53 : j53 < N 10 := (hwf.2.1 18 j50 ((mI M 2 j46 7).toNatClampNeg) _ e54 (by decide) hj50)
    refine me_opt (j := j53) e54 ?_
    refine g_Cell_0 hx hb hts hown hK hP hwf hj53 (hts _ u_421) d_Checks_allows_60 ?_
    refine lv_if_ne (tgt := 68) hx hb d_Checks_allows_63 (by decide) (fun c55 => ?_) (fun c55 => ?_)
    · have h := if_f c55 h
      exact b_68 M _ _ _ h hwf hkp hP hD hS (lv_sub hl [1, 2] rfl)
    have h := if_t c55 h
    refine lv_iconst (v := 0) hx hb d_Checks_allows_66 (by decide) ?_
    exact me_retz (me_kp M0) h (by decide) hx hb hr hlocks hwf hkp hP hK hD hS d_Checks_allows_67
  have b_32 : ∀ (M : me_M) (H : Heap) (locs : List Loc) (ls : Array Slot), f_Checks_allows_b32 j0 j1 M = (some (MZ, RZ)) → me_wf N M → me_kp M0 M → va_P D classes (me_W ad ca M) H → va_D A (me_W ad ca M) → va_S A s.heap H locs → lv_has ls 3 [(0, .ref (ad 6 j0)), (1, .ref (ad 16 j1))] → W p l e rm_Checks_allows s m [.ref (ad 6 j0), .ref (ad 16 j1)].toArray below meth c H locs 0 0 (MQ below (q_Checks_allows D ad ca N M0 MZ RZ A) [.ref (ad 6 j0), .ref (ad 16 j1)].toArray s rm_Checks_allows.cells rm_Checks_allows.slots A) (F0 m 32 ls []) := by
    intro M H locs ls h hwf hkp hP hD hS hl
    unfold f_Checks_allows_b32 at h
    have hkb := hkp
    refine lv_iconst (v := 0) hx hb d_Checks_allows_32 (by decide) ?_
    exact b_33 M (0 : Int32) _ _ _ h (by decide) hwf hkp hP hD hS (lv_sub hl [0, 1] rfl)
  refine lv_aload_n hx hb d_Checks_allows_0 rfl (lv_at hl 0 rfl) ?_
  refine g_Checks_0 hx hb hts hown hK hP hwf hj0 (hts _ u_610) d_Checks_allows_1 ?_
  obtain ⟨j56, e57, h⟩ := bd_ob h
  have hj56 : j56 < N 2 := (hwf.2.1 6 j0 0 _ e57 (by decide) hj0)
  refine me_opt (j := j56) e57 ?_
  refine g_Code_14 hx hb hts hown hK hP hwf hj56 (hts _ u_271) d_Checks_allows_4 ?_
  have z58 := (hwf.2.2.2 2 j56 14 rfl)
  refine lv_if_eq (tgt := 32) hx hb d_Checks_allows_7 (by decide) (fun c59 => ?_) (fun c59 => ?_)
  · have h := if_t c59 h
    exact b_32 M0 _ _ _ h hwf hkp hP hD hS (lv_sub hl [0, 1] rfl)
  have h := if_f c59 h
  refine lv_aload_n hx hb d_Checks_allows_10 rfl (lv_at hl 0 rfl) ?_
  refine g_Checks_3 hx hb hts hown hK hP hwf hj0 (hts _ u_613) d_Checks_allows_11 ?_
  obtain ⟨j60, e61, h⟩ := bd_ob h
  have hj60 : j60 < N 18 := (hwf.2.1 6 j0 3 _ e61 (by decide) hj0)
  refine me_opt (j := j60) e61 ?_
  refine lv_aload_n hx hb d_Checks_allows_14 rfl (lv_at hl 0 rfl) ?_
  refine g_Checks_0 hx hb hts hown hK hP hwf hj0 (hts _ u_610) d_Checks_allows_15 ?_
  refine me_opt (j := j56) e57 ?_
  refine g_Code_6 hx hb hts hown hK hP hwf hj56 (hts _ u_234) d_Checks_allows_18 ?_
  obtain ⟨g62, h⟩ := gd_ob h
  refine me_aald (k := 18) (t := 10) hx hb hK hP hwf hj60 (by decide) (by decide) rfl (fun _ => rfl) g62 d_Checks_allows_21 ?_
  obtain ⟨j63, e64, h⟩ := bd_ob h
  have hj63 : j63 < N 10 := (hwf.2.1 18 j60 ((mI M0 2 j56 6).toNatClampNeg) _ e64 (by decide) hj60)
  refine me_opt (j := j63) e64 ?_
  refine g_Cell_0 hx hb hts hown hK hP hwf hj63 (hts _ u_421) d_Checks_allows_22 ?_
  refine lv_if_ne (tgt := 32) hx hb d_Checks_allows_25 (by decide) (fun c65 => ?_) (fun c65 => ?_)
  · have h := if_f c65 h
    exact b_32 M0 _ _ _ h hwf hkp hP hD hS (lv_sub hl [0, 1] rfl)
  have h := if_t c65 h
  refine lv_iconst (v := 1) hx hb d_Checks_allows_28 (by decide) ?_
  refine lv_goto (tgt := 33) hx hb d_Checks_allows_29 (by decide) ?_
  exact b_33 M0 (1 : Int32) _ _ _ h (by decide) hwf hkp hP hD hS (lv_sub hl [0, 1] rfl)
theorem d_Machine_operand_0 : decode prog_7_method_7_code 0 = .ok (.aload_n 0, 1) := by decide +kernel
theorem d_Machine_operand_1 : decode prog_7_method_7_code 1 = .ok (.getfield 48, 3) := by decide +kernel
theorem g_Machine_16 {p : Program} {l : Launch} {e : Env} {R : Room} {s : Jvm.State} {m : MethodId} {args : Array Value} {below : List Frame} {meth : Method} {c : Code} {H : Heap} {locs : List Loc} {cells slots : Nat} {Q : Jvm.State → Prop} {cc : ByteArray} {pc : Nat} {ls : Array Slot} {rest : List Value} {D : va_G} {ad : Nat → Nat → Nat} {ca : Nat → ClassId} {M : me_M} {N : Nat → Nat} {own : String} {index j : Nat} (hexec : p.tables.exec = Jvm.exec) (hb : c.code = cc) (hts : ∀ w ∈ fg_g, w.before args s = true) (hown : s.vm.findClass own = some m.cls) (hK : va_K D classes (me_T ca) s) (hP : va_P D classes (me_W ad ca M) H) (hwf : me_wf N M) (hj : j < N 5) (hlink : (Cond.fieldLink own index "FilterGuard$Machine" "program" "LFilterGuard$Code;").before args s = true) (hdg : decode cc pc = .ok (.getfield index, 3)) (kk : W p l e R s m args below meth c H locs cells slots Q (F0 m (pc + 3) ls (va_rf ((mR M 5 j 16).map (ad 2)) :: rest))) : W p l e R s m args below meth c H locs cells slots Q (F0 m pc ls (.ref (ad 5 j) :: rest)) := me_get (k := 5) (f := 16) (C := "FilterGuard$Machine") (T := F_Machine) (Nf := 20) hexec hb hts i_Machine hown hK hP hwf hj (by decide) rfl (by decide) (by decide) hlink (fun _ h9 => h9) hdg kk
theorem d_Machine_operand_4 : decode prog_7_method_7_code 4 = .ok (.getfield 167, 3) := by decide +kernel
theorem u_275 : Cond.fieldLink "FilterGuard$Machine" 167 "FilterGuard$Code" "readsFrom" "Z" ∈ fg_g := fg_in (List.mem_of_getElem? (i := 275) (by decide +kernel)) rfl
theorem d_Machine_operand_7 : decode prog_7_method_7_code 7 = .ok (.ifCond .eq 18, 3) := by decide +kernel
theorem d_Machine_operand_25 : decode prog_7_method_7_code 25 = .ok (.aload_n 0, 1) := by decide +kernel
theorem d_Machine_operand_26 : decode prog_7_method_7_code 26 = .ok (.getfield 48, 3) := by decide +kernel
theorem d_Machine_operand_29 : decode prog_7_method_7_code 29 = .ok (.invokevirtual 171, 3) := by decide +kernel
theorem u_1659 : Cond.methodLink "FilterGuard$Machine" 171 ⟨"FilterGuard$Code", "fieldNumber", "()J"⟩ ∈ fg_g := fg_in (List.mem_of_getElem? (i := 1659) (by decide +kernel)) rfl
theorem d_Machine_operand_32 : decode prog_7_method_7_code 32 = .ok (.lreturn, 1) := by decide +kernel
theorem d_Machine_operand_10 : decode prog_7_method_7_code 10 = .ok (.aload_n 0, 1) := by decide +kernel
theorem d_Machine_operand_11 : decode prog_7_method_7_code 11 = .ok (.getfield 18, 3) := by decide +kernel
theorem d_Machine_operand_14 : decode prog_7_method_7_code 14 = .ok (.aload_n 0, 1) := by decide +kernel
theorem d_Machine_operand_15 : decode prog_7_method_7_code 15 = .ok (.getfield 48, 3) := by decide +kernel
theorem d_Machine_operand_18 : decode prog_7_method_7_code 18 = .ok (.getfield 139, 3) := by decide +kernel
theorem u_241 : Cond.fieldLink "FilterGuard$Machine" 139 "FilterGuard$Code" "from" "I" ∈ fg_g := fg_in (List.mem_of_getElem? (i := 241) (by decide +kernel)) rfl
theorem d_Machine_operand_21 : decode prog_7_method_7_code 21 = .ok (.laload, 1) := by decide +kernel
theorem d_Machine_operand_22 : decode prog_7_method_7_code 22 = .ok (.goto 10, 3) := by decide +kernel
abbrev y_Machine_operand : MethodName := ⟨"FilterGuard$Machine", "operand", "()J"⟩
def rm_Machine_operand : Room := { frames := 2, cells := 0, slots := 0, locals := 40 }
abbrev q_Machine_operand (D : va_G) (ad : Nat → Nat → Nat) (ca : Nat → ClassId) (N : Nat → Nat) (M0 MZ : me_M) (RZ : Int64) (A : Nat → Prop) : Array Value → Jvm.State → Outcome → Jvm.State → Prop := va_Ql (fun r (_ : Unit) => r = RZ ∧ me_wf N MZ ∧ me_kp M0 MZ) (fg_B D A (fun _ => me_W ad ca MZ) (fun _ => [])) A
set_option maxHeartbeats 4000000 in
set_option maxRecDepth 100000 in
theorem c_Machine_operand (l : Launch) (D : va_G) (ad : Nat → Nat → Nat) (ca : Nat → ClassId) (N : Nat → Nat) (M0 MZ : me_M) (RZ : Int64) (j0 : Nat) (h : f_Machine_operand M0 j0 = (some (MZ, RZ))) (hwf : me_wf N M0) (hj0 : j0 < N 5) (sz : Nat) : Met l y_Machine_operand (fg_w y_Machine_operand prog_7_method_7_code 1 (some .long)) rm_Machine_operand (va_Pc [.ref (ad 5 j0)] (fz_P D (me_T ca) (me_W ad ca M0) sz)) (q_Machine_operand D ad ca N M0 MZ RZ (va_A (me_W ad ca M0) sz)) rm_Machine_operand.cells rm_Machine_operand.slots (va_A (me_W ad ca M0) sz) := by
  refine fz_enter (fun A => q_Machine_operand D ad ca N M0 MZ RZ A) (by decide +kernel) (Nat.le_of_ble_eq_true rfl) ?_
  intro p e s m below meth c ls A hx hb hml hown hts hr hlocks hin hP hK hD hS hA hX hl hz
  have hl : lv_has ls 1 [(0, .ref (ad 5 j0))] := hl
  unfold f_Machine_operand at h
  have hkp : me_kp M0 M0 := me_kp.rf
  have hkb := hkp
  refine lv_aload_n hx hb d_Machine_operand_0 rfl (lv_at hl 0 rfl) ?_
  refine g_Machine_16 hx hb hts hown hK hP hwf hj0 (hts _ u_648) d_Machine_operand_1 ?_
  obtain ⟨j1, e2, h⟩ := bd_ob h
  have hj1 : j1 < N 2 := (hwf.2.1 5 j0 16 _ e2 (by decide) hj0)
  refine me_opt (j := j1) e2 ?_
  refine g_Code_15 hx hb hts hown hK hP hwf hj1 (hts _ u_275) d_Machine_operand_4 ?_
  have z3 := (hwf.2.2.2 2 j1 15 rfl)
  refine lv_if_eq (tgt := 25) hx hb d_Machine_operand_7 (by decide) (fun c4 => ?_) (fun c4 => ?_)
  · have h := if_t c4 h
    refine lv_aload_n hx hb d_Machine_operand_25 rfl (lv_at hl 0 rfl) ?_
    refine g_Machine_16 hx hb hts hown hK hP hwf hj0 (hts _ u_648) d_Machine_operand_26 ?_
    refine me_opt (j := j1) e2 ?_
    obtain ⟨M5, r6, eM5, h⟩ := b2_ob h
    refine me_thenl0 (M1 := M5) (me_runV (C := "FilterGuard$Code") (As := []) (rest := []) ⟨hx, hb, hml, hown, hts⟩ (c_Code_fieldNumber l D ad ca N M0 M5 r6 j1 eM5 hwf hj1 _) rfl (by show fg_nm y_Code_fieldNumber 0; decide +kernel) u_1659 u_1118 u_1119 u_182 u_1120 ⟨Nat.le_of_ble_eq_true rfl, Nat.le_of_ble_eq_true rfl⟩ hX hz hK hP hD hwf hS hA hj1 (by decide) rfl rfl rfl hl.1 (Nat.le_of_ble_eq_true rfl) d_Machine_operand_29 ⟨Nat.le_of_ble_eq_true rfl, Nat.le_of_ble_eq_true rfl⟩) hP hD hK hS hA rfl rfl (fun H locs hw hP hD hS => ?_)
    obtain ⟨hwf, hk9⟩ := hw
    have hkp := hkp.tr hk9
    exact me_retl (me_kp M0) h hx hb hr hlocks hwf hkp hP hK hD hS d_Machine_operand_32
  have h := if_f c4 h
  refine lv_aload_n hx hb d_Machine_operand_10 rfl (lv_at hl 0 rfl) ?_
  refine g_Machine_6 hx hb hts hown hK hP hwf hj0 (hts _ u_629) d_Machine_operand_11 ?_
  obtain ⟨j7, e8, h⟩ := bd_ob h
  have hj7 : j7 < N 16 := (hwf.2.1 5 j0 6 _ e8 (by decide) hj0)
  refine me_opt (j := j7) e8 ?_
  refine lv_aload_n hx hb d_Machine_operand_14 rfl (lv_at hl 0 rfl) ?_
  refine g_Machine_16 hx hb hts hown hK hP hwf hj0 (hts _ u_648) d_Machine_operand_15 ?_
  refine me_opt (j := j1) e2 ?_
  refine g_Code_7 hx hb hts hown hK hP hwf hj1 (hts _ u_241) d_Machine_operand_18 ?_
  obtain ⟨g9, h⟩ := gd_ob h
  refine me_lald hx hb hK hP hwf hj7 g9 d_Machine_operand_21 ?_
  refine lv_goto (tgt := 32) hx hb d_Machine_operand_22 (by decide) ?_
  exact me_retl (me_kp M0) h hx hb hr hlocks hwf hkp hP hK hD hS d_Machine_operand_32
theorem d_Machine_reckonedWide_0 : decode prog_7_method_9_code 0 = .ok (.iload_n 1, 1) := by decide +kernel
theorem d_Machine_reckonedWide_1 : decode prog_7_method_9_code 1 = .ok (.tableswitch 181 0 14 #[75, 80, 85, 90, 97, 109, 114, 119, 124, 134, 144, 154, 181, 157, 165], 75) := by decide +kernel
theorem d_Machine_reckonedWide_76 : decode prog_7_method_9_code 76 = .ok (.lload_n 2, 1) := by decide +kernel
theorem d_Machine_reckonedWide_77 : decode prog_7_method_9_code 77 = .ok (.lload 4, 2) := by decide +kernel
theorem d_Machine_reckonedWide_79 : decode prog_7_method_9_code 79 = .ok (.ladd, 1) := by decide +kernel
theorem d_Machine_reckonedWide_80 : decode prog_7_method_9_code 80 = .ok (.lreturn, 1) := by decide +kernel
theorem d_Machine_reckonedWide_81 : decode prog_7_method_9_code 81 = .ok (.lload_n 2, 1) := by decide +kernel
theorem d_Machine_reckonedWide_82 : decode prog_7_method_9_code 82 = .ok (.lload 4, 2) := by decide +kernel
theorem d_Machine_reckonedWide_84 : decode prog_7_method_9_code 84 = .ok (.lsub, 1) := by decide +kernel
theorem d_Machine_reckonedWide_85 : decode prog_7_method_9_code 85 = .ok (.lreturn, 1) := by decide +kernel
theorem d_Machine_reckonedWide_86 : decode prog_7_method_9_code 86 = .ok (.lload_n 2, 1) := by decide +kernel
theorem d_Machine_reckonedWide_87 : decode prog_7_method_9_code 87 = .ok (.lload 4, 2) := by decide +kernel
theorem d_Machine_reckonedWide_89 : decode prog_7_method_9_code 89 = .ok (.lmul, 1) := by decide +kernel
theorem d_Machine_reckonedWide_90 : decode prog_7_method_9_code 90 = .ok (.lreturn, 1) := by decide +kernel
theorem d_Machine_reckonedWide_91 : decode prog_7_method_9_code 91 = .ok (.lload_n 2, 1) := by decide +kernel
theorem d_Machine_reckonedWide_92 : decode prog_7_method_9_code 92 = .ok (.lload 4, 2) := by decide +kernel
theorem d_Machine_reckonedWide_94 : decode prog_7_method_9_code 94 = .ok (.invokestatic 188, 3) := by decide +kernel
theorem u_1668 : Cond.methodLink "FilterGuard$Machine" 188 ⟨"FilterGuard$Reckoner", "quotient", "(JJ)J"⟩ ∈ fg_g := fg_in (List.mem_of_getElem? (i := 1668) (by decide +kernel)) rfl
theorem d_Machine_reckonedWide_97 : decode prog_7_method_9_code 97 = .ok (.lreturn, 1) := by decide +kernel
theorem d_Machine_reckonedWide_98 : decode prog_7_method_9_code 98 = .ok (.lload_n 2, 1) := by decide +kernel
theorem d_Machine_reckonedWide_99 : decode prog_7_method_9_code 99 = .ok (.lload_n 2, 1) := by decide +kernel
theorem d_Machine_reckonedWide_100 : decode prog_7_method_9_code 100 = .ok (.lload 4, 2) := by decide +kernel
theorem d_Machine_reckonedWide_102 : decode prog_7_method_9_code 102 = .ok (.invokestatic 188, 3) := by decide +kernel
theorem d_Machine_reckonedWide_105 : decode prog_7_method_9_code 105 = .ok (.lload 4, 2) := by decide +kernel
theorem d_Machine_reckonedWide_107 : decode prog_7_method_9_code 107 = .ok (.lmul, 1) := by decide +kernel
theorem d_Machine_reckonedWide_108 : decode prog_7_method_9_code 108 = .ok (.lsub, 1) := by decide +kernel
theorem d_Machine_reckonedWide_109 : decode prog_7_method_9_code 109 = .ok (.lreturn, 1) := by decide +kernel
theorem d_Machine_reckonedWide_110 : decode prog_7_method_9_code 110 = .ok (.lload_n 2, 1) := by decide +kernel
theorem d_Machine_reckonedWide_111 : decode prog_7_method_9_code 111 = .ok (.lload 4, 2) := by decide +kernel
theorem d_Machine_reckonedWide_113 : decode prog_7_method_9_code 113 = .ok (.land, 1) := by decide +kernel
theorem d_Machine_reckonedWide_114 : decode prog_7_method_9_code 114 = .ok (.lreturn, 1) := by decide +kernel
theorem d_Machine_reckonedWide_115 : decode prog_7_method_9_code 115 = .ok (.lload_n 2, 1) := by decide +kernel
theorem d_Machine_reckonedWide_116 : decode prog_7_method_9_code 116 = .ok (.lload 4, 2) := by decide +kernel
theorem d_Machine_reckonedWide_118 : decode prog_7_method_9_code 118 = .ok (.lor, 1) := by decide +kernel
theorem d_Machine_reckonedWide_119 : decode prog_7_method_9_code 119 = .ok (.lreturn, 1) := by decide +kernel
theorem d_Machine_reckonedWide_120 : decode prog_7_method_9_code 120 = .ok (.lload_n 2, 1) := by decide +kernel
theorem d_Machine_reckonedWide_121 : decode prog_7_method_9_code 121 = .ok (.lload 4, 2) := by decide +kernel
theorem d_Machine_reckonedWide_123 : decode prog_7_method_9_code 123 = .ok (.lxor, 1) := by decide +kernel
theorem d_Machine_reckonedWide_124 : decode prog_7_method_9_code 124 = .ok (.lreturn, 1) := by decide +kernel
theorem d_Machine_reckonedWide_125 : decode prog_7_method_9_code 125 = .ok (.lload_n 2, 1) := by decide +kernel
theorem d_Machine_reckonedWide_126 : decode prog_7_method_9_code 126 = .ok (.lload 4, 2) := by decide +kernel
theorem d_Machine_reckonedWide_128 : decode prog_7_method_9_code 128 = .ok (.ldc2_w 193, 3) := by decide +kernel
theorem u_1669 : Cond.constantLong "FilterGuard$Machine" 193 63 ∈ fg_g := fg_in (List.mem_of_getElem? (i := 1669) (by decide +kernel)) rfl
theorem d_Machine_reckonedWide_131 : decode prog_7_method_9_code 131 = .ok (.land, 1) := by decide +kernel
theorem d_Machine_reckonedWide_132 : decode prog_7_method_9_code 132 = .ok (.l2i, 1) := by decide +kernel
theorem d_Machine_reckonedWide_133 : decode prog_7_method_9_code 133 = .ok (.lshl, 1) := by decide +kernel
theorem d_Machine_reckonedWide_134 : decode prog_7_method_9_code 134 = .ok (.lreturn, 1) := by decide +kernel
theorem d_Machine_reckonedWide_135 : decode prog_7_method_9_code 135 = .ok (.lload_n 2, 1) := by decide +kernel
theorem d_Machine_reckonedWide_136 : decode prog_7_method_9_code 136 = .ok (.lload 4, 2) := by decide +kernel
theorem d_Machine_reckonedWide_138 : decode prog_7_method_9_code 138 = .ok (.ldc2_w 193, 3) := by decide +kernel
theorem d_Machine_reckonedWide_141 : decode prog_7_method_9_code 141 = .ok (.land, 1) := by decide +kernel
theorem d_Machine_reckonedWide_142 : decode prog_7_method_9_code 142 = .ok (.l2i, 1) := by decide +kernel
theorem d_Machine_reckonedWide_143 : decode prog_7_method_9_code 143 = .ok (.lushr, 1) := by decide +kernel
theorem d_Machine_reckonedWide_144 : decode prog_7_method_9_code 144 = .ok (.lreturn, 1) := by decide +kernel
theorem d_Machine_reckonedWide_145 : decode prog_7_method_9_code 145 = .ok (.lload_n 2, 1) := by decide +kernel
theorem d_Machine_reckonedWide_146 : decode prog_7_method_9_code 146 = .ok (.lload 4, 2) := by decide +kernel
theorem d_Machine_reckonedWide_148 : decode prog_7_method_9_code 148 = .ok (.ldc2_w 193, 3) := by decide +kernel
theorem d_Machine_reckonedWide_151 : decode prog_7_method_9_code 151 = .ok (.land, 1) := by decide +kernel
theorem d_Machine_reckonedWide_152 : decode prog_7_method_9_code 152 = .ok (.l2i, 1) := by decide +kernel
theorem d_Machine_reckonedWide_153 : decode prog_7_method_9_code 153 = .ok (.lshr, 1) := by decide +kernel
theorem d_Machine_reckonedWide_154 : decode prog_7_method_9_code 154 = .ok (.lreturn, 1) := by decide +kernel
theorem d_Machine_reckonedWide_155 : decode prog_7_method_9_code 155 = .ok (.lload_n 2, 1) := by decide +kernel
theorem d_Machine_reckonedWide_156 : decode prog_7_method_9_code 156 = .ok (.lneg, 1) := by decide +kernel
theorem d_Machine_reckonedWide_157 : decode prog_7_method_9_code 157 = .ok (.lreturn, 1) := by decide +kernel
theorem d_Machine_reckonedWide_182 : decode prog_7_method_9_code 182 = .ok (.lload 4, 2) := by decide +kernel
theorem d_Machine_reckonedWide_184 : decode prog_7_method_9_code 184 = .ok (.lreturn, 1) := by decide +kernel
theorem d_Machine_reckonedWide_158 : decode prog_7_method_9_code 158 = .ok (.lload_n 2, 1) := by decide +kernel
theorem d_Machine_reckonedWide_159 : decode prog_7_method_9_code 159 = .ok (.lload 4, 2) := by decide +kernel
theorem d_Machine_reckonedWide_161 : decode prog_7_method_9_code 161 = .ok (.l2i, 1) := by decide +kernel
theorem d_Machine_reckonedWide_162 : decode prog_7_method_9_code 162 = .ok (.invokestatic 195, 3) := by decide +kernel
theorem u_1670 : Cond.methodLink "FilterGuard$Machine" 195 ⟨"FilterGuard$Reckoner", "swapped", "(JI)J"⟩ ∈ fg_g := fg_in (List.mem_of_getElem? (i := 1670) (by decide +kernel)) rfl
theorem d_Machine_reckonedWide_165 : decode prog_7_method_9_code 165 = .ok (.lreturn, 1) := by decide +kernel
theorem d_Machine_reckonedWide_166 : decode prog_7_method_9_code 166 = .ok (.lload_n 2, 1) := by decide +kernel
theorem d_Machine_reckonedWide_167 : decode prog_7_method_9_code 167 = .ok (.ldc2_w 199, 3) := by decide +kernel
theorem u_1671 : Cond.constantLong "FilterGuard$Machine" 199 (-1) ∈ fg_g := fg_in (List.mem_of_getElem? (i := 1671) (by decide +kernel)) rfl
theorem d_Machine_reckonedWide_170 : decode prog_7_method_9_code 170 = .ok (.bipush 64, 2) := by decide +kernel
theorem d_Machine_reckonedWide_172 : decode prog_7_method_9_code 172 = .ok (.bipush 8, 2) := by decide +kernel
theorem d_Machine_reckonedWide_174 : decode prog_7_method_9_code 174 = .ok (.lload 4, 2) := by decide +kernel
theorem d_Machine_reckonedWide_176 : decode prog_7_method_9_code 176 = .ok (.l2i, 1) := by decide +kernel
theorem d_Machine_reckonedWide_177 : decode prog_7_method_9_code 177 = .ok (.imul, 1) := by decide +kernel
theorem d_Machine_reckonedWide_178 : decode prog_7_method_9_code 178 = .ok (.isub, 1) := by decide +kernel
theorem d_Machine_reckonedWide_179 : decode prog_7_method_9_code 179 = .ok (.lushr, 1) := by decide +kernel
theorem d_Machine_reckonedWide_180 : decode prog_7_method_9_code 180 = .ok (.land, 1) := by decide +kernel
theorem d_Machine_reckonedWide_181 : decode prog_7_method_9_code 181 = .ok (.lreturn, 1) := by decide +kernel
abbrev y_Machine_reckonedWide : MethodName := ⟨"FilterGuard$Machine", "reckonedWide", "(IJJ)J"⟩
def rm_Machine_reckonedWide : Room := { frames := 2, cells := 0, slots := 0, locals := 47 }
abbrev q_Machine_reckonedWide (D : va_G) (ad : Nat → Nat → Nat) (ca : Nat → ClassId) (N : Nat → Nat) (M0 MZ : me_M) (RZ : Int64) (A : Nat → Prop) : Array Value → Jvm.State → Outcome → Jvm.State → Prop := va_Ql (fun r (_ : Unit) => r = RZ ∧ me_wf N MZ ∧ me_kp M0 MZ) (fg_B D A (fun _ => me_W ad ca MZ) (fun _ => [])) A
set_option maxHeartbeats 4000000 in
set_option maxRecDepth 100000 in
theorem c_Machine_reckonedWide (l : Launch) (D : va_G) (ad : Nat → Nat → Nat) (ca : Nat → ClassId) (N : Nat → Nat) (M0 MZ : me_M) (RZ : Int64) (j0 : Nat) (x1 : Int32) (x2 : Int64) (x4 : Int64) (h : f_Machine_reckonedWide M0 j0 x1 x2 x4 = (some (MZ, RZ))) (hwf : me_wf N M0) (hj0 : j0 < N 5) (sz : Nat) : Met l y_Machine_reckonedWide (fg_w y_Machine_reckonedWide prog_7_method_9_code 6 (some .long)) rm_Machine_reckonedWide (va_Pc [.ref (ad 5 j0), .int x1, .long x2, .long x4] (fz_P D (me_T ca) (me_W ad ca M0) sz)) (q_Machine_reckonedWide D ad ca N M0 MZ RZ (va_A (me_W ad ca M0) sz)) rm_Machine_reckonedWide.cells rm_Machine_reckonedWide.slots (va_A (me_W ad ca M0) sz) := by
  refine fz_enter (fun A => q_Machine_reckonedWide D ad ca N M0 MZ RZ A) (by decide +kernel) (Nat.le_of_ble_eq_true rfl) ?_
  intro p e s m below meth c ls A hx hb hml hown hts hr hlocks hin hP hK hD hS hA hX hl hz
  have hl : lv_has ls 6 [(0, .ref (ad 5 j0)), (1, .int x1), (2, .long x2), (4, .long x4)] := hl
  unfold f_Machine_reckonedWide at h
  have hkp : me_kp M0 M0 := me_kp.rf
  have hkb := hkp
  refine lv_iload_n hx hb d_Machine_reckonedWide_0 rfl (lv_at hl 1 rfl) ?_
  refine lv_topi (fun w1 ew1 => ?_)
  by_cases n2 : w1 = 0
  · have h := if_t (ew1.symm.trans n2) h
    subst n2
    refine lv_tableIn (off := 75) (tgt := 76) hx hb d_Machine_reckonedWide_1 (by decide) (by decide) (by decide) (by decide) ?_
    refine lv_lload_n hx hb d_Machine_reckonedWide_76 rfl (lv_at hl 2 rfl) ?_
    refine lv_lload hx hb d_Machine_reckonedWide_77 (lv_at hl 3 rfl) ?_
    refine lv_ladd hx hb d_Machine_reckonedWide_79 ?_
    exact me_retl (me_kp M0) h hx hb hr hlocks hwf hkp hP hK hD hS d_Machine_reckonedWide_80
  have h := if_f (fun z => n2 (ew1.trans z)) h
  by_cases n3 : w1 = 1
  · have h := if_t (ew1.symm.trans n3) h
    subst n3
    refine lv_tableIn (off := 80) (tgt := 81) hx hb d_Machine_reckonedWide_1 (by decide) (by decide) (by decide) (by decide) ?_
    refine lv_lload_n hx hb d_Machine_reckonedWide_81 rfl (lv_at hl 2 rfl) ?_
    refine lv_lload hx hb d_Machine_reckonedWide_82 (lv_at hl 3 rfl) ?_
    refine lv_lsub hx hb d_Machine_reckonedWide_84 ?_
    exact me_retl (me_kp M0) h hx hb hr hlocks hwf hkp hP hK hD hS d_Machine_reckonedWide_85
  have h := if_f (fun z => n3 (ew1.trans z)) h
  by_cases n4 : w1 = 2
  · have h := if_t (ew1.symm.trans n4) h
    subst n4
    refine lv_tableIn (off := 85) (tgt := 86) hx hb d_Machine_reckonedWide_1 (by decide) (by decide) (by decide) (by decide) ?_
    refine lv_lload_n hx hb d_Machine_reckonedWide_86 rfl (lv_at hl 2 rfl) ?_
    refine lv_lload hx hb d_Machine_reckonedWide_87 (lv_at hl 3 rfl) ?_
    refine lv_lmul hx hb d_Machine_reckonedWide_89 ?_
    exact me_retl (me_kp M0) h hx hb hr hlocks hwf hkp hP hK hD hS d_Machine_reckonedWide_90
  have h := if_f (fun z => n4 (ew1.trans z)) h
  by_cases n5 : w1 = 3
  · have h := if_t (ew1.symm.trans n5) h
    subst n5
    refine lv_tableIn (off := 90) (tgt := 91) hx hb d_Machine_reckonedWide_1 (by decide) (by decide) (by decide) (by decide) ?_
    refine lv_lload_n hx hb d_Machine_reckonedWide_91 rfl (lv_at hl 2 rfl) ?_
    refine lv_lload hx hb d_Machine_reckonedWide_92 (lv_at hl 3 rfl) ?_
    obtain ⟨r6, er6, h⟩ := bd_ob h
    refine me_panl' (r0 := r6) (fg_runS (wc := []) (tc := []) (A2 := A) (As := [.long x2, .long x4]) (rest := []) ⟨hx, hb, hml, hown, hts⟩ (c_Reckoner_quotient l D r6 x2 x4 er6 _) (by show fg_nm y_Reckoner_quotient 2; decide +kernel) u_1668 u_1182 u_186 u_1183 ⟨Nat.le_of_ble_eq_true rfl, Nat.le_of_ble_eq_true rfl⟩ hX me_P0 (hK.sub (tys' := []) [] rfl) me_D0 rfl hl.1 (Nat.le_of_ble_eq_true rfl) d_Machine_reckonedWide_94 ⟨Nat.le_of_ble_eq_true rfl, Nat.le_of_ble_eq_true rfl⟩) hP hD hK hS hA rfl rfl (fun H locs hw hP hD hS => ?_)
    exact me_retl (me_kp M0) h hx hb hr hlocks hwf hkp hP hK hD hS d_Machine_reckonedWide_97
  have h := if_f (fun z => n5 (ew1.trans z)) h
  by_cases n7 : w1 = 4
  · have h := if_t (ew1.symm.trans n7) h
    subst n7
    refine lv_tableIn (off := 97) (tgt := 98) hx hb d_Machine_reckonedWide_1 (by decide) (by decide) (by decide) (by decide) ?_
    refine lv_lload_n hx hb d_Machine_reckonedWide_98 rfl (lv_at hl 2 rfl) ?_
    refine lv_lload_n hx hb d_Machine_reckonedWide_99 rfl (lv_at hl 2 rfl) ?_
    refine lv_lload hx hb d_Machine_reckonedWide_100 (lv_at hl 3 rfl) ?_
    obtain ⟨r8, er8, h⟩ := bd_ob h
    refine me_panl' (r0 := r8) (fg_runS (wc := []) (tc := []) (A2 := A) (As := [.long x2, .long x4]) (rest := [.long x2]) ⟨hx, hb, hml, hown, hts⟩ (c_Reckoner_quotient l D r8 x2 x4 er8 _) (by show fg_nm y_Reckoner_quotient 2; decide +kernel) u_1668 u_1182 u_186 u_1183 ⟨Nat.le_of_ble_eq_true rfl, Nat.le_of_ble_eq_true rfl⟩ hX me_P0 (hK.sub (tys' := []) [] rfl) me_D0 rfl hl.1 (Nat.le_of_ble_eq_true rfl) d_Machine_reckonedWide_102 ⟨Nat.le_of_ble_eq_true rfl, Nat.le_of_ble_eq_true rfl⟩) hP hD hK hS hA rfl rfl (fun H locs hw hP hD hS => ?_)
    refine lv_lload hx hb d_Machine_reckonedWide_105 (lv_at hl 3 rfl) ?_
    refine lv_lmul hx hb d_Machine_reckonedWide_107 ?_
    refine lv_lsub hx hb d_Machine_reckonedWide_108 ?_
    exact me_retl (me_kp M0) h hx hb hr hlocks hwf hkp hP hK hD hS d_Machine_reckonedWide_109
  have h := if_f (fun z => n7 (ew1.trans z)) h
  by_cases n9 : w1 = 5
  · have h := if_t (ew1.symm.trans n9) h
    subst n9
    refine lv_tableIn (off := 109) (tgt := 110) hx hb d_Machine_reckonedWide_1 (by decide) (by decide) (by decide) (by decide) ?_
    refine lv_lload_n hx hb d_Machine_reckonedWide_110 rfl (lv_at hl 2 rfl) ?_
    refine lv_lload hx hb d_Machine_reckonedWide_111 (lv_at hl 3 rfl) ?_
    refine lv_land hx hb d_Machine_reckonedWide_113 ?_
    exact me_retl (me_kp M0) h hx hb hr hlocks hwf hkp hP hK hD hS d_Machine_reckonedWide_114
  have h := if_f (fun z => n9 (ew1.trans z)) h
  by_cases n10 : w1 = 6
  · have h := if_t (ew1.symm.trans n10) h
    subst n10
    refine lv_tableIn (off := 114) (tgt := 115) hx hb d_Machine_reckonedWide_1 (by decide) (by decide) (by decide) (by decide) ?_
    refine lv_lload_n hx hb d_Machine_reckonedWide_115 rfl (lv_at hl 2 rfl) ?_
    refine lv_lload hx hb d_Machine_reckonedWide_116 (lv_at hl 3 rfl) ?_
    refine lv_lor hx hb d_Machine_reckonedWide_118 ?_
    exact me_retl (me_kp M0) h hx hb hr hlocks hwf hkp hP hK hD hS d_Machine_reckonedWide_119
  have h := if_f (fun z => n10 (ew1.trans z)) h
  by_cases n11 : w1 = 7
  · have h := if_t (ew1.symm.trans n11) h
    subst n11
    refine lv_tableIn (off := 119) (tgt := 120) hx hb d_Machine_reckonedWide_1 (by decide) (by decide) (by decide) (by decide) ?_
    refine lv_lload_n hx hb d_Machine_reckonedWide_120 rfl (lv_at hl 2 rfl) ?_
    refine lv_lload hx hb d_Machine_reckonedWide_121 (lv_at hl 3 rfl) ?_
    refine lv_lxor hx hb d_Machine_reckonedWide_123 ?_
    exact me_retl (me_kp M0) h hx hb hr hlocks hwf hkp hP hK hD hS d_Machine_reckonedWide_124
  have h := if_f (fun z => n11 (ew1.trans z)) h
  by_cases n12 : w1 = 8
  · have h := if_t (ew1.symm.trans n12) h
    subst n12
    refine lv_tableIn (off := 124) (tgt := 125) hx hb d_Machine_reckonedWide_1 (by decide) (by decide) (by decide) (by decide) ?_
    refine lv_lload_n hx hb d_Machine_reckonedWide_125 rfl (lv_at hl 2 rfl) ?_
    refine lv_lload hx hb d_Machine_reckonedWide_126 (lv_at hl 3 rfl) ?_
    refine lv_ldc2 hx hb hown (hts _ u_1669) d_Machine_reckonedWide_128 ?_
    refine lv_land hx hb d_Machine_reckonedWide_131 ?_
    refine lv_l2i (v := (x4 &&& 63).toInt32) hx hb d_Machine_reckonedWide_132 rfl ?_
    refine lv_lshl (v := jlshl x2 ((x4 &&& 63).toInt32)) hx hb d_Machine_reckonedWide_133 rfl ?_
    exact me_retl (me_kp M0) h hx hb hr hlocks hwf hkp hP hK hD hS d_Machine_reckonedWide_134
  have h := if_f (fun z => n12 (ew1.trans z)) h
  by_cases n13 : w1 = 9
  · have h := if_t (ew1.symm.trans n13) h
    subst n13
    refine lv_tableIn (off := 134) (tgt := 135) hx hb d_Machine_reckonedWide_1 (by decide) (by decide) (by decide) (by decide) ?_
    refine lv_lload_n hx hb d_Machine_reckonedWide_135 rfl (lv_at hl 2 rfl) ?_
    refine lv_lload hx hb d_Machine_reckonedWide_136 (lv_at hl 3 rfl) ?_
    refine lv_ldc2 hx hb hown (hts _ u_1669) d_Machine_reckonedWide_138 ?_
    refine lv_land hx hb d_Machine_reckonedWide_141 ?_
    refine lv_l2i (v := (x4 &&& 63).toInt32) hx hb d_Machine_reckonedWide_142 rfl ?_
    refine lv_lushr (v := jlushr x2 ((x4 &&& 63).toInt32)) hx hb d_Machine_reckonedWide_143 rfl ?_
    exact me_retl (me_kp M0) h hx hb hr hlocks hwf hkp hP hK hD hS d_Machine_reckonedWide_144
  have h := if_f (fun z => n13 (ew1.trans z)) h
  by_cases n14 : w1 = 10
  · have h := if_t (ew1.symm.trans n14) h
    subst n14
    refine lv_tableIn (off := 144) (tgt := 145) hx hb d_Machine_reckonedWide_1 (by decide) (by decide) (by decide) (by decide) ?_
    refine lv_lload_n hx hb d_Machine_reckonedWide_145 rfl (lv_at hl 2 rfl) ?_
    refine lv_lload hx hb d_Machine_reckonedWide_146 (lv_at hl 3 rfl) ?_
    refine lv_ldc2 hx hb hown (hts _ u_1669) d_Machine_reckonedWide_148 ?_
    refine lv_land hx hb d_Machine_reckonedWide_151 ?_
    refine lv_l2i (v := (x4 &&& 63).toInt32) hx hb d_Machine_reckonedWide_152 rfl ?_
    refine lv_lshr (v := jlshr x2 ((x4 &&& 63).toInt32)) hx hb d_Machine_reckonedWide_153 rfl ?_
    exact me_retl (me_kp M0) h hx hb hr hlocks hwf hkp hP hK hD hS d_Machine_reckonedWide_154
  have h := if_f (fun z => n14 (ew1.trans z)) h
  by_cases n15 : w1 = 11
  · have h := if_t (ew1.symm.trans n15) h
    subst n15
    refine lv_tableIn (off := 154) (tgt := 155) hx hb d_Machine_reckonedWide_1 (by decide) (by decide) (by decide) (by decide) ?_
    refine lv_lload_n hx hb d_Machine_reckonedWide_155 rfl (lv_at hl 2 rfl) ?_
    refine lv_lneg hx hb d_Machine_reckonedWide_156 ?_
    exact me_retl (me_kp M0) h hx hb hr hlocks hwf hkp hP hK hD hS d_Machine_reckonedWide_157
  have h := if_f (fun z => n15 (ew1.trans z)) h
  by_cases n16 : w1 = 12
  · have h := if_t (ew1.symm.trans n16) h
    subst n16
    refine lv_tableIn (off := 181) (tgt := 182) hx hb d_Machine_reckonedWide_1 (by decide) (by decide) (by decide) (by decide) ?_
    refine lv_lload hx hb d_Machine_reckonedWide_182 (lv_at hl 3 rfl) ?_
    exact me_retl (me_kp M0) h hx hb hr hlocks hwf hkp hP hK hD hS d_Machine_reckonedWide_184
  have h := if_f (fun z => n16 (ew1.trans z)) h
  by_cases n17 : w1 = 13
  · have h := if_t (ew1.symm.trans n17) h
    subst n17
    refine lv_tableIn (off := 157) (tgt := 158) hx hb d_Machine_reckonedWide_1 (by decide) (by decide) (by decide) (by decide) ?_
    refine lv_lload_n hx hb d_Machine_reckonedWide_158 rfl (lv_at hl 2 rfl) ?_
    refine lv_lload hx hb d_Machine_reckonedWide_159 (lv_at hl 3 rfl) ?_
    refine lv_l2i (v := x4.toInt32) hx hb d_Machine_reckonedWide_161 rfl ?_
    obtain ⟨r18, er18, h⟩ := bd_ob h
    refine me_panl' (r0 := r18) (fg_runS (wc := []) (tc := []) (A2 := A) (As := [.long x2, .int x4.toInt32]) (rest := []) ⟨hx, hb, hml, hown, hts⟩ (c_Reckoner_swapped l D r18 x2 x4.toInt32 er18 _) (by show fg_nm y_Reckoner_swapped 2; decide +kernel) u_1670 u_1213 u_186 u_1214 ⟨Nat.le_of_ble_eq_true rfl, Nat.le_of_ble_eq_true rfl⟩ hX me_P0 (hK.sub (tys' := []) [] rfl) me_D0 rfl hl.1 (Nat.le_of_ble_eq_true rfl) d_Machine_reckonedWide_162 ⟨Nat.le_of_ble_eq_true rfl, Nat.le_of_ble_eq_true rfl⟩) hP hD hK hS hA rfl rfl (fun H locs hw hP hD hS => ?_)
    exact me_retl (me_kp M0) h hx hb hr hlocks hwf hkp hP hK hD hS d_Machine_reckonedWide_165
  have h := if_f (fun z => n17 (ew1.trans z)) h
  by_cases n19 : w1 = 14
  · have h := if_t (ew1.symm.trans n19) h
    subst n19
    refine lv_tableIn (off := 165) (tgt := 166) hx hb d_Machine_reckonedWide_1 (by decide) (by decide) (by decide) (by decide) ?_
    refine lv_lload_n hx hb d_Machine_reckonedWide_166 rfl (lv_at hl 2 rfl) ?_
    refine lv_ldc2 hx hb hown (hts _ u_1671) d_Machine_reckonedWide_167 ?_
    refine lv_bipush (v := 64) hx hb d_Machine_reckonedWide_170 (by decide) ?_
    refine lv_bipush (v := 8) hx hb d_Machine_reckonedWide_172 (by decide) ?_
    refine lv_lload hx hb d_Machine_reckonedWide_174 (lv_at hl 3 rfl) ?_
    refine lv_l2i (v := x4.toInt32) hx hb d_Machine_reckonedWide_176 rfl ?_
    refine lv_imul hx hb d_Machine_reckonedWide_177 ?_
    refine lv_isub hx hb d_Machine_reckonedWide_178 ?_
    refine lv_lushr (v := jlushr (-1 : Int64) (64 - (8 * x4.toInt32))) hx hb d_Machine_reckonedWide_179 rfl ?_
    refine lv_land hx hb d_Machine_reckonedWide_180 ?_
    exact me_retl (me_kp M0) h hx hb hr hlocks hwf hkp hP hK hD hS d_Machine_reckonedWide_181
  have h := if_f (fun z => n19 (ew1.trans z)) h
  have in2 := lv_neT n2 (show (0 : Int32).toInt = 0 from rfl)
  have in3 := lv_neT n3 (show (1 : Int32).toInt = 1 from rfl)
  have in4 := lv_neT n4 (show (2 : Int32).toInt = 2 from rfl)
  have in5 := lv_neT n5 (show (3 : Int32).toInt = 3 from rfl)
  have in7 := lv_neT n7 (show (4 : Int32).toInt = 4 from rfl)
  have in9 := lv_neT n9 (show (5 : Int32).toInt = 5 from rfl)
  have in10 := lv_neT n10 (show (6 : Int32).toInt = 6 from rfl)
  have in11 := lv_neT n11 (show (7 : Int32).toInt = 7 from rfl)
  have in12 := lv_neT n12 (show (8 : Int32).toInt = 8 from rfl)
  have in13 := lv_neT n13 (show (9 : Int32).toInt = 9 from rfl)
  have in14 := lv_neT n14 (show (10 : Int32).toInt = 10 from rfl)
  have in15 := lv_neT n15 (show (11 : Int32).toInt = 11 from rfl)
  have in16 := lv_neT n16 (show (12 : Int32).toInt = 12 from rfl)
  have in17 := lv_neT n17 (show (13 : Int32).toInt = 13 from rfl)
  have in19 := lv_neT n19 (show (14 : Int32).toInt = 14 from rfl)
  refine lv_tableOut (tgt := 182) hx hb d_Machine_reckonedWide_1 (by omega) (by decide) ?_
  refine lv_lload hx hb d_Machine_reckonedWide_182 (lv_at hl 3 rfl) ?_
  exact me_retl (me_kp M0) h hx hb hr hlocks hwf hkp hP hK hD hS d_Machine_reckonedWide_184
theorem d_Machine_reckoned_67 : decode prog_7_method_8_code 67 = .ok (.lstore 7, 2) := by decide +kernel
theorem d_Machine_reckoned_69 : decode prog_7_method_8_code 69 = .ok (.aload_n 0, 1) := by decide +kernel
theorem d_Machine_reckoned_70 : decode prog_7_method_8_code 70 = .ok (.iload 5, 2) := by decide +kernel
theorem d_Machine_reckoned_72 : decode prog_7_method_8_code 72 = .ok (.lload 7, 2) := by decide +kernel
theorem d_Machine_reckoned_74 : decode prog_7_method_8_code 74 = .ok (.iload 6, 2) := by decide +kernel
theorem d_Machine_reckoned_76 : decode prog_7_method_8_code 76 = .ok (.ifCond .eq 11, 3) := by decide +kernel
theorem d_Machine_reckoned_87 : decode prog_7_method_8_code 87 = .ok (.lload_n 3, 1) := by decide +kernel
theorem d_Machine_reckoned_88 : decode prog_7_method_8_code 88 = .ok (.ldc2_w 184, 3) := by decide +kernel
theorem u_1672 : Cond.constantLong "FilterGuard$Machine" 184 4294967295 ∈ fg_g := fg_in (List.mem_of_getElem? (i := 1672) (by decide +kernel)) rfl
theorem d_Machine_reckoned_91 : decode prog_7_method_8_code 91 = .ok (.land, 1) := by decide +kernel
theorem d_Machine_reckoned_92 : decode prog_7_method_8_code 92 = .ok (.invokevirtual 180, 3) := by decide +kernel
theorem u_1664 : Cond.methodLink "FilterGuard$Machine" 180 ⟨"FilterGuard$Machine", "reckonedWide", "(IJJ)J"⟩ ∈ fg_g := fg_in (List.mem_of_getElem? (i := 1664) (by decide +kernel)) rfl
theorem u_1667 : Cond.code ⟨"FilterGuard$Machine", "reckonedWide", "(IJJ)J"⟩ prog_7_method_9_code 6 (some .long) ∈ fg_g := fg_in (List.mem_of_getElem? (i := 1667) (by decide +kernel)) rfl
theorem u_1666 : Cond.instanceMethod ⟨"FilterGuard$Machine", "reckonedWide", "(IJJ)J"⟩ ∈ fg_g := fg_in (List.mem_of_getElem? (i := 1666) (by decide +kernel)) rfl
theorem u_76 : Cond.selects "FilterGuard$Machine" ⟨"FilterGuard$Machine", "reckonedWide", "(IJJ)J"⟩ ⟨"FilterGuard$Machine", "reckonedWide", "(IJJ)J"⟩ ∈ fg_g := fg_in (List.mem_of_getElem? (i := 76) (by decide +kernel)) rfl
theorem d_Machine_reckoned_95 : decode prog_7_method_8_code 95 = .ok (.ldc2_w 184, 3) := by decide +kernel
theorem d_Machine_reckoned_98 : decode prog_7_method_8_code 98 = .ok (.land, 1) := by decide +kernel
theorem d_Machine_reckoned_99 : decode prog_7_method_8_code 99 = .ok (.lreturn, 1) := by decide +kernel
theorem d_Machine_reckoned_79 : decode prog_7_method_8_code 79 = .ok (.lload_n 3, 1) := by decide +kernel
theorem d_Machine_reckoned_80 : decode prog_7_method_8_code 80 = .ok (.ldc2_w 186, 3) := by decide +kernel
theorem u_1673 : Cond.constantLong "FilterGuard$Machine" 186 31 ∈ fg_g := fg_in (List.mem_of_getElem? (i := 1673) (by decide +kernel)) rfl
theorem d_Machine_reckoned_83 : decode prog_7_method_8_code 83 = .ok (.land, 1) := by decide +kernel
theorem d_Machine_reckoned_84 : decode prog_7_method_8_code 84 = .ok (.goto 8, 3) := by decide +kernel
theorem d_Machine_reckoned_47 : decode prog_7_method_8_code 47 = .ok (.istore 6, 2) := by decide +kernel
theorem d_Machine_reckoned_49 : decode prog_7_method_8_code 49 = .ok (.iload 5, 2) := by decide +kernel
theorem d_Machine_reckoned_51 : decode prog_7_method_8_code 51 = .ok (.bipush 10, 2) := by decide +kernel
theorem d_Machine_reckoned_53 : decode prog_7_method_8_code 53 = .ok (.if_icmp .ne 9, 3) := by decide +kernel
theorem d_Machine_reckoned_62 : decode prog_7_method_8_code 62 = .ok (.lload_n 1, 1) := by decide +kernel
theorem d_Machine_reckoned_63 : decode prog_7_method_8_code 63 = .ok (.ldc2_w 184, 3) := by decide +kernel
theorem d_Machine_reckoned_66 : decode prog_7_method_8_code 66 = .ok (.land, 1) := by decide +kernel
theorem d_Machine_reckoned_56 : decode prog_7_method_8_code 56 = .ok (.lload_n 1, 1) := by decide +kernel
theorem d_Machine_reckoned_57 : decode prog_7_method_8_code 57 = .ok (.l2i, 1) := by decide +kernel
theorem d_Machine_reckoned_58 : decode prog_7_method_8_code 58 = .ok (.i2l, 1) := by decide +kernel
theorem d_Machine_reckoned_59 : decode prog_7_method_8_code 59 = .ok (.goto 8, 3) := by decide +kernel
theorem d_Machine_reckoned_46 : decode prog_7_method_8_code 46 = .ok (.iconst 0, 1) := by decide +kernel
theorem d_Machine_reckoned_0 : decode prog_7_method_8_code 0 = .ok (.aload_n 0, 1) := by decide +kernel
theorem d_Machine_reckoned_1 : decode prog_7_method_8_code 1 = .ok (.getfield 48, 3) := by decide +kernel
theorem d_Machine_reckoned_4 : decode prog_7_method_8_code 4 = .ok (.getfield 174, 3) := by decide +kernel
theorem u_264 : Cond.fieldLink "FilterGuard$Machine" 174 "FilterGuard$Code" "operation" "I" ∈ fg_g := fg_in (List.mem_of_getElem? (i := 264) (by decide +kernel)) rfl
theorem d_Machine_reckoned_7 : decode prog_7_method_8_code 7 = .ok (.istore 5, 2) := by decide +kernel
theorem d_Machine_reckoned_9 : decode prog_7_method_8_code 9 = .ok (.aload_n 0, 1) := by decide +kernel
theorem d_Machine_reckoned_10 : decode prog_7_method_8_code 10 = .ok (.getfield 48, 3) := by decide +kernel
theorem d_Machine_reckoned_13 : decode prog_7_method_8_code 13 = .ok (.getfield 177, 3) := by decide +kernel
theorem u_268 : Cond.fieldLink "FilterGuard$Machine" 177 "FilterGuard$Code" "isNarrow" "Z" ∈ fg_g := fg_in (List.mem_of_getElem? (i := 268) (by decide +kernel)) rfl
theorem d_Machine_reckoned_16 : decode prog_7_method_8_code 16 = .ok (.ifCond .ne 12, 3) := by decide +kernel
theorem d_Machine_reckoned_28 : decode prog_7_method_8_code 28 = .ok (.iload 5, 2) := by decide +kernel
theorem d_Machine_reckoned_30 : decode prog_7_method_8_code 30 = .ok (.bipush 8, 2) := by decide +kernel
theorem d_Machine_reckoned_32 : decode prog_7_method_8_code 32 = .ok (.if_icmp .lt 14, 3) := by decide +kernel
theorem d_Machine_reckoned_35 : decode prog_7_method_8_code 35 = .ok (.iload 5, 2) := by decide +kernel
theorem d_Machine_reckoned_37 : decode prog_7_method_8_code 37 = .ok (.bipush 10, 2) := by decide +kernel
theorem d_Machine_reckoned_39 : decode prog_7_method_8_code 39 = .ok (.if_icmp .gt 7, 3) := by decide +kernel
theorem d_Machine_reckoned_42 : decode prog_7_method_8_code 42 = .ok (.iconst 1, 1) := by decide +kernel
theorem d_Machine_reckoned_43 : decode prog_7_method_8_code 43 = .ok (.goto 4, 3) := by decide +kernel
theorem d_Machine_reckoned_19 : decode prog_7_method_8_code 19 = .ok (.aload_n 0, 1) := by decide +kernel
theorem d_Machine_reckoned_20 : decode prog_7_method_8_code 20 = .ok (.iload 5, 2) := by decide +kernel
theorem d_Machine_reckoned_22 : decode prog_7_method_8_code 22 = .ok (.lload_n 1, 1) := by decide +kernel
theorem d_Machine_reckoned_23 : decode prog_7_method_8_code 23 = .ok (.lload_n 3, 1) := by decide +kernel
theorem d_Machine_reckoned_24 : decode prog_7_method_8_code 24 = .ok (.invokevirtual 180, 3) := by decide +kernel
theorem d_Machine_reckoned_27 : decode prog_7_method_8_code 27 = .ok (.lreturn, 1) := by decide +kernel
abbrev y_Machine_reckoned : MethodName := ⟨"FilterGuard$Machine", "reckoned", "(JJ)J"⟩
def rm_Machine_reckoned : Room := { frames := 3, cells := 0, slots := 0, locals := 72 }
abbrev q_Machine_reckoned (D : va_G) (ad : Nat → Nat → Nat) (ca : Nat → ClassId) (N : Nat → Nat) (M0 MZ : me_M) (RZ : Int64) (A : Nat → Prop) : Array Value → Jvm.State → Outcome → Jvm.State → Prop := va_Ql (fun r (_ : Unit) => r = RZ ∧ me_wf N MZ ∧ me_kp M0 MZ) (fg_B D A (fun _ => me_W ad ca MZ) (fun _ => [])) A
set_option maxHeartbeats 4000000 in
set_option maxRecDepth 100000 in
theorem c_Machine_reckoned (l : Launch) (D : va_G) (ad : Nat → Nat → Nat) (ca : Nat → ClassId) (N : Nat → Nat) (M0 MZ : me_M) (RZ : Int64) (j0 : Nat) (x1 : Int64) (x3 : Int64) (h : f_Machine_reckoned M0 j0 x1 x3 = (some (MZ, RZ))) (hwf : me_wf N M0) (hj0 : j0 < N 5) (sz : Nat) : Met l y_Machine_reckoned (fg_w y_Machine_reckoned prog_7_method_8_code 9 (some .long)) rm_Machine_reckoned (va_Pc [.ref (ad 5 j0), .long x1, .long x3] (fz_P D (me_T ca) (me_W ad ca M0) sz)) (q_Machine_reckoned D ad ca N M0 MZ RZ (va_A (me_W ad ca M0) sz)) rm_Machine_reckoned.cells rm_Machine_reckoned.slots (va_A (me_W ad ca M0) sz) := by
  refine fz_enter (fun A => q_Machine_reckoned D ad ca N M0 MZ RZ A) (by decide +kernel) (Nat.le_of_ble_eq_true rfl) ?_
  intro p e s m below meth c ls A hx hb hml hown hts hr hlocks hin hP hK hD hS hA hX hl hz
  have hl : lv_has ls 9 [(0, .ref (ad 5 j0)), (1, .long x1), (3, .long x3)] := hl
  unfold f_Machine_reckoned at h
  have hkp : me_kp M0 M0 := me_kp.rf
  have hkb := hkp
  have b_67 : ∀ (M : me_M) (y5 : Int32) (y6 : Int32) (s0 : Int64) (H : Heap) (locs : List Loc) (ls : Array Slot), f_Machine_reckoned_b67 j0 x3 M y5 y6 s0 = (some (MZ, RZ)) → (y6 = 1 ∨ y6 = 0) → me_wf N M → me_kp M0 M → va_P D classes (me_W ad ca M) H → va_D A (me_W ad ca M) → va_S A s.heap H locs → lv_has ls 9 [(0, .ref (ad 5 j0)), (3, .long x3), (5, .int y5), (6, .int y6)] → W p l e rm_Machine_reckoned s m [.ref (ad 5 j0), .long x1, .long x3].toArray below meth c H locs 0 0 (MQ below (q_Machine_reckoned D ad ca N M0 MZ RZ A) [.ref (ad 5 j0), .long x1, .long x3].toArray s rm_Machine_reckoned.cells rm_Machine_reckoned.slots A) (F0 m 67 ls [.long s0]) := by
    intro M y5 y6 s0 H locs ls h zy6 hwf hkp hP hD hS hl
    unfold f_Machine_reckoned_b67 at h
    have hkb := hkp
    refine lv_lstore (lv' := [(7, .long s0), (0, .ref (ad 5 j0)), (3, .long x3), (5, .int y5), (6, .int y6)]) hx hb d_Machine_reckoned_67 hl (by decide) rfl (fun ls hl => ?_)
    refine lv_aload_n hx hb d_Machine_reckoned_69 rfl (lv_at hl 1 rfl) ?_
    refine lv_iload hx hb d_Machine_reckoned_70 (lv_at hl 3 rfl) ?_
    refine lv_lload hx hb d_Machine_reckoned_72 (lv_at hl 0 rfl) ?_
    refine lv_iload hx hb d_Machine_reckoned_74 (lv_at hl 4 rfl) ?_
    refine lv_if_eq (tgt := 87) hx hb d_Machine_reckoned_76 (by decide) (fun c1 => ?_) (fun c1 => ?_)
    · have h := if_t c1 h
      refine lv_lload_n hx hb d_Machine_reckoned_87 rfl (lv_at hl 2 rfl) ?_
      refine lv_ldc2 hx hb hown (hts _ u_1672) d_Machine_reckoned_88 ?_
      refine lv_land hx hb d_Machine_reckoned_91 ?_
      obtain ⟨M2, r3, eM2, h⟩ := b2_ob h
      refine me_thenl0 (M1 := M2) (me_runV (C := "FilterGuard$Machine") (As := [.int y5, .long s0, .long (x3 &&& 4294967295)]) (rest := []) ⟨hx, hb, hml, hown, hts⟩ (c_Machine_reckonedWide l D ad ca N M M2 r3 j0 y5 s0 (x3 &&& 4294967295) eM2 hwf hj0 _) rfl (by show fg_nm y_Machine_reckonedWide 3; decide +kernel) u_1664 u_1666 u_76 u_190 u_1667 ⟨Nat.le_of_ble_eq_true rfl, Nat.le_of_ble_eq_true rfl⟩ hX hz hK hP hD hwf hS hA hj0 (by decide) rfl rfl rfl hl.1 (Nat.le_of_ble_eq_true rfl) d_Machine_reckoned_92 ⟨Nat.le_of_ble_eq_true rfl, Nat.le_of_ble_eq_true rfl⟩) hP hD hK hS hA rfl rfl (fun H locs hw hP hD hS => ?_)
      obtain ⟨hwf, hk9⟩ := hw
      have hkp := hkp.tr hk9
      refine lv_ldc2 hx hb hown (hts _ u_1672) d_Machine_reckoned_95 ?_
      refine lv_land hx hb d_Machine_reckoned_98 ?_
      exact me_retl (me_kp M0) h hx hb hr hlocks hwf hkp hP hK hD hS d_Machine_reckoned_99
    have h := if_f c1 h
    refine lv_lload_n hx hb d_Machine_reckoned_79 rfl (lv_at hl 2 rfl) ?_
    refine lv_ldc2 hx hb hown (hts _ u_1673) d_Machine_reckoned_80 ?_
    refine lv_land hx hb d_Machine_reckoned_83 ?_
    refine lv_goto (tgt := 92) hx hb d_Machine_reckoned_84 (by decide) ?_
    obtain ⟨M4, r5, eM4, h⟩ := b2_ob h
    refine me_thenl0 (M1 := M4) (me_runV (C := "FilterGuard$Machine") (As := [.int y5, .long s0, .long (x3 &&& 31)]) (rest := []) ⟨hx, hb, hml, hown, hts⟩ (c_Machine_reckonedWide l D ad ca N M M4 r5 j0 y5 s0 (x3 &&& 31) eM4 hwf hj0 _) rfl (by show fg_nm y_Machine_reckonedWide 3; decide +kernel) u_1664 u_1666 u_76 u_190 u_1667 ⟨Nat.le_of_ble_eq_true rfl, Nat.le_of_ble_eq_true rfl⟩ hX hz hK hP hD hwf hS hA hj0 (by decide) rfl rfl rfl hl.1 (Nat.le_of_ble_eq_true rfl) d_Machine_reckoned_92 ⟨Nat.le_of_ble_eq_true rfl, Nat.le_of_ble_eq_true rfl⟩) hP hD hK hS hA rfl rfl (fun H locs hw hP hD hS => ?_)
    obtain ⟨hwf, hk9⟩ := hw
    have hkp := hkp.tr hk9
    refine lv_ldc2 hx hb hown (hts _ u_1672) d_Machine_reckoned_95 ?_
    refine lv_land hx hb d_Machine_reckoned_98 ?_
    exact me_retl (me_kp M0) h hx hb hr hlocks hwf hkp hP hK hD hS d_Machine_reckoned_99
  have b_47 : ∀ (M : me_M) (y5 : Int32) (s0 : Int32) (H : Heap) (locs : List Loc) (ls : Array Slot), f_Machine_reckoned_b47 j0 x1 x3 M y5 s0 = (some (MZ, RZ)) → (s0 = 1 ∨ s0 = 0) → me_wf N M → me_kp M0 M → va_P D classes (me_W ad ca M) H → va_D A (me_W ad ca M) → va_S A s.heap H locs → lv_has ls 9 [(0, .ref (ad 5 j0)), (1, .long x1), (3, .long x3), (5, .int y5)] → W p l e rm_Machine_reckoned s m [.ref (ad 5 j0), .long x1, .long x3].toArray below meth c H locs 0 0 (MQ below (q_Machine_reckoned D ad ca N M0 MZ RZ A) [.ref (ad 5 j0), .long x1, .long x3].toArray s rm_Machine_reckoned.cells rm_Machine_reckoned.slots A) (F0 m 47 ls [.int s0]) := by
    intro M y5 s0 H locs ls h zs0 hwf hkp hP hD hS hl
    unfold f_Machine_reckoned_b47 at h
    have hkb := hkp
    refine lv_istore (lv' := [(6, .int s0), (0, .ref (ad 5 j0)), (1, .long x1), (3, .long x3), (5, .int y5)]) hx hb d_Machine_reckoned_47 hl (by decide) rfl (fun ls hl => ?_)
    refine lv_iload hx hb d_Machine_reckoned_49 (lv_at hl 4 rfl) ?_
    refine lv_bipush (v := 10) hx hb d_Machine_reckoned_51 (by decide) ?_
    refine lv_icmp_ne (tgt := 62) hx hb d_Machine_reckoned_53 (by decide) (fun c6 => ?_) (fun c6 => ?_)
    · have h := if_f c6 h
      refine lv_lload_n hx hb d_Machine_reckoned_62 rfl (lv_at hl 2 rfl) ?_
      refine lv_ldc2 hx hb hown (hts _ u_1672) d_Machine_reckoned_63 ?_
      refine lv_land hx hb d_Machine_reckoned_66 ?_
      exact b_67 M y5 s0 (x1 &&& 4294967295) _ _ _ h zs0 hwf hkp hP hD hS (lv_sub hl [1, 3, 4, 0] rfl)
    have h := if_t c6 h
    refine lv_lload_n hx hb d_Machine_reckoned_56 rfl (lv_at hl 2 rfl) ?_
    refine lv_l2i (v := x1.toInt32) hx hb d_Machine_reckoned_57 rfl ?_
    refine lv_i2l (v := x1.toInt32.toInt64) hx hb d_Machine_reckoned_58 rfl ?_
    refine lv_goto (tgt := 67) hx hb d_Machine_reckoned_59 (by decide) ?_
    exact b_67 M y5 s0 x1.toInt32.toInt64 _ _ _ h zs0 hwf hkp hP hD hS (lv_sub hl [1, 3, 4, 0] rfl)
  have b_46 : ∀ (M : me_M) (y5 : Int32) (H : Heap) (locs : List Loc) (ls : Array Slot), f_Machine_reckoned_b46 j0 x1 x3 M y5 = (some (MZ, RZ)) → me_wf N M → me_kp M0 M → va_P D classes (me_W ad ca M) H → va_D A (me_W ad ca M) → va_S A s.heap H locs → lv_has ls 9 [(0, .ref (ad 5 j0)), (1, .long x1), (3, .long x3), (5, .int y5)] → W p l e rm_Machine_reckoned s m [.ref (ad 5 j0), .long x1, .long x3].toArray below meth c H locs 0 0 (MQ below (q_Machine_reckoned D ad ca N M0 MZ RZ A) [.ref (ad 5 j0), .long x1, .long x3].toArray s rm_Machine_reckoned.cells rm_Machine_reckoned.slots A) (F0 m 46 ls []) := by
    intro M y5 H locs ls h hwf hkp hP hD hS hl
    unfold f_Machine_reckoned_b46 at h
    have hkb := hkp
    refine lv_iconst (v := 0) hx hb d_Machine_reckoned_46 (by decide) ?_
    exact b_47 M y5 (0 : Int32) _ _ _ h (by decide) hwf hkp hP hD hS (lv_sub hl [0, 1, 2, 3] rfl)
  refine lv_aload_n hx hb d_Machine_reckoned_0 rfl (lv_at hl 0 rfl) ?_
  refine g_Machine_16 hx hb hts hown hK hP hwf hj0 (hts _ u_648) d_Machine_reckoned_1 ?_
  obtain ⟨j7, e8, h⟩ := bd_ob h
  have hj7 : j7 < N 2 := (hwf.2.1 5 j0 16 _ e8 (by decide) hj0)
  refine me_opt (j := j7) e8 ?_
  refine g_Code_12 hx hb hts hown hK hP hwf hj7 (hts _ u_264) d_Machine_reckoned_4 ?_
  obtain ⟨v9, ev9, h⟩ := st_ob h
  refine fg_topi (y := v9) ev9.symm ?_
  refine lv_istore (lv' := [(5, .int v9), (0, .ref (ad 5 j0)), (1, .long x1), (3, .long x3)]) hx hb d_Machine_reckoned_7 hl (by decide) rfl (fun ls hl => ?_)
  refine lv_aload_n hx hb d_Machine_reckoned_9 rfl (lv_at hl 1 rfl) ?_
  refine g_Machine_16 hx hb hts hown hK hP hwf hj0 (hts _ u_648) d_Machine_reckoned_10 ?_
  refine me_opt (j := j7) e8 ?_
  refine g_Code_13 hx hb hts hown hK hP hwf hj7 (hts _ u_268) d_Machine_reckoned_13 ?_
  have z10 := (hwf.2.2.2 2 j7 13 rfl)
  refine lv_if_ne (tgt := 28) hx hb d_Machine_reckoned_16 (by decide) (fun c11 => ?_) (fun c11 => ?_)
  · have h := if_f c11 h
    refine lv_iload hx hb d_Machine_reckoned_28 (lv_at hl 0 rfl) ?_
    refine lv_bipush (v := 8) hx hb d_Machine_reckoned_30 (by decide) ?_
    refine lv_icmp_lt (tgt := 46) hx hb d_Machine_reckoned_32 (by decide) (fun c12 => ?_) (fun c12 => ?_)
    · have h := if_t c12 h
      exact b_46 M0 v9 _ _ _ h hwf hkp hP hD hS (lv_sub hl [1, 2, 3, 0] rfl)
    have h := if_f c12 h
    refine lv_iload hx hb d_Machine_reckoned_35 (lv_at hl 0 rfl) ?_
    refine lv_bipush (v := 10) hx hb d_Machine_reckoned_37 (by decide) ?_
    refine lv_icmp_gt (tgt := 46) hx hb d_Machine_reckoned_39 (by decide) (fun c13 => ?_) (fun c13 => ?_)
    · have h := if_t c13 h
      exact b_46 M0 v9 _ _ _ h hwf hkp hP hD hS (lv_sub hl [1, 2, 3, 0] rfl)
    have h := if_f c13 h
    refine lv_iconst (v := 1) hx hb d_Machine_reckoned_42 (by decide) ?_
    refine lv_goto (tgt := 47) hx hb d_Machine_reckoned_43 (by decide) ?_
    exact b_47 M0 v9 (1 : Int32) _ _ _ h (by decide) hwf hkp hP hD hS (lv_sub hl [1, 2, 3, 0] rfl)
  have h := if_t c11 h
  refine lv_aload_n hx hb d_Machine_reckoned_19 rfl (lv_at hl 1 rfl) ?_
  refine lv_iload hx hb d_Machine_reckoned_20 (lv_at hl 0 rfl) ?_
  refine lv_lload_n hx hb d_Machine_reckoned_22 rfl (lv_at hl 2 rfl) ?_
  refine lv_lload_n hx hb d_Machine_reckoned_23 rfl (lv_at hl 3 rfl) ?_
  obtain ⟨M14, r15, eM14, h⟩ := b2_ob h
  refine me_thenl0 (M1 := M14) (me_runV (C := "FilterGuard$Machine") (As := [.int v9, .long x1, .long x3]) (rest := []) ⟨hx, hb, hml, hown, hts⟩ (c_Machine_reckonedWide l D ad ca N M0 M14 r15 j0 v9 x1 x3 eM14 hwf hj0 _) rfl (by show fg_nm y_Machine_reckonedWide 3; decide +kernel) u_1664 u_1666 u_76 u_190 u_1667 ⟨Nat.le_of_ble_eq_true rfl, Nat.le_of_ble_eq_true rfl⟩ hX hz hK hP hD hwf hS hA hj0 (by decide) rfl rfl rfl hl.1 (Nat.le_of_ble_eq_true rfl) d_Machine_reckoned_24 ⟨Nat.le_of_ble_eq_true rfl, Nat.le_of_ble_eq_true rfl⟩) hP hD hK hS hA rfl rfl (fun H locs hw hP hD hS => ?_)
  obtain ⟨hwf, hk9⟩ := hw
  have hkp := hkp.tr hk9
  exact me_retl (me_kp M0) h hx hb hr hlocks hwf hkp hP hK hD hS d_Machine_reckoned_27
