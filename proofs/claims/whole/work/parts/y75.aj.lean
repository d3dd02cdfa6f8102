theorem d_M_isOne_0 : decode prog_14_method_37_code 0 = .ok (.lload_n 0, 1) := by decide +kernel
theorem d_M_isOne_1 : decode prog_14_method_37_code 1 = .ok (.lconst 0, 1) := by decide +kernel
theorem d_M_isOne_2 : decode prog_14_method_37_code 2 = .ok (.lcmp, 1) := by decide +kernel
theorem d_M_isOne_3 : decode prog_14_method_37_code 3 = .ok (.ifCond .eq 17, 3) := by decide +kernel
theorem d_M_isOne_20 : decode prog_14_method_37_code 20 = .ok (.iconst 0, 1) := by decide +kernel
theorem d_M_isOne_21 : decode prog_14_method_37_code 21 = .ok (.ireturn, 1) := by decide +kernel
theorem d_M_isOne_6 : decode prog_14_method_37_code 6 = .ok (.lload_n 0, 1) := by decide +kernel
theorem d_M_isOne_7 : decode prog_14_method_37_code 7 = .ok (.lload_n 0, 1) := by decide +kernel
theorem d_M_isOne_8 : decode prog_14_method_37_code 8 = .ok (.lconst 1, 1) := by decide +kernel
theorem d_M_isOne_9 : decode prog_14_method_37_code 9 = .ok (.lsub, 1) := by decide +kernel
theorem d_M_isOne_10 : decode prog_14_method_37_code 10 = .ok (.land, 1) := by decide +kernel
theorem d_M_isOne_11 : decode prog_14_method_37_code 11 = .ok (.lconst 0, 1) := by decide +kernel
theorem d_M_isOne_12 : decode prog_14_method_37_code 12 = .ok (.lcmp, 1) := by decide +kernel
theorem d_M_isOne_13 : decode prog_14_method_37_code 13 = .ok (.ifCond .ne 7, 3) := by decide +kernel
theorem d_M_isOne_16 : decode prog_14_method_37_code 16 = .ok (.iconst 1, 1) := by decide +kernel
theorem d_M_isOne_17 : decode prog_14_method_37_code 17 = .ok (.goto 4, 3) := by decide +kernel
abbrev y_M_isOne : MethodName := ⟨"FilterGuardModel", "isOne", "(J)Z"⟩
def rm_M_isOne : Room := { frames := 1, cells := 0, slots := 0, locals := 20 }
abbrev q_M_isOne (D : va_G) (RZ : Int32) (A : Nat → Prop) : Array Value → Jvm.State → Outcome → Jvm.State → Prop := va_Qi (fun r (_ : Unit) => r = RZ ∧ (RZ = 1 ∨ RZ = 0)) (fg_B D A (fun _ => []) (fun _ => [])) A
set_option maxHeartbeats 4000000 in
set_option maxRecDepth 100000 in
theorem c_M_isOne (l : Launch) (D : va_G) (RZ : Int32) (x0 : Int64) (h : f_M_isOne x0 = (some RZ)) (sz : Nat) : Met l y_M_isOne (fg_w y_M_isOne prog_14_method_37_code 2 (some .boolean)) rm_M_isOne (va_Pc [.long x0] (fg_P D [] [] sz)) (q_M_isOne D RZ (va_A [] sz)) rm_M_isOne.cells rm_M_isOne.slots (va_A [] sz) := by
  refine fg_enter (fun A => q_M_isOne D RZ A) (by decide +kernel) (Nat.le_of_ble_eq_true rfl) ?_
  intro p e s m below meth c ls A hx hb hml hown hts hr hlocks hin hP hK hD hS hA hX hl
  have hl : lv_has ls 2 [(0, .long x0)] := hl
  unfold f_M_isOne at h
  refine lv_lload_n hx hb d_M_isOne_0 rfl (lv_at hl 0 rfl) ?_
  refine lv_lconst (v := 0) hx hb d_M_isOne_1 (by decide) ?_
  refine W.lcmp hx hb d_M_isOne_2 ?_
  refine lv_if_eq (tgt := 20) hx hb d_M_isOne_3 (by decide) (fun c1 => ?_) (fun c1 => ?_)
  · have h := if_t ((lg_cmp_eq _ _).mp c1) h
    refine lv_iconst (v := 0) hx hb d_M_isOne_20 (by decide) ?_
    exact me_pretz h (by decide) hx hb hr hlocks hK hS d_M_isOne_21
  have h := if_f (fun z => c1 ((lg_cmp_eq _ _).mpr z)) h
  refine lv_lload_n hx hb d_M_isOne_6 rfl (lv_at hl 0 rfl) ?_
  refine lv_lload_n hx hb d_M_isOne_7 rfl (lv_at hl 0 rfl) ?_
  refine lv_lconst (v := 1) hx hb d_M_isOne_8 (by decide) ?_
  refine lv_lsub hx hb d_M_isOne_9 ?_
  refine lv_land hx hb d_M_isOne_10 ?_
  refine lv_lconst (v := 0) hx hb d_M_isOne_11 (by decide) ?_
  refine W.lcmp hx hb d_M_isOne_12 ?_
  refine lv_if_ne (tgt := 20) hx hb d_M_isOne_13 (by decide) (fun c2 => ?_) (fun c2 => ?_)
  · have h := if_f (fun z => c2 ((lg_cmp_eq _ _).mpr z)) h
    refine lv_iconst (v := 0) hx hb d_M_isOne_20 (by decide) ?_
    exact me_pretz h (by decide) hx hb hr hlocks hK hS d_M_isOne_21
  have h := if_t ((lg_cmp_eq _ _).mp c2) h
  refine lv_iconst (v := 1) hx hb d_M_isOne_16 (by decide) ?_
  refine lv_goto (tgt := 21) hx hb d_M_isOne_17 (by decide) ?_
  exact me_pretz h (by decide) hx hb hr hlocks hK hS d_M_isOne_21
theorem d_M_meets_159 : decode prog_14_method_38_code 159 = .ok (.iload_n 1, 1) := by decide +kernel
theorem d_M_meets_160 : decode prog_14_method_38_code 160 = .ok (.ifCond .eq 43, 3) := by decide +kernel
theorem d_M_meets_203 : decode prog_14_method_38_code 203 = .ok (.iconst 1, 1) := by decide +kernel
theorem d_M_meets_204 : decode prog_14_method_38_code 204 = .ok (.ireturn, 1) := by decide +kernel
theorem d_M_meets_163 : decode prog_14_method_38_code 163 = .ok (.aload_n 0, 1) := by decide +kernel
theorem d_M_meets_164 : decode prog_14_method_38_code 164 = .ok (.getfield 104, 3) := by decide +kernel
theorem d_M_meets_167 : decode prog_14_method_38_code 167 = .ok (.sipush 30076, 3) := by decide +kernel
theorem d_M_meets_170 : decode prog_14_method_38_code 170 = .ok (.aload_n 0, 1) := by decide +kernel
theorem d_M_meets_171 : decode prog_14_method_38_code 171 = .ok (.getfield 104, 3) := by decide +kernel
theorem d_M_meets_174 : decode prog_14_method_38_code 174 = .ok (.sipush 30076, 3) := by decide +kernel
theorem d_M_meets_177 : decode prog_14_method_38_code 177 = .ok (.laload, 1) := by decide +kernel
theorem d_M_meets_178 : decode prog_14_method_38_code 178 = .ok (.lload_n 2, 1) := by decide +kernel
theorem d_M_meets_179 : decode prog_14_method_38_code 179 = .ok (.lor, 1) := by decide +kernel
theorem d_M_meets_180 : decode prog_14_method_38_code 180 = .ok (.lastore, 1) := by decide +kernel
theorem d_M_meets_181 : decode prog_14_method_38_code 181 = .ok (.aload_n 0, 1) := by decide +kernel
theorem d_M_meets_182 : decode prog_14_method_38_code 182 = .ok (.getfield 107, 3) := by decide +kernel
theorem d_M_meets_185 : decode prog_14_method_38_code 185 = .ok (.sipush 30076, 3) := by decide +kernel
theorem d_M_meets_188 : decode prog_14_method_38_code 188 = .ok (.aload_n 0, 1) := by decide +kernel
theorem d_M_meets_189 : decode prog_14_method_38_code 189 = .ok (.getfield 107, 3) := by decide +kernel
theorem d_M_meets_192 : decode prog_14_method_38_code 192 = .ok (.sipush 30076, 3) := by decide +kernel
theorem d_M_meets_195 : decode prog_14_method_38_code 195 = .ok (.laload, 1) := by decide +kernel
theorem d_M_meets_196 : decode prog_14_method_38_code 196 = .ok (.lload_n 2, 1) := by decide +kernel
theorem d_M_meets_197 : decode prog_14_method_38_code 197 = .ok (.ldc2_w 162, 3) := by decide +kernel
theorem d_M_meets_200 : decode prog_14_method_38_code 200 = .ok (.lxor, 1) := by decide +kernel
theorem d_M_meets_201 : decode prog_14_method_38_code 201 = .ok (.land, 1) := by decide +kernel
theorem d_M_meets_202 : decode prog_14_method_38_code 202 = .ok (.lastore, 1) := by decide +kernel
theorem d_M_meets_71 : decode prog_14_method_38_code 71 = .ok (.istore_n 1, 1) := by decide +kernel
theorem d_M_meets_72 : decode prog_14_method_38_code 72 = .ok (.aload_n 0, 1) := by decide +kernel
theorem d_M_meets_73 : decode prog_14_method_38_code 73 = .ok (.getfield 104, 3) := by decide +kernel
theorem d_M_meets_76 : decode prog_14_method_38_code 76 = .ok (.sipush 30075, 3) := by decide +kernel
theorem d_M_meets_79 : decode prog_14_method_38_code 79 = .ok (.laload, 1) := by decide +kernel
theorem d_M_meets_80 : decode prog_14_method_38_code 80 = .ok (.lstore_n 2, 1) := by decide +kernel
theorem d_M_meets_81 : decode prog_14_method_38_code 81 = .ok (.aload_n 0, 1) := by decide +kernel
theorem d_M_meets_82 : decode prog_14_method_38_code 82 = .ok (.sipush 30076, 3) := by decide +kernel
theorem d_M_meets_85 : decode prog_14_method_38_code 85 = .ok (.invokevirtual 192, 3) := by decide +kernel
theorem d_M_meets_88 : decode prog_14_method_38_code 88 = .ok (.ifCond .eq 71, 3) := by decide +kernel
theorem d_M_meets_91 : decode prog_14_method_38_code 91 = .ok (.aload_n 0, 1) := by decide +kernel
theorem d_M_meets_92 : decode prog_14_method_38_code 92 = .ok (.getfield 104, 3) := by decide +kernel
theorem d_M_meets_95 : decode prog_14_method_38_code 95 = .ok (.sipush 30076, 3) := by decide +kernel
theorem d_M_meets_98 : decode prog_14_method_38_code 98 = .ok (.laload, 1) := by decide +kernel
theorem d_M_meets_99 : decode prog_14_method_38_code 99 = .ok (.invokestatic 270, 3) := by decide +kernel
theorem u_2255 : Cond.methodLink "FilterGuardModel" 270 ⟨"FilterGuardModel", "isOne", "(J)Z"⟩ ∈ fg_g := fg_in (List.mem_of_getElem? (i := 2255) (by decide +kernel)) rfl
theorem u_2257 : Cond.code ⟨"FilterGuardModel", "isOne", "(J)Z"⟩ prog_14_method_37_code 2 (some .boolean) ∈ fg_g := fg_in (List.mem_of_getElem? (i := 2257) (by decide +kernel)) rfl
theorem u_2256 : Cond.static ⟨"FilterGuardModel", "isOne", "(J)Z"⟩ ∈ fg_g := fg_in (List.mem_of_getElem? (i := 2256) (by decide +kernel)) rfl
theorem d_M_meets_102 : decode prog_14_method_38_code 102 = .ok (.ifCond .eq 57, 3) := by decide +kernel
theorem d_M_meets_105 : decode prog_14_method_38_code 105 = .ok (.aload_n 0, 1) := by decide +kernel
theorem d_M_meets_106 : decode prog_14_method_38_code 106 = .ok (.getfield 104, 3) := by decide +kernel
theorem d_M_meets_109 : decode prog_14_method_38_code 109 = .ok (.sipush 30075, 3) := by decide +kernel
theorem d_M_meets_112 : decode prog_14_method_38_code 112 = .ok (.aload_n 0, 1) := by decide +kernel
theorem d_M_meets_113 : decode prog_14_method_38_code 113 = .ok (.getfield 104, 3) := by decide +kernel
theorem d_M_meets_116 : decode prog_14_method_38_code 116 = .ok (.sipush 30075, 3) := by decide +kernel
theorem d_M_meets_119 : decode prog_14_method_38_code 119 = .ok (.laload, 1) := by decide +kernel
theorem d_M_meets_120 : decode prog_14_method_38_code 120 = .ok (.aload_n 0, 1) := by decide +kernel
theorem d_M_meets_121 : decode prog_14_method_38_code 121 = .ok (.getfield 104, 3) := by decide +kernel
theorem d_M_meets_124 : decode prog_14_method_38_code 124 = .ok (.sipush 30076, 3) := by decide +kernel
theorem d_M_meets_127 : decode prog_14_method_38_code 127 = .ok (.laload, 1) := by decide +kernel
theorem d_M_meets_128 : decode prog_14_method_38_code 128 = .ok (.lor, 1) := by decide +kernel
theorem d_M_meets_129 : decode prog_14_method_38_code 129 = .ok (.lastore, 1) := by decide +kernel
theorem d_M_meets_130 : decode prog_14_method_38_code 130 = .ok (.aload_n 0, 1) := by decide +kernel
theorem d_M_meets_131 : decode prog_14_method_38_code 131 = .ok (.getfield 107, 3) := by decide +kernel
theorem d_M_meets_134 : decode prog_14_method_38_code 134 = .ok (.sipush 30075, 3) := by decide +kernel
theorem d_M_meets_137 : decode prog_14_method_38_code 137 = .ok (.aload_n 0, 1) := by decide +kernel
theorem d_M_meets_138 : decode prog_14_method_38_code 138 = .ok (.getfield 107, 3) := by decide +kernel
theorem d_M_meets_141 : decode prog_14_method_38_code 141 = .ok (.sipush 30075, 3) := by decide +kernel
theorem d_M_meets_144 : decode prog_14_method_38_code 144 = .ok (.laload, 1) := by decide +kernel
theorem d_M_meets_145 : decode prog_14_method_38_code 145 = .ok (.aload_n 0, 1) := by decide +kernel
theorem d_M_meets_146 : decode prog_14_method_38_code 146 = .ok (.getfield 104, 3) := by decide +kernel
theorem d_M_meets_149 : decode prog_14_method_38_code 149 = .ok (.sipush 30076, 3) := by decide +kernel
theorem d_M_meets_152 : decode prog_14_method_38_code 152 = .ok (.laload, 1) := by decide +kernel
theorem d_M_meets_153 : decode prog_14_method_38_code 153 = .ok (.ldc2_w 162, 3) := by decide +kernel
theorem d_M_meets_156 : decode prog_14_method_38_code 156 = .ok (.lxor, 1) := by decide +kernel
theorem d_M_meets_157 : decode prog_14_method_38_code 157 = .ok (.land, 1) := by decide +kernel
theorem d_M_meets_158 : decode prog_14_method_38_code 158 = .ok (.lastore, 1) := by decide +kernel
theorem d_M_meets_70 : decode prog_14_method_38_code 70 = .ok (.iconst 0, 1) := by decide +kernel
theorem d_M_meets_0 : decode prog_14_method_38_code 0 = .ok (.aload_n 0, 1) := by decide +kernel
theorem d_M_meets_1 : decode prog_14_method_38_code 1 = .ok (.getfield 104, 3) := by decide +kernel
theorem d_M_meets_4 : decode prog_14_method_38_code 4 = .ok (.sipush 30075, 3) := by decide +kernel
theorem d_M_meets_7 : decode prog_14_method_38_code 7 = .ok (.laload, 1) := by decide +kernel
theorem d_M_meets_8 : decode prog_14_method_38_code 8 = .ok (.aload_n 0, 1) := by decide +kernel
theorem d_M_meets_9 : decode prog_14_method_38_code 9 = .ok (.getfield 107, 3) := by decide +kernel
theorem d_M_meets_12 : decode prog_14_method_38_code 12 = .ok (.sipush 30075, 3) := by decide +kernel
theorem d_M_meets_15 : decode prog_14_method_38_code 15 = .ok (.laload, 1) := by decide +kernel
theorem d_M_meets_16 : decode prog_14_method_38_code 16 = .ok (.lor, 1) := by decide +kernel
theorem d_M_meets_17 : decode prog_14_method_38_code 17 = .ok (.aload_n 0, 1) := by decide +kernel
theorem d_M_meets_18 : decode prog_14_method_38_code 18 = .ok (.getfield 104, 3) := by decide +kernel
theorem d_M_meets_21 : decode prog_14_method_38_code 21 = .ok (.sipush 30076, 3) := by decide +kernel
theorem d_M_meets_24 : decode prog_14_method_38_code 24 = .ok (.laload, 1) := by decide +kernel
theorem d_M_meets_25 : decode prog_14_method_38_code 25 = .ok (.aload_n 0, 1) := by decide +kernel
theorem d_M_meets_26 : decode prog_14_method_38_code 26 = .ok (.getfield 107, 3) := by decide +kernel
theorem d_M_meets_29 : decode prog_14_method_38_code 29 = .ok (.sipush 30076, 3) := by decide +kernel
theorem d_M_meets_32 : decode prog_14_method_38_code 32 = .ok (.laload, 1) := by decide +kernel
theorem d_M_meets_33 : decode prog_14_method_38_code 33 = .ok (.lor, 1) := by decide +kernel
theorem d_M_meets_34 : decode prog_14_method_38_code 34 = .ok (.land, 1) := by decide +kernel
theorem d_M_meets_35 : decode prog_14_method_38_code 35 = .ok (.lconst 0, 1) := by decide +kernel
theorem d_M_meets_36 : decode prog_14_method_38_code 36 = .ok (.lcmp, 1) := by decide +kernel
theorem d_M_meets_37 : decode prog_14_method_38_code 37 = .ok (.ifCond .ne 5, 3) := by decide +kernel
theorem d_M_meets_42 : decode prog_14_method_38_code 42 = .ok (.aload_n 0, 1) := by decide +kernel
theorem d_M_meets_43 : decode prog_14_method_38_code 43 = .ok (.sipush 30075, 3) := by decide +kernel
theorem d_M_meets_46 : decode prog_14_method_38_code 46 = .ok (.invokevirtual 192, 3) := by decide +kernel
theorem d_M_meets_49 : decode prog_14_method_38_code 49 = .ok (.ifCond .eq 21, 3) := by decide +kernel
theorem d_M_meets_52 : decode prog_14_method_38_code 52 = .ok (.aload_n 0, 1) := by decide +kernel
theorem d_M_meets_53 : decode prog_14_method_38_code 53 = .ok (.getfield 104, 3) := by decide +kernel
theorem d_M_meets_56 : decode prog_14_method_38_code 56 = .ok (.sipush 30075, 3) := by decide +kernel
theorem d_M_meets_59 : decode prog_14_method_38_code 59 = .ok (.laload, 1) := by decide +kernel
theorem d_M_meets_60 : decode prog_14_method_38_code 60 = .ok (.invokestatic 270, 3) := by decide +kernel
theorem d_M_meets_63 : decode prog_14_method_38_code 63 = .ok (.ifCond .eq 7, 3) := by decide +kernel
theorem d_M_meets_66 : decode prog_14_method_38_code 66 = .ok (.iconst 1, 1) := by decide +kernel
theorem d_M_meets_67 : decode prog_14_method_38_code 67 = .ok (.goto 4, 3) := by decide +kernel
theorem d_M_meets_40 : decode prog_14_method_38_code 40 = .ok (.iconst 0, 1) := by decide +kernel
theorem d_M_meets_41 : decode prog_14_method_38_code 41 = .ok (.ireturn, 1) := by decide +kernel
abbrev y_M_meets : MethodName := ⟨"FilterGuardModel", "meets", "()Z"⟩
def rm_M_meets : Room := { frames := 2, cells := 0, slots := 0, locals := 41 }
abbrev q_M_meets (D : va_G) (ad : Nat → Nat → Nat) (ca : Nat → ClassId) (N : Nat → Nat) (M0 MZ : me_M) (RZ : Int32) (A : Nat → Prop) : Array Value → Jvm.State → Outcome → Jvm.State → Prop := va_Qi (fun r (_ : Unit) => r = RZ ∧ me_wf N MZ ∧ me_kp M0 MZ ∧ (RZ = 1 ∨ RZ = 0)) (fg_B D A (fun _ => me_W ad ca MZ) (fun _ => [])) A
set_option maxHeartbeats 4000000 in
set_option maxRecDepth 100000 in
theorem c_M_meets (l : Launch) (D : va_G) (ad : Nat → Nat → Nat) (ca : Nat → ClassId) (N : Nat → Nat) (M0 MZ : me_M) (RZ : Int32) (j0 : Nat) (h : f_M_meets M0 j0 = (some (MZ, RZ))) (hwf : me_wf N M0) (hj0 : j0 < N 1) (sz : Nat) : Met l y_M_meets (fg_w y_M_meets prog_14_method_38_code 4 (some .boolean)) rm_M_meets (va_Pc [.ref (ad 1 j0)] (fz_P D (me_T ca) (me_W ad ca M0) sz)) (q_M_meets D ad ca N M0 MZ RZ (va_A (me_W ad ca M0) sz)) rm_M_meets.cells rm_M_meets.slots (va_A (me_W ad ca M0) sz) := by
  refine fz_enter (fun A => q_M_meets D ad ca N M0 MZ RZ A) (by decide +kernel) (Nat.le_of_ble_eq_true rfl) ?_
  intro p e s m below meth c ls A hx hb hml hown hts hr hlocks hin hP hK hD hS hA hX hl hz
  have hl : lv_has ls 4 [(0, .ref (ad 1 j0))] := hl
  unfold f_M_meets at h
  have hkp : me_kp M0 M0 := me_kp.rf
  have hkb := hkp
  have b_159 : ∀ (M : me_M) (y1 : Int32) (y2 : Int64) (H : Heap) (locs : List Loc) (ls : Array Slot), f_M_meets_b159 j0 M y1 y2 = (some (MZ, RZ)) → (y1 = 1 ∨ y1 = 0) → me_wf N M → me_kp M0 M → va_P D classes (me_W ad ca M) H → va_D A (me_W ad ca M) → va_S A s.heap H locs → lv_has ls 4 [(0, .ref (ad 1 j0)), (1, .int y1), (2, .long y2)] → W p l e rm_M_meets s m [.ref (ad 1 j0)].toArray below meth c H locs 0 0 (MQ below (q_M_meets D ad ca N M0 MZ RZ A) [.ref (ad 1 j0)].toArray s rm_M_meets.cells rm_M_meets.slots A) (F0 m 159 ls []) := by
    intro M y1 y2 H locs ls h zy1 hwf hkp hP hD hS hl
    unfold f_M_meets_b159 at h
    have hkb := hkp
    refine lv_iload_n hx hb d_M_meets_159 rfl (lv_at hl 1 rfl) ?_
    refine lv_if_eq (tgt := 203) hx hb d_M_meets_160 (by decide) (fun c1 => ?_) (fun c1 => ?_)
    · have h := if_t c1 h
      refine lv_iconst (v := 1) hx hb d_M_meets_203 (by decide) ?_
      exact me_retz (me_kp M0) h (by decide) hx hb hr hlocks hwf hkp hP hK hD hS d_M_meets_204
    have h := if_f c1 h
    refine lv_aload_n hx hb d_M_meets_163 rfl (lv_at hl 0 rfl) ?_
    refine g_M_52 hx hb hts hown hK hP hwf hj0 (hts _ u_1793) d_M_meets_164 ?_
    obtain ⟨j2, e3, h⟩ := bd_ob h
    have hj2 : j2 < N 16 := (hwf.2.1 1 j0 52 _ e3 (by decide) hj0)
    refine me_opt (j := j2) e3 ?_
    refine lv_sipush (v := 30076) hx hb d_M_meets_167 (by decide) ?_
    refine lv_aload_n hx hb d_M_meets_170 rfl (lv_at hl 0 rfl) ?_
    refine g_M_52 hx hb hts hown hK hP hwf hj0 (hts _ u_1793) d_M_meets_171 ?_
    refine me_opt (j := j2) e3 ?_
    refine lv_sipush (v := 30076) hx hb d_M_meets_174 (by decide) ?_
    obtain ⟨g4, h⟩ := gd_ob h
    refine me_lald hx hb hK hP hwf hj2 (me_in (i := (30076 : Int32)) (k := 30076) (by decide) (by decide) g4) d_M_meets_177 ?_
    refine fg_topl (y := mL M 16 j2 30076) (congrArg _ (by decide)) ?_
    refine lv_lload_n hx hb d_M_meets_178 rfl (lv_at hl 2 rfl) ?_
    refine lv_lor hx hb d_M_meets_179 ?_
    obtain ⟨M5, eM5, h⟩ := st_ob h
    refine me_last (eM5.trans (by rw [show (30076 : Int32).toNatClampNeg = 30076 by decide])) hx hb hK hP hD hwf hS hj2 (me_in (i := (30076 : Int32)) (k := 30076) (by decide) (by decide) g4) d_M_meets_180 (fun H locs hP hD hwf hS => ?_)
    have hkp := kp_L eM5 hkp
    refine lv_aload_n hx hb d_M_meets_181 rfl (lv_at hl 0 rfl) ?_
    refine g_M_53 hx hb hts hown hK hP hwf hj0 (hts _ u_1794) d_M_meets_182 ?_
    obtain ⟨j6, e7, h⟩ := bd_ob h
    have hj6 : j6 < N 16 := (hwf.2.1 1 j0 53 _ (kp_r hkb hkp e7) (by decide) hj0)
    refine me_opt (j := j6) (kp_r hkb hkp e7) ?_
    refine lv_sipush (v := 30076) hx hb d_M_meets_185 (by decide) ?_
    refine lv_aload_n hx hb d_M_meets_188 rfl (lv_at hl 0 rfl) ?_
    refine g_M_53 hx hb hts hown hK hP hwf hj0 (hts _ u_1794) d_M_meets_189 ?_
    refine me_opt (j := j6) (kp_r hkb hkp e7) ?_
    refine lv_sipush (v := 30076) hx hb d_M_meets_192 (by decide) ?_
    obtain ⟨g8, h⟩ := gd_ob h
    refine me_lald hx hb hK hP hwf hj6 (me_in (i := (30076 : Int32)) (k := 30076) (by decide) (by decide) (kp_c hkb.z hkp.z g8)) d_M_meets_195 ?_
    refine fg_topl (y := mL M5 16 j6 30076) (congrArg _ (by decide)) ?_
    refine lv_lload_n hx hb d_M_meets_196 rfl (lv_at hl 2 rfl) ?_
    refine lv_ldc2 hx hb hown (hts _ u_2071) d_M_meets_197 ?_
    refine lv_lxor hx hb d_M_meets_200 ?_
    refine lv_land hx hb d_M_meets_201 ?_
    obtain ⟨M9, eM9, h⟩ := st_ob h
    refine me_last (eM9.trans (by rw [show (30076 : Int32).toNatClampNeg = 30076 by decide])) hx hb hK hP hD hwf hS hj6 (me_in (i := (30076 : Int32)) (k := 30076) (by decide) (by decide) (kp_c hkb.z hkp.z g8)) d_M_meets_202 (fun H locs hP hD hwf hS => ?_)
    have hkp := kp_L eM9 hkp
    refine lv_iconst (v := 1) hx hb d_M_meets_203 (by decide) ?_
    exact me_retz (me_kp M0) h (by decide) hx hb hr hlocks hwf hkp hP hK hD hS d_M_meets_204
  have b_71 : ∀ (M : me_M) (s0 : Int32) (H : Heap) (locs : List Loc) (ls : Array Slot), f_M_meets_b71 j0 M s0 = (some (MZ, RZ)) → (s0 = 1 ∨ s0 = 0) → me_wf N M → me_kp M0 M → va_P D classes (me_W ad ca M) H → va_D A (me_W ad ca M) → va_S A s.heap H locs → lv_has ls 4 [(0, .ref (ad 1 j0))] → W p l e rm_M_meets s m [.ref (ad 1 j0)].toArray below meth c H locs 0 0 (MQ below (q_M_meets D ad ca N M0 MZ RZ A) [.ref (ad 1 j0)].toArray s rm_M_meets.cells rm_M_meets.slots A) (F0 m 71 ls [.int s0]) := by
    intro M s0 H locs ls h zs0 hwf hkp hP hD hS hl
    unfold f_M_meets_b71 at h
    have hkb := hkp
    refine lv_istore_n (lv' := [(1, .int s0), (0, .ref (ad 1 j0))]) hx hb d_M_meets_71 rfl hl (by decide) rfl (fun ls hl => ?_)
    refine lv_aload_n hx hb d_M_meets_72 rfl (lv_at hl 1 rfl) ?_
    refine g_M_52 hx hb hts hown hK hP hwf hj0 (hts _ u_1793) d_M_meets_73 ?_
    obtain ⟨j10, e11, h⟩ := bd_ob h
    have hj10 : j10 < N 16 := (hwf.2.1 1 j0 52 _ e11 (by decide) hj0)
    refine me_opt (j := j10) e11 ?_
    refine lv_sipush (v := 30075) hx hb d_M_meets_76 (by decide) ?_
    obtain ⟨g12, h⟩ := gd_ob h
    refine me_lald hx hb hK hP hwf hj10 (me_in (i := (30075 : Int32)) (k := 30075) (by decide) (by decide) g12) d_M_meets_79 ?_
    refine fg_topl (y := mL M 16 j10 30075) (congrArg _ (by decide)) ?_
    obtain ⟨v13, ev13, h⟩ := st_ob h
    refine fg_topl (y := v13) ev13.symm ?_
    refine lv_lstore_n (lv' := [(2, .long v13), (1, .int s0), (0, .ref (ad 1 j0))]) hx hb d_M_meets_80 rfl hl (by decide) rfl (fun ls hl => ?_)
    refine lv_aload_n hx hb d_M_meets_81 rfl (lv_at hl 2 rfl) ?_
    refine lv_sipush (v := 30076) hx hb d_M_meets_82 (by decide) ?_
    obtain ⟨M14, r15, eM14, h⟩ := b2_ob h
    refine me_theni0 (M1 := M14) (me_runV (C := "FilterGuardModel") (As := [.int 30076]) (rest := []) ⟨hx, hb, hml, hown, hts⟩ (c_M_isExact l D ad ca N M M14 r15 j0 (30076 : Int32) eM14 hwf hj0 _) rfl (by show fg_nm y_M_isExact 1; decide +kernel) u_2251 u_2253 u_136 u_192 u_2254 ⟨Nat.le_of_ble_eq_true rfl, Nat.le_of_ble_eq_true rfl⟩ hX hz hK hP hD hwf hS hA hj0 (by decide) rfl rfl rfl hl.1 (Nat.le_of_ble_eq_true rfl) d_M_meets_85 ⟨Nat.le_of_ble_eq_true rfl, Nat.le_of_ble_eq_true rfl⟩) hP hD hK hS hA rfl rfl (fun H locs hw hP hD hS => ?_)
    obtain ⟨hwf, hk9, zr15⟩ := hw
    have hkp := hkp.tr hk9
    refine lv_if_eq (tgt := 159) hx hb d_M_meets_88 (by decide) (fun c16 => ?_) (fun c16 => ?_)
    · have h := if_t c16 h
      exact b_159 M14 s0 v13 _ _ _ h zs0 hwf hkp hP hD hS (lv_sub hl [2, 1, 0] rfl)
    have h := if_f c16 h
    refine lv_aload_n hx hb d_M_meets_91 rfl (lv_at hl 2 rfl) ?_
    refine g_M_52 hx hb hts hown hK hP hwf hj0 (hts _ u_1793) d_M_meets_92 ?_
    refine me_opt (j := j10) (kp_r hkb hkp e11) ?_
    refine lv_sipush (v := 30076) hx hb d_M_meets_95 (by decide) ?_
    obtain ⟨g17, h⟩ := gd_ob h
    refine me_lald hx hb hK hP hwf hj10 (me_in (i := (30076 : Int32)) (k := 30076) (by decide) (by decide) (kp_c hkb.z hkp.z g17)) d_M_meets_98 ?_
    refine fg_topl (y := mL M14 16 j10 30076) (congrArg _ (by decide)) ?_
    obtain ⟨r18, er18, h⟩ := bd_ob h
    refine me_pani' (r0 := r18) (fg_runS (wc := []) (tc := []) (A2 := A) (As := [.long (mL M14 16 j10 30076)]) (rest := []) ⟨hx, hb, hml, hown, hts⟩ (c_M_isOne l D r18 (mL M14 16 j10 30076) er18 _) (by show fg_nm y_M_isOne 1; decide +kernel) u_2255 u_2256 u_192 u_2257 ⟨Nat.le_of_ble_eq_true rfl, Nat.le_of_ble_eq_true rfl⟩ hX me_P0 (hK.sub (tys' := []) [] rfl) me_D0 rfl hl.1 (Nat.le_of_ble_eq_true rfl) d_M_meets_99 ⟨Nat.le_of_ble_eq_true rfl, Nat.le_of_ble_eq_true rfl⟩) hP hD hK hS hA rfl rfl (fun H locs hw hP hD hS => ?_)
    have zr18 := hw
    refine lv_if_eq (tgt := 159) hx hb d_M_meets_102 (by decide) (fun c19 => ?_) (fun c19 => ?_)
    · have h := if_t c19 h
      exact b_159 M14 s0 v13 _ _ _ h zs0 hwf hkp hP hD hS (lv_sub hl [2, 1, 0] rfl)
    have h := if_f c19 h
    refine lv_aload_n hx hb d_M_meets_105 rfl (lv_at hl 2 rfl) ?_
    refine g_M_52 hx hb hts hown hK hP hwf hj0 (hts _ u_1793) d_M_meets_106 ?_
    refine me_opt (j := j10) (kp_r hkb hkp e11) ?_
    refine lv_sipush (v := 30075) hx hb d_M_meets_109 (by decide) ?_
    refine lv_aload_n hx hb d_M_meets_112 rfl (lv_at hl 2 rfl) ?_
    refine g_M_52 hx hb hts hown hK hP hwf hj0 (hts _ u_1793) d_M_meets_113 ?_
    refine me_opt (j := j10) (kp_r hkb hkp e11) ?_
    refine lv_sipush (v := 30075) hx hb d_M_meets_116 (by decide) ?_
    refine me_lald hx hb hK hP hwf hj10 (me_in (i := (30075 : Int32)) (k := 30075) (by decide) (by decide) (kp_c hkb.z hkp.z g12)) d_M_meets_119 ?_
    refine fg_topl (y := mL M14 16 j10 30075) (congrArg _ (by decide)) ?_
    refine lv_aload_n hx hb d_M_meets_120 rfl (lv_at hl 2 rfl) ?_
    refine g_M_52 hx hb hts hown hK hP hwf hj0 (hts _ u_1793) d_M_meets_121 ?_
    refine me_opt (j := j10) (kp_r hkb hkp e11) ?_
    refine lv_sipush (v := 30076) hx hb d_M_meets_124 (by decide) ?_
    refine me_lald hx hb hK hP hwf hj10 (me_in (i := (30076 : Int32)) (k := 30076) (by decide) (by decide) (kp_c hkb.z hkp.z g17)) d_M_meets_127 ?_
    refine fg_topl (y := mL M14 16 j10 30076) (congrArg _ (by decide)) ?_
    refine lv_lor hx hb d_M_meets_128 ?_
    obtain ⟨M20, eM20, h⟩ := st_ob h
    refine me_last (eM20.trans (by rw [show (30075 : Int32).toNatClampNeg = 30075 by decide])) hx hb hK hP hD hwf hS hj10 (me_in (i := (30075 : Int32)) (k := 30075) (by decide) (by decide) (kp_c hkb.z hkp.z g12)) d_M_meets_129 (fun H locs hP hD hwf hS => ?_)
    have hkp := kp_L eM20 hkp
    refine lv_aload_n hx hb d_M_meets_130 rfl (lv_at hl 2 rfl) ?_
    refine g_M_53 hx hb hts hown hK hP hwf hj0 (hts _ u_1794) d_M_meets_131 ?_
    obtain ⟨j21, e22, h⟩ := bd_ob h
    have hj21 : j21 < N 16 := (hwf.2.1 1 j0 53 _ (kp_r hkb hkp e22) (by decide) hj0)
    refine me_opt (j := j21) (kp_r hkb hkp e22) ?_
    refine lv_sipush (v := 30075) hx hb d_M_meets_134 (by decide) ?_
    refine lv_aload_n hx hb d_M_meets_137 rfl (lv_at hl 2 rfl) ?_
    refine g_M_53 hx hb hts hown hK hP hwf hj0 (hts _ u_1794) d_M_meets_138 ?_
    refine me_opt (j := j21) (kp_r hkb hkp e22) ?_
    refine lv_sipush (v := 30075) hx hb d_M_meets_141 (by decide) ?_
    obtain ⟨g23, h⟩ := gd_ob h
    refine me_lald hx hb hK hP hwf hj21 (me_in (i := (30075 : Int32)) (k := 30075) (by decide) (by decide) (kp_c hkb.z hkp.z g23)) d_M_meets_144 ?_
    refine fg_topl (y := mL M20 16 j21 30075) (congrArg _ (by decide)) ?_
    refine lv_aload_n hx hb d_M_meets_145 rfl (lv_at hl 2 rfl) ?_
    refine g_M_52 hx hb hts hown hK hP hwf hj0 (hts _ u_1793) d_M_meets_146 ?_
    refine me_opt (j := j10) (kp_r hkb hkp e11) ?_
    refine lv_sipush (v := 30076) hx hb d_M_meets_149 (by decide) ?_
    refine me_lald hx hb hK hP hwf hj10 (me_in (i := (30076 : Int32)) (k := 30076) (by decide) (by decide) (kp_c hkb.z hkp.z g17)) d_M_meets_152 ?_
    refine fg_topl (y := mL M20 16 j10 30076) (congrArg _ (by decide)) ?_
    refine lv_ldc2 hx hb hown (hts _ u_2071) d_M_meets_153 ?_
    refine lv_lxor hx hb d_M_meets_156 ?_
    refine lv_land hx hb d_M_meets_157 ?_
    obtain ⟨M24, eM24, h⟩ := st_ob h
    refine me_last (eM24.trans (by rw [show (30075 : Int32).toNatClampNeg = 30075 by decide])) hx hb hK hP hD hwf hS hj21 (me_in (i := (30075 : Int32)) (k := 30075) (by decide) (by decide) (kp_c hkb.z hkp.z g23)) d_M_meets_158 (fun H locs hP hD hwf hS => ?_)
    have hkp := kp_L eM24 hkp
    exact b_159 M24 s0 v13 _ _ _ h zs0 hwf hkp hP hD hS (lv_sub hl [2, 1, 0] rfl)
  have b_70 : ∀ (M : me_M) (H : Heap) (locs : List Loc) (ls : Array Slot), f_M_meets_b70 j0 M = (some (MZ, RZ)) → me_wf N M → me_kp M0 M → va_P D classes (me_W ad ca M) H → va_D A (me_W ad ca M) → va_S A s.heap H locs → lv_has ls 4 [(0, .ref (ad 1 j0))] → W p l e rm_M_meets s m [.ref (ad 1 j0)].toArray below meth c H locs 0 0 (MQ below (q_M_meets D ad ca N M0 MZ RZ A) [.ref (ad 1 j0)].toArray s rm_M_meets.cells rm_M_meets.slots A) (F0 m 70 ls []) := by
    intro M H locs ls h hwf hkp hP hD hS hl
    unfold f_M_meets_b70 at h
    have hkb := hkp
    refine lv_iconst (v := 0) hx hb d_M_meets_70 (by decide) ?_
    exact b_71 M (0 : Int32) _ _ _ h (by decide) hwf hkp hP hD hS (lv_sub hl [0] rfl)
  refine lv_aload_n hx hb d_M_meets_0 rfl (lv_at hl 0 rfl) ?_
  refine g_M_52 hx hb hts hown hK hP hwf hj0 (hts _ u_1793) d_M_meets_1 ?_
  obtain ⟨j25, e26, h⟩ := bd_ob h
  have hj25 : j25 < N 16 := (hwf.2.1 1 j0 52 _ e26 (by decide) hj0)
  refine me_opt (j := j25) e26 ?_
  refine lv_sipush (v := 30075) hx hb d_M_meets_4 (by decide) ?_
  obtain ⟨g27, h⟩ := gd_ob h
  refine me_lald hx hb hK hP hwf hj25 (me_in (i := (30075 : Int32)) (k := 30075) (by decide) (by decide) g27) d_M_meets_7 ?_
  refine fg_topl (y := mL M0 16 j25 30075) (congrArg _ (by decide)) ?_
  refine lv_aload_n hx hb d_M_meets_8 rfl (lv_at hl 0 rfl) ?_
  refine g_M_53 hx hb hts hown hK hP hwf hj0 (hts _ u_1794) d_M_meets_9 ?_
  obtain ⟨j28, e29, h⟩ := bd_ob h
  have hj28 : j28 < N 16 := (hwf.2.1 1 j0 53 _ e29 (by decide) hj0)
  refine me_opt (j := j28) e29 ?_
  refine lv_sipush (v := 30075) hx hb d_M_meets_12 (by decide) ?_
  obtain ⟨g30, h⟩ := gd_ob h
  refine me_lald hx hb hK hP hwf hj28 (me_in (i := (30075 : Int32)) (k := 30075) (by decide) (by decide) g30) d_M_meets_15 ?_
  refine fg_topl (y := mL M0 16 j28 30075) (congrArg _ (by decide)) ?_
  refine lv_lor hx hb d_M_meets_16 ?_
  refine lv_aload_n hx hb d_M_meets_17 rfl (lv_at hl 0 rfl) ?_
  refine g_M_52 hx hb hts hown hK hP hwf hj0 (hts _ u_1793) d_M_meets_18 ?_
  refine me_opt (j := j25) e26 ?_
  refine lv_sipush (v := 30076) hx hb d_M_meets_21 (by decide) ?_
  obtain ⟨g31, h⟩ := gd_ob h
  refine me_lald hx hb hK hP hwf hj25 (me_in (i := (30076 : Int32)) (k := 30076) (by decide) (by decide) g31) d_M_meets_24 ?_
  refine fg_topl (y := mL M0 16 j25 30076) (congrArg _ (by decide)) ?_
  refine lv_aload_n hx hb d_M_meets_25 rfl (lv_at hl 0 rfl) ?_
  refine g_M_53 hx hb hts hown hK hP hwf hj0 (hts _ u_1794) d_M_meets_26 ?_
  refine me_opt (j := j28) e29 ?_
  refine lv_sipush (v := 30076) hx hb d_M_meets_29 (by decide) ?_
  obtain ⟨g32, h⟩ := gd_ob h
  refine me_lald hx hb hK hP hwf hj28 (me_in (i := (30076 : Int32)) (k := 30076) (by decide) (by decide) g32) d_M_meets_32 ?_
  refine fg_topl (y := mL M0 16 j28 30076) (congrArg _ (by decide)) ?_
  refine lv_lor hx hb d_M_meets_33 ?_
  refine lv_land hx hb d_M_meets_34 ?_
  obtain ⟨v33, ev33, h⟩ := st_ob h
  refine fg_topl (y := v33) ev33.symm ?_
  refine lv_lconst (v := 0) hx hb d_M_meets_35 (by decide) ?_
  refine W.lcmp hx hb d_M_meets_36 ?_
  refine lv_if_ne (tgt := 42) hx hb d_M_meets_37 (by decide) (fun c34 => ?_) (fun c34 => ?_)
  · have h := if_f (fun z => c34 ((lg_cmp_eq _ _).mpr z)) h
    refine lv_aload_n hx hb d_M_meets_42 rfl (lv_at hl 0 rfl) ?_
    refine lv_sipush (v := 30075) hx hb d_M_meets_43 (by decide) ?_
    obtain ⟨M35, r36, eM35, h⟩ := b2_ob h
    refine me_theni0 (M1 := M35) (me_runV (C := "FilterGuardModel") (As := [.int 30075]) (rest := []) ⟨hx, hb, hml, hown, hts⟩ (c_M_isExact l D ad ca N M0 M35 r36 j0 (30075 : Int32) eM35 hwf hj0 _) rfl (by show fg_nm y_M_isExact 1; decide +kernel) u_2251 u_2253 u_136 u_192 u_2254 ⟨Nat.le_of_ble_eq_true rfl, Nat.le_of_ble_eq_true rfl⟩ hX hz hK hP hD hwf hS hA hj0 (by decide) rfl rfl rfl hl.1 (Nat.le_of_ble_eq_true rfl) d_M_meets_46 ⟨Nat.le_of_ble_eq_true rfl, Nat.le_of_ble_eq_true rfl⟩) hP hD hK hS hA rfl rfl (fun H locs hw hP hD hS => ?_)
    obtain ⟨hwf, hk9, zr36⟩ := hw
    have hkp := hkp.tr hk9
    refine lv_if_eq (tgt := 70) hx hb d_M_meets_49 (by decide) (fun c37 => ?_) (fun c37 => ?_)
    · have h := if_t c37 h
      exact b_70 M35 _ _ _ h hwf hkp hP hD hS (lv_sub hl [0] rfl)
    have h := if_f c37 h
    refine lv_aload_n hx hb d_M_meets_52 rfl (lv_at hl 0 rfl) ?_
    refine g_M_52 hx hb hts hown hK hP hwf hj0 (hts _ u_1793) d_M_meets_53 ?_
    refine me_opt (j := j25) (kp_r hkb hkp e26) ?_
    refine lv_sipush (v := 30075) hx hb d_M_meets_56 (by decide) ?_
    refine me_lald hx hb hK hP hwf hj25 (me_in (i := (30075 : Int32)) (k := 30075) (by decide) (by decide) (kp_c hkb.z hkp.z g27)) d_M_meets_59 ?_
    refine fg_topl (y := mL M35 16 j25 30075) (congrArg _ (by decide)) ?_
    obtain ⟨r38, er38, h⟩ := bd_ob h
    refine me_pani' (r0 := r38) (fg_runS (wc := []) (tc := []) (A2 := A) (As := [.long (mL M35 16 j25 30075)]) (rest := []) ⟨hx, hb, hml, hown, hts⟩ (c_M_isOne l D r38 (mL M35 16 j25 30075) er38 _) (by show fg_nm y_M_isOne 1; decide +kernel) u_2255 u_2256 u_192 u_2257 ⟨Nat.le_of_ble_eq_true rfl, Nat.le_of_ble_eq_true rfl⟩ hX me_P0 (hK.sub (tys' := []) [] rfl) me_D0 rfl hl.1 (Nat.le_of_ble_eq_true rfl) d_M_meets_60 ⟨Nat.le_of_ble_eq_true rfl, Nat.le_of_ble_eq_true rfl⟩) hP hD hK hS hA rfl rfl (fun H locs hw hP hD hS => ?_)
    have zr38 := hw
    refine lv_if_eq (tgt := 70) hx hb d_M_meets_63 (by decide) (fun c39 => ?_) (fun c39 => ?_)
    · have h := if_t c39 h
      exact b_70 M35 _ _ _ h hwf hkp hP hD hS (lv_sub hl [0] rfl)
    have h := if_f c39 h
    refine lv_iconst (v := 1) hx hb d_M_meets_66 (by decide) ?_
    refine lv_goto (tgt := 71) hx hb d_M_meets_67 (by decide) ?_
    exact b_71 M35 (1 : Int32) _ _ _ h (by decide) hwf hkp hP hD hS (lv_sub hl [0] rfl)
  have h := if_t ((lg_cmp_eq _ _).mp c34) h
  refine lv_iconst (v := 0) hx hb d_M_meets_40 (by decide) ?_
  exact me_retz (me_kp M0) h (by decide) hx hb hr hlocks hwf hkp hP hK hD hS d_M_meets_41
theorem d_M_misses_71 : decode prog_14_method_39_code 71 = .ok (.iload_n 1, 1) := by decide +kernel
theorem d_M_misses_72 : decode prog_14_method_39_code 72 = .ok (.ifCond .eq 32, 3) := by decide +kernel
theorem d_M_misses_104 : decode prog_14_method_39_code 104 = .ok (.iconst 1, 1) := by decide +kernel
theorem d_M_misses_105 : decode prog_14_method_39_code 105 = .ok (.ireturn, 1) := by decide +kernel
theorem d_M_misses_75 : decode prog_14_method_39_code 75 = .ok (.aload_n 0, 1) := by decide +kernel
theorem d_M_misses_76 : decode prog_14_method_39_code 76 = .ok (.getfield 107, 3) := by decide +kernel
theorem d_M_misses_79 : decode prog_14_method_39_code 79 = .ok (.sipush 30076, 3) := by decide +kernel
theorem d_M_misses_82 : decode prog_14_method_39_code 82 = .ok (.aload_n 0, 1) := by decide +kernel
theorem d_M_misses_83 : decode prog_14_method_39_code 83 = .ok (.getfield 107, 3) := by decide +kernel
theorem d_M_misses_86 : decode prog_14_method_39_code 86 = .ok (.sipush 30076, 3) := by decide +kernel
theorem d_M_misses_89 : decode prog_14_method_39_code 89 = .ok (.laload, 1) := by decide +kernel
theorem d_M_misses_90 : decode prog_14_method_39_code 90 = .ok (.aload_n 0, 1) := by decide +kernel
theorem d_M_misses_91 : decode prog_14_method_39_code 91 = .ok (.getfield 104, 3) := by decide +kernel
theorem d_M_misses_94 : decode prog_14_method_39_code 94 = .ok (.sipush 30075, 3) := by decide +kernel
theorem d_M_misses_97 : decode prog_14_method_39_code 97 = .ok (.laload, 1) := by decide +kernel
theorem d_M_misses_98 : decode prog_14_method_39_code 98 = .ok (.ldc2_w 162, 3) := by decide +kernel
theorem d_M_misses_101 : decode prog_14_method_39_code 101 = .ok (.lxor, 1) := by decide +kernel
theorem d_M_misses_102 : decode prog_14_method_39_code 102 = .ok (.land, 1) := by decide +kernel
theorem d_M_misses_103 : decode prog_14_method_39_code 103 = .ok (.lastore, 1) := by decide +kernel
theorem d_M_misses_0 : decode prog_14_method_39_code 0 = .ok (.aload_n 0, 1) := by decide +kernel
theorem d_M_misses_1 : decode prog_14_method_39_code 1 = .ok (.getfield 104, 3) := by decide +kernel
theorem d_M_misses_4 : decode prog_14_method_39_code 4 = .ok (.sipush 30075, 3) := by decide +kernel
theorem d_M_misses_7 : decode prog_14_method_39_code 7 = .ok (.laload, 1) := by decide +kernel
theorem d_M_misses_8 : decode prog_14_method_39_code 8 = .ok (.aload_n 0, 1) := by decide +kernel
theorem d_M_misses_9 : decode prog_14_method_39_code 9 = .ok (.getfield 104, 3) := by decide +kernel
theorem d_M_misses_12 : decode prog_14_method_39_code 12 = .ok (.sipush 30076, 3) := by decide +kernel
theorem d_M_misses_15 : decode prog_14_method_39_code 15 = .ok (.laload, 1) := by decide +kernel
theorem d_M_misses_16 : decode prog_14_method_39_code 16 = .ok (.land, 1) := by decide +kernel
theorem d_M_misses_17 : decode prog_14_method_39_code 17 = .ok (.lconst 0, 1) := by decide +kernel
theorem d_M_misses_18 : decode prog_14_method_39_code 18 = .ok (.lcmp, 1) := by decide +kernel
theorem d_M_misses_19 : decode prog_14_method_39_code 19 = .ok (.ifCond .eq 5, 3) := by decide +kernel
theorem d_M_misses_24 : decode prog_14_method_39_code 24 = .ok (.aload_n 0, 1) := by decide +kernel
theorem d_M_misses_25 : decode prog_14_method_39_code 25 = .ok (.sipush 30075, 3) := by decide +kernel
theorem d_M_misses_28 : decode prog_14_method_39_code 28 = .ok (.invokevirtual 192, 3) := by decide +kernel
theorem d_M_misses_31 : decode prog_14_method_39_code 31 = .ok (.istore_n 1, 1) := by decide +kernel
theorem d_M_misses_32 : decode prog_14_method_39_code 32 = .ok (.aload_n 0, 1) := by decide +kernel
theorem d_M_misses_33 : decode prog_14_method_39_code 33 = .ok (.sipush 30076, 3) := by decide +kernel
theorem d_M_misses_36 : decode prog_14_method_39_code 36 = .ok (.invokevirtual 192, 3) := by decide +kernel
theorem d_M_misses_39 : decode prog_14_method_39_code 39 = .ok (.ifCond .eq 32, 3) := by decide +kernel
theorem d_M_misses_42 : decode prog_14_method_39_code 42 = .ok (.aload_n 0, 1) := by decide +kernel
theorem d_M_misses_43 : decode prog_14_method_39_code 43 = .ok (.getfield 107, 3) := by decide +kernel
theorem d_M_misses_46 : decode prog_14_method_39_code 46 = .ok (.sipush 30075, 3) := by decide +kernel
theorem d_M_misses_49 : decode prog_14_method_39_code 49 = .ok (.aload_n 0, 1) := by decide +kernel
theorem d_M_misses_50 : decode prog_14_method_39_code 50 = .ok (.getfield 107, 3) := by decide +kernel
theorem d_M_misses_53 : decode prog_14_method_39_code 53 = .ok (.sipush 30075, 3) := by decide +kernel
theorem d_M_misses_56 : decode prog_14_method_39_code 56 = .ok (.laload, 1) := by decide +kernel
theorem d_M_misses_57 : decode prog_14_method_39_code 57 = .ok (.aload_n 0, 1) := by decide +kernel
theorem d_M_misses_58 : decode prog_14_method_39_code 58 = .ok (.getfield 104, 3) := by decide +kernel
theorem d_M_misses_61 : decode prog_14_method_39_code 61 = .ok (.sipush 30076, 3) := by decide +kernel
theorem d_M_misses_64 : decode prog_14_method_39_code 64 = .ok (.laload, 1) := by decide +kernel
theorem d_M_misses_65 : decode prog_14_method_39_code 65 = .ok (.ldc2_w 162, 3) := by decide +kernel
theorem d_M_misses_68 : decode prog_14_method_39_code 68 = .ok (.lxor, 1) := by decide +kernel
theorem d_M_misses_69 : decode prog_14_method_39_code 69 = .ok (.land, 1) := by decide +kernel
theorem d_M_misses_70 : decode prog_14_method_39_code 70 = .ok (.lastore, 1) := by decide +kernel
theorem d_M_misses_22 : decode prog_14_method_39_code 22 = .ok (.iconst 0, 1) := by decide +kernel
theorem d_M_misses_23 : decode prog_14_method_39_code 23 = .ok (.ireturn, 1) := by decide +kernel
abbrev y_M_misses : MethodName := ⟨"FilterGuardModel", "misses", "()Z"⟩
def rm_M_misses : Room := { frames := 2, cells := 0, slots := 0, locals := 41 }
abbrev q_M_misses (D : va_G) (ad : Nat → Nat → Nat) (ca : Nat → ClassId) (N : Nat → Nat) (M0 MZ : me_M) (RZ : Int32) (A : Nat → Prop) : Array Value → Jvm.State → Outcome → Jvm.State → Prop := va_Qi (fun r (_ : Unit) => r = RZ ∧ me_wf N MZ ∧ me_kp M0 MZ ∧ (RZ = 1 ∨ RZ = 0)) (fg_B D A (fun _ => me_W ad ca MZ) (fun _ => [])) A
set_option maxHeartbeats 4000000 in
set_option maxRecDepth 100000 in
theorem c_M_misses (l : Launch) (D : va_G) (ad : Nat → Nat → Nat) (ca : Nat → ClassId) (N : Nat → Nat) (M0 MZ : me_M) (RZ : Int32) (j0 : Nat) (h : f_M_misses M0 j0 = (some (MZ, RZ))) (hwf : me_wf N M0) (hj0 : j0 < N 1) (sz : Nat) : Met l y_M_misses (fg_w y_M_misses prog_14_method_39_code 2 (some .boolean)) rm_M_misses (va_Pc [.ref (ad 1 j0)] (fz_P D (me_T ca) (me_W ad ca M0) sz)) (q_M_misses D ad ca N M0 MZ RZ (va_A (me_W ad ca M0) sz)) rm_M_misses.cells rm_M_misses.slots (va_A (me_W ad ca M0) sz) := by
  refine fz_enter (fun A => q_M_misses D ad ca N M0 MZ RZ A) (by decide +kernel) (Nat.le_of_ble_eq_true rfl) ?_
  intro p e s m below meth c ls A hx hb hml hown hts hr hlocks hin hP hK hD hS hA hX hl hz
  have hl : lv_has ls 2 [(0, .ref (ad 1 j0))] := hl
  unfold f_M_misses at h
  have hkp : me_kp M0 M0 := me_kp.rf
  have hkb := hkp
  have b_71 : ∀ (M : me_M) (y1 : Int32) (H : Heap) (locs : List Loc) (ls : Array Slot), f_M_misses_b71 j0 M y1 = (some (MZ, RZ)) → (y1 = 1 ∨ y1 = 0) → me_wf N M → me_kp M0 M → va_P D classes (me_W ad ca M) H → va_D A (me_W ad ca M) → va_S A s.heap H locs → lv_has ls 2 [(0, .ref (ad 1 j0)), (1, .int y1)] → W p l e rm_M_misses s m [.ref (ad 1 j0)].toArray below meth c H locs 0 0 (MQ below (q_M_misses D ad ca N M0 MZ RZ A) [.ref (ad 1 j0)].toArray s rm_M_misses.cells rm_M_misses.slots A) (F0 m 71 ls []) := by
    intro M y1 H locs ls h zy1 hwf hkp hP hD hS hl
    unfold f_M_misses_b71 at h
    have hkb := hkp
    refine lv_iload_n hx hb d_M_misses_71 rfl (lv_at hl 1 rfl) ?_
    refine lv_if_eq (tgt := 104) hx hb d_M_misses_72 (by decide) (fun c1 => ?_) (fun c1 => ?_)
    · have h := if_t c1 h
      refine lv_iconst (v := 1) hx hb d_M_misses_104 (by decide) ?_
      exact me_retz (me_kp M0) h (by decide) hx hb hr hlocks hwf hkp hP hK hD hS d_M_misses_105
    have h := if_f c1 h
    refine lv_aload_n hx hb d_M_misses_75 rfl (lv_at hl 0 rfl) ?_
    refine g_M_53 hx hb hts hown hK hP hwf hj0 (hts _ u_1794) d_M_misses_76 ?_
    obtain ⟨j2, e3, h⟩ := bd_ob h
    have hj2 : j2 < N 16 := (hwf.2.1 1 j0 53 _ e3 (by decide) hj0)
    refine me_opt (j := j2) e3 ?_
    refine lv_sipush (v := 30076) hx hb d_M_misses_79 (by decide) ?_
    refine lv_aload_n hx hb d_M_misses_82 rfl (lv_at hl 0 rfl) ?_
    refine g_M_53 hx hb hts hown hK hP hwf hj0 (hts _ u_1794) d_M_misses_83 ?_
    refine me_opt (j := j2) e3 ?_
    refine lv_sipush (v := 30076) hx hb d_M_misses_86 (by decide) ?_
    obtain ⟨g4, h⟩ := gd_ob h
    refine me_lald hx hb hK hP hwf hj2 (me_in (i := (30076 : Int32)) (k := 30076) (by decide) (by decide) g4) d_M_misses_89 ?_
    refine fg_topl (y := mL M 16 j2 30076) (congrArg _ (by decide)) ?_
    refine lv_aload_n hx hb d_M_misses_90 rfl (lv_at hl 0 rfl) ?_
    refine g_M_52 hx hb hts hown hK hP hwf hj0 (hts _ u_1793) d_M_misses_91 ?_
    obtain ⟨j5, e6, h⟩ := bd_ob h
    have hj5 : j5 < N 16 := (hwf.2.1 1 j0 52 _ e6 (by decide) hj0)
    refine me_opt (j := j5) e6 ?_
    refine lv_sipush (v := 30075) hx hb d_M_misses_94 (by decide) ?_
    obtain ⟨g7, h⟩ := gd_ob h
    refine me_lald hx hb hK hP hwf hj5 (me_in (i := (30075 : Int32)) (k := 30075) (by decide) (by decide) g7) d_M_misses_97 ?_
    refine fg_topl (y := mL M 16 j5 30075) (congrArg _ (by decide)) ?_
    refine lv_ldc2 hx hb hown (hts _ u_2071) d_M_misses_98 ?_
    refine lv_lxor hx hb d_M_misses_101 ?_
    refine lv_land hx hb d_M_misses_102 ?_
    obtain ⟨M8, eM8, h⟩ := st_ob h
    refine me_last (eM8.trans (by rw [show (30076 : Int32).toNatClampNeg = 30076 by decide])) hx hb hK hP hD hwf hS hj2 (me_in (i := (30076 : Int32)) (k := 30076) (by decide) (by decide) g4) d_M_misses_103 (fun H locs hP hD hwf hS => ?_)
    have hkp := kp_L eM8 hkp
    refine lv_iconst (v := 1) hx hb d_M_misses_104 (by decide) ?_
    exact me_retz (me_kp M0) h (by decide) hx hb hr hlocks hwf hkp hP hK hD hS d_M_misses_105
  refine lv_aload_n hx hb d_M_misses_0 rfl (lv_at hl 0 rfl) ?_
  refine g_M_52 hx hb hts hown hK hP hwf hj0 (hts _ u_1793) d_M_misses_1 ?_
  obtain ⟨j9, e10, h⟩ := bd_ob h
  have hj9 : j9 < N 16 := (hwf.2.1 1 j0 52 _ e10 (by decide) hj0)
  refine me_opt (j := j9) e10 ?_
  refine lv_sipush (v := 30075) hx hb d_M_misses_4 (by decide) ?_
  obtain ⟨g11, h⟩ := gd_ob h
  refine me_lald hx hb hK hP hwf hj9 (me_in (i := (30075 : Int32)) (k := 30075) (by decide) (by decide) g11) d_M_misses_7 ?_
  refine fg_topl (y := mL M0 16 j9 30075) (congrArg _ (by decide)) ?_
  refine lv_aload_n hx hb d_M_misses_8 rfl (lv_at hl 0 rfl) ?_
  refine g_M_52 hx hb hts hown hK hP hwf hj0 (hts _ u_1793) d_M_misses_9 ?_
  refine me_opt (j := j9) e10 ?_
  refine lv_sipush (v := 30076) hx hb d_M_misses_12 (by decide) ?_
  obtain ⟨g12, h⟩ := gd_ob h
  refine me_lald hx hb hK hP hwf hj9 (me_in (i := (30076 : Int32)) (k := 30076) (by decide) (by decide) g12) d_M_misses_15 ?_
  refine fg_topl (y := mL M0 16 j9 30076) (congrArg _ (by decide)) ?_
  refine lv_land hx hb d_M_misses_16 ?_
  refine lv_lconst (v := 0) hx hb d_M_misses_17 (by decide) ?_
  refine W.lcmp hx hb d_M_misses_18 ?_
  refine lv_if_eq (tgt := 24) hx hb d_M_misses_19 (by decide) (fun c13 => ?_) (fun c13 => ?_)
  · have h := if_t ((lg_cmp_eq _ _).mp c13) h
    refine lv_aload_n hx hb d_M_misses_24 rfl (lv_at hl 0 rfl) ?_
    refine lv_sipush (v := 30075) hx hb d_M_misses_25 (by decide) ?_
    obtain ⟨M14, r15, eM14, h⟩ := b2_ob h
    refine me_theni0 (M1 := M14) (me_runV (C := "FilterGuardModel") (As := [.int 30075]) (rest := []) ⟨hx, hb, hml, hown, hts⟩ (c_M_isExact l D ad ca N M0 M14 r15 j0 (30075 : Int32) eM14 hwf hj0 _) rfl (by show fg_nm y_M_isExact 1; decide +kernel) u_2251 u_2253 u_136 u_192 u_2254 ⟨Nat.le_of_ble_eq_true rfl, Nat.le_of_ble_eq_true rfl⟩ hX hz hK hP hD hwf hS hA hj0 (by decide) rfl rfl rfl hl.1 (Nat.le_of_ble_eq_true rfl) d_M_misses_28 ⟨Nat.le_of_ble_eq_true rfl, Nat.le_of_ble_eq_true rfl⟩) hP hD hK hS hA rfl rfl (fun H locs hw hP hD hS => ?_)
    obtain ⟨hwf, hk9, zr15⟩ := hw
    have hkp := hkp.tr hk9
    refine lv_istore_n (lv' := [(1, .int r15), (0, .ref (ad 1 j0))]) hx hb d_M_misses_31 rfl hl (by decide) rfl (fun ls hl => ?_)
    refine lv_aload_n hx hb d_M_misses_32 rfl (lv_at hl 1 rfl) ?_
    refine lv_sipush (v := 30076) hx hb d_M_misses_33 (by decide) ?_
    obtain ⟨M16, r17, eM16, h⟩ := b2_ob h
    refine me_theni0 (M1 := M16) (me_runV (C := "FilterGuardModel") (As := [.int 30076]) (rest := []) ⟨hx, hb, hml, hown, hts⟩ (c_M_isExact l D ad ca N M14 M16 r17 j0 (30076 : Int32) eM16 hwf hj0 _) rfl (by show fg_nm y_M_isExact 1; decide +kernel) u_2251 u_2253 u_136 u_192 u_2254 ⟨Nat.le_of_ble_eq_true rfl, Nat.le_of_ble_eq_true rfl⟩ hX hz hK hP hD hwf hS hA hj0 (by decide) rfl rfl rfl hl.1 (Nat.le_of_ble_eq_true rfl) d_M_misses_36 ⟨Nat.le_of_ble_eq_true rfl, Nat.le_of_ble_eq_true rfl⟩) hP hD hK hS hA rfl rfl (fun H locs hw hP hD hS => ?_)
    obtain ⟨hwf, hk9, zr17⟩ := hw
    have hkp := hkp.tr hk9
    refine lv_if_eq (tgt := 71) hx hb d_M_misses_39 (by decide) (fun c18 => ?_) (fun c18 => ?_)
    · have h := if_t c18 h
      exact b_71 M16 r15 _ _ _ h zr15 hwf hkp hP hD hS (lv_sub hl [1, 0] rfl)
    have h := if_f c18 h
    refine lv_aload_n hx hb d_M_misses_42 rfl (lv_at hl 1 rfl) ?_
    refine g_M_53 hx hb hts hown hK hP hwf hj0 (hts _ u_1794) d_M_misses_43 ?_
    obtain ⟨j19, e20, h⟩ := bd_ob h
    have hj19 : j19 < N 16 := (hwf.2.1 1 j0 53 _ (kp_r hkb hkp e20) (by decide) hj0)
    refine me_opt (j := j19) (kp_r hkb hkp e20) ?_
    refine lv_sipush (v := 30075) hx hb d_M_misses_46 (by decide) ?_
    refine lv_aload_n hx hb d_M_misses_49 rfl (lv_at hl 1 rfl) ?_
    refine g_M_53 hx hb hts hown hK hP hwf hj0 (hts _ u_1794) d_M_misses_50 ?_
    refine me_opt (j := j19) (kp_r hkb hkp e20) ?_
    refine lv_sipush (v := 30075) hx hb d_M_misses_53 (by decide) ?_
    obtain ⟨g21, h⟩ := gd_ob h
    refine me_lald hx hb hK hP hwf hj19 (me_in (i := (30075 : Int32)) (k := 30075) (by decide) (by decide) (kp_c hkb.z hkp.z g21)) d_M_misses_56 ?_
    refine fg_topl (y := mL M16 16 j19 30075) (congrArg _ (by decide)) ?_
    refine lv_aload_n hx hb d_M_misses_57 rfl (lv_at hl 1 rfl) ?_
    refine g_M_52 hx hb hts hown hK hP hwf hj0 (hts _ u_1793) d_M_misses_58 ?_
    refine me_opt (j := j9) (kp_r hkb hkp e10) ?_
    refine lv_sipush (v := 30076) hx hb d_M_misses_61 (by decide) ?_
    refine me_lald hx hb hK hP hwf hj9 (me_in (i := (30076 : Int32)) (k := 30076) (by decide) (by decide) (kp_c hkb.z hkp.z g12)) d_M_misses_64 ?_
    refine fg_topl (y := mL M16 16 j9 30076) (congrArg _ (by decide)) ?_
    refine lv_ldc2 hx hb hown (hts _ u_2071) d_M_misses_65 ?_
    refine lv_lxor hx hb d_M_misses_68 ?_
    refine lv_land hx hb d_M_misses_69 ?_
    obtain ⟨M22, eM22, h⟩ := st_ob h
    refine me_last (eM22.trans (by rw [show (30075 : Int32).toNatClampNeg = 30075 by decide])) hx hb hK hP hD hwf hS hj19 (me_in (i := (30075 : Int32)) (k := 30075) (by decide) (by decide) (kp_c hkb.z hkp.z g21)) d_M_misses_70 (fun H locs hP hD hwf hS => ?_)
    have hkp := kp_L eM22 hkp
    exact b_71 M22 r15 _ _ _ h zr15 hwf hkp hP hD hS (lv_sub hl [1, 0] rfl)
  have h := if_f (fun z => c13 ((lg_cmp_eq _ _).mpr z)) h
  refine lv_iconst (v := 0) hx hb d_M_misses_22 (by decide) ?_
  exact me_retz (me_kp M0) h (by decide) hx hb hr hlocks hwf hkp hP hK hD hS d_M_misses_23
theorem d_M_tells_191 : decode prog_14_method_40_code 191 = .ok (.iload_n 2, 1) := by decide +kernel
theorem d_M_tells_192 : decode prog_14_method_40_code 192 = .ok (.ifCond .eq 27, 3) := by decide +kernel
theorem d_M_tells_219 : decode prog_14_method_40_code 219 = .ok (.iconst 0, 1) := by decide +kernel
theorem d_M_tells_220 : decode prog_14_method_40_code 220 = .ok (.ireturn, 1) := by decide +kernel
theorem d_M_tells_195 : decode prog_14_method_40_code 195 = .ok (.aload_n 0, 1) := by decide +kernel
theorem d_M_tells_196 : decode prog_14_method_40_code 196 = .ok (.sipush 30075, 3) := by decide +kernel
theorem d_M_tells_199 : decode prog_14_method_40_code 199 = .ok (.invokevirtual 264, 3) := by decide +kernel
theorem d_M_tells_202 : decode prog_14_method_40_code 202 = .ok (.ifCond .eq 17, 3) := by decide +kernel
theorem d_M_tells_205 : decode prog_14_method_40_code 205 = .ok (.aload_n 0, 1) := by decide +kernel
theorem d_M_tells_206 : decode prog_14_method_40_code 206 = .ok (.sipush 30076, 3) := by decide +kernel
theorem d_M_tells_209 : decode prog_14_method_40_code 209 = .ok (.invokevirtual 264, 3) := by decide +kernel
theorem d_M_tells_212 : decode prog_14_method_40_code 212 = .ok (.ifCond .eq 7, 3) := by decide +kernel
theorem d_M_tells_215 : decode prog_14_method_40_code 215 = .ok (.iconst 1, 1) := by decide +kernel
theorem d_M_tells_216 : decode prog_14_method_40_code 216 = .ok (.goto 4, 3) := by decide +kernel
theorem d_M_tells_178 : decode prog_14_method_40_code 178 = .ok (.iconst 1, 1) := by decide +kernel
theorem d_M_tells_179 : decode prog_14_method_40_code 179 = .ok (.invokevirtual 278, 3) := by decide +kernel
theorem u_2243 : Cond.methodLink "FilterGuardModel" 278 ⟨"FilterGuardModel", "orders", "(IIZZ)Z"⟩ ∈ fg_g := fg_in (List.mem_of_getElem? (i := 2243) (by decide +kernel)) rfl
theorem u_2246 : Cond.code ⟨"FilterGuardModel", "orders", "(IIZZ)Z"⟩ prog_14_method_33_code 11 (some .boolean) ∈ fg_g := fg_in (List.mem_of_getElem? (i := 2246) (by decide +kernel)) rfl
theorem u_2245 : Cond.instanceMethod ⟨"FilterGuardModel", "orders", "(IIZZ)Z"⟩ ∈ fg_g := fg_in (List.mem_of_getElem? (i := 2245) (by decide +kernel)) rfl
theorem u_134 : Cond.selects "FilterGuardModel" ⟨"FilterGuardModel", "orders", "(IIZZ)Z"⟩ ⟨"FilterGuardModel", "orders", "(IIZZ)Z"⟩ ∈ fg_g := fg_in (List.mem_of_getElem? (i := 134) (by decide +kernel)) rfl
theorem d_M_tells_182 : decode prog_14_method_40_code 182 = .ok (.istore_n 2, 1) := by decide +kernel
theorem d_M_tells_183 : decode prog_14_method_40_code 183 = .ok (.goto 8, 3) := by decide +kernel
theorem d_M_tells_152 : decode prog_14_method_40_code 152 = .ok (.iconst 0, 1) := by decide +kernel
theorem d_M_tells_153 : decode prog_14_method_40_code 153 = .ok (.invokevirtual 278, 3) := by decide +kernel
theorem d_M_tells_156 : decode prog_14_method_40_code 156 = .ok (.istore_n 2, 1) := by decide +kernel
theorem d_M_tells_157 : decode prog_14_method_40_code 157 = .ok (.goto 34, 3) := by decide +kernel
theorem d_M_tells_126 : decode prog_14_method_40_code 126 = .ok (.iconst 1, 1) := by decide +kernel
theorem d_M_tells_127 : decode prog_14_method_40_code 127 = .ok (.invokevirtual 278, 3) := by decide +kernel
theorem d_M_tells_130 : decode prog_14_method_40_code 130 = .ok (.istore_n 2, 1) := by decide +kernel
theorem d_M_tells_131 : decode prog_14_method_40_code 131 = .ok (.goto 60, 3) := by decide +kernel
theorem d_M_tells_85 : decode prog_14_method_40_code 85 = .ok (.iconst 0, 1) := by decide +kernel
theorem d_M_tells_86 : decode prog_14_method_40_code 86 = .ok (.invokevirtual 278, 3) := by decide +kernel
theorem d_M_tells_89 : decode prog_14_method_40_code 89 = .ok (.istore_n 2, 1) := by decide +kernel
theorem d_M_tells_90 : decode prog_14_method_40_code 90 = .ok (.goto 101, 3) := by decide +kernel
theorem d_M_tells_0 : decode prog_14_method_40_code 0 = .ok (.iconst 1, 1) := by decide +kernel
theorem d_M_tells_1 : decode prog_14_method_40_code 1 = .ok (.istore_n 2, 1) := by decide +kernel
theorem d_M_tells_2 : decode prog_14_method_40_code 2 = .ok (.iload_n 1, 1) := by decide +kernel
theorem d_M_tells_3 : decode prog_14_method_40_code 3 = .ok (.tableswitch 183 0 10 #[57, 65, 65, 90, 98, 106, 106, 131, 131, 157, 157], 57) := by decide +kernel
theorem d_M_tells_60 : decode prog_14_method_40_code 60 = .ok (.aload_n 0, 1) := by decide +kernel
theorem d_M_tells_61 : decode prog_14_method_40_code 61 = .ok (.invokevirtual 274, 3) := by decide +kernel
theorem u_2239 : Cond.methodLink "FilterGuardModel" 274 ⟨"FilterGuardModel", "same", "()Z"⟩ ∈ fg_g := fg_in (List.mem_of_getElem? (i := 2239) (by decide +kernel)) rfl
theorem u_2242 : Cond.code ⟨"FilterGuardModel", "same", "()Z"⟩ prog_14_method_34_code 1 (some .boolean) ∈ fg_g := fg_in (List.mem_of_getElem? (i := 2242) (by decide +kernel)) rfl
theorem u_2241 : Cond.instanceMethod ⟨"FilterGuardModel", "same", "()Z"⟩ ∈ fg_g := fg_in (List.mem_of_getElem? (i := 2241) (by decide +kernel)) rfl
theorem u_133 : Cond.selects "FilterGuardModel" ⟨"FilterGuardModel", "same", "()Z"⟩ ⟨"FilterGuardModel", "same", "()Z"⟩ ∈ fg_g := fg_in (List.mem_of_getElem? (i := 133) (by decide +kernel)) rfl
theorem d_M_tells_64 : decode prog_14_method_40_code 64 = .ok (.istore_n 2, 1) := by decide +kernel
theorem d_M_tells_65 : decode prog_14_method_40_code 65 = .ok (.goto 126, 3) := by decide +kernel
theorem d_M_tells_68 : decode prog_14_method_40_code 68 = .ok (.aload_n 0, 1) := by decide +kernel
theorem d_M_tells_69 : decode prog_14_method_40_code 69 = .ok (.sipush 30075, 3) := by decide +kernel
theorem d_M_tells_72 : decode prog_14_method_40_code 72 = .ok (.sipush 30076, 3) := by decide +kernel
theorem d_M_tells_75 : decode prog_14_method_40_code 75 = .ok (.iload_n 1, 1) := by decide +kernel
theorem d_M_tells_76 : decode prog_14_method_40_code 76 = .ok (.iconst 1, 1) := by decide +kernel
theorem d_M_tells_77 : decode prog_14_method_40_code 77 = .ok (.if_icmp .ne 7, 3) := by decide +kernel
theorem d_M_tells_84 : decode prog_14_method_40_code 84 = .ok (.iconst 0, 1) := by decide +kernel
theorem d_M_tells_80 : decode prog_14_method_40_code 80 = .ok (.iconst 1, 1) := by decide +kernel
theorem d_M_tells_81 : decode prog_14_method_40_code 81 = .ok (.goto 4, 3) := by decide +kernel
theorem d_M_tells_93 : decode prog_14_method_40_code 93 = .ok (.aload_n 0, 1) := by decide +kernel
theorem d_M_tells_94 : decode prog_14_method_40_code 94 = .ok (.invokevirtual 282, 3) := by decide +kernel
theorem u_2247 : Cond.methodLink "FilterGuardModel" 282 ⟨"FilterGuardModel", "meets", "()Z"⟩ ∈ fg_g := fg_in (List.mem_of_getElem? (i := 2247) (by decide +kernel)) rfl
theorem u_2250 : Cond.code ⟨"FilterGuardModel", "meets", "()Z"⟩ prog_14_method_38_code 4 (some .boolean) ∈ fg_g := fg_in (List.mem_of_getElem? (i := 2250) (by decide +kernel)) rfl
theorem u_2249 : Cond.instanceMethod ⟨"FilterGuardModel", "meets", "()Z"⟩ ∈ fg_g := fg_in (List.mem_of_getElem? (i := 2249) (by decide +kernel)) rfl
theorem u_135 : Cond.selects "FilterGuardModel" ⟨"FilterGuardModel", "meets", "()Z"⟩ ⟨"FilterGuardModel", "meets", "()Z"⟩ ∈ fg_g := fg_in (List.mem_of_getElem? (i := 135) (by decide +kernel)) rfl
theorem d_M_tells_97 : decode prog_14_method_40_code 97 = .ok (.istore_n 2, 1) := by decide +kernel
theorem d_M_tells_98 : decode prog_14_method_40_code 98 = .ok (.goto 93, 3) := by decide +kernel
theorem d_M_tells_101 : decode prog_14_method_40_code 101 = .ok (.aload_n 0, 1) := by decide +kernel
theorem d_M_tells_102 : decode prog_14_method_40_code 102 = .ok (.invokevirtual 285, 3) := by decide +kernel
theorem u_2258 : Cond.methodLink "FilterGuardModel" 285 ⟨"FilterGuardModel", "notSame", "()Z"⟩ ∈ fg_g := fg_in (List.mem_of_getElem? (i := 2258) (by decide +kernel)) rfl
theorem u_2261 : Cond.code ⟨"FilterGuardModel", "notSame", "()Z"⟩ prog_14_method_36_code 5 (some .boolean) ∈ fg_g := fg_in (List.mem_of_getElem? (i := 2261) (by decide +kernel)) rfl
theorem u_2260 : Cond.instanceMethod ⟨"FilterGuardModel", "notSame", "()Z"⟩ ∈ fg_g := fg_in (List.mem_of_getElem? (i := 2260) (by decide +kernel)) rfl
theorem u_137 : Cond.selects "FilterGuardModel" ⟨"FilterGuardModel", "notSame", "()Z"⟩ ⟨"FilterGuardModel", "notSame", "()Z"⟩ ∈ fg_g := fg_in (List.mem_of_getElem? (i := 137) (by decide +kernel)) rfl
theorem d_M_tells_105 : decode prog_14_method_40_code 105 = .ok (.istore_n 2, 1) := by decide +kernel
theorem d_M_tells_106 : decode prog_14_method_40_code 106 = .ok (.goto 85, 3) := by decide +kernel
theorem d_M_tells_109 : decode prog_14_method_40_code 109 = .ok (.aload_n 0, 1) := by decide +kernel
theorem d_M_tells_110 : decode prog_14_method_40_code 110 = .ok (.sipush 30075, 3) := by decide +kernel
theorem d_M_tells_113 : decode prog_14_method_40_code 113 = .ok (.sipush 30076, 3) := by decide +kernel
theorem d_M_tells_116 : decode prog_14_method_40_code 116 = .ok (.iload_n 1, 1) := by decide +kernel
theorem d_M_tells_117 : decode prog_14_method_40_code 117 = .ok (.iconst 5, 1) := by decide +kernel
theorem d_M_tells_118 : decode prog_14_method_40_code 118 = .ok (.if_icmp .ne 7, 3) := by decide +kernel
theorem d_M_tells_125 : decode prog_14_method_40_code 125 = .ok (.iconst 0, 1) := by decide +kernel
theorem d_M_tells_121 : decode prog_14_method_40_code 121 = .ok (.iconst 1, 1) := by decide +kernel
theorem d_M_tells_122 : decode prog_14_method_40_code 122 = .ok (.goto 4, 3) := by decide +kernel
theorem d_M_tells_134 : decode prog_14_method_40_code 134 = .ok (.aload_n 0, 1) := by decide +kernel
theorem d_M_tells_135 : decode prog_14_method_40_code 135 = .ok (.sipush 30076, 3) := by decide +kernel
theorem d_M_tells_138 : decode prog_14_method_40_code 138 = .ok (.sipush 30075, 3) := by decide +kernel
theorem d_M_tells_141 : decode prog_14_method_40_code 141 = .ok (.iload_n 1, 1) := by decide +kernel
theorem d_M_tells_142 : decode prog_14_method_40_code 142 = .ok (.bipush 7, 2) := by decide +kernel
theorem d_M_tells_144 : decode prog_14_method_40_code 144 = .ok (.if_icmp .ne 7, 3) := by decide +kernel
theorem d_M_tells_151 : decode prog_14_method_40_code 151 = .ok (.iconst 0, 1) := by decide +kernel
theorem d_M_tells_147 : decode prog_14_method_40_code 147 = .ok (.iconst 1, 1) := by decide +kernel
theorem d_M_tells_148 : decode prog_14_method_40_code 148 = .ok (.goto 4, 3) := by decide +kernel
theorem d_M_tells_160 : decode prog_14_method_40_code 160 = .ok (.aload_n 0, 1) := by decide +kernel
theorem d_M_tells_161 : decode prog_14_method_40_code 161 = .ok (.sipush 30076, 3) := by decide +kernel
theorem d_M_tells_164 : decode prog_14_method_40_code 164 = .ok (.sipush 30075, 3) := by decide +kernel
theorem d_M_tells_167 : decode prog_14_method_40_code 167 = .ok (.iload_n 1, 1) := by decide +kernel
theorem d_M_tells_168 : decode prog_14_method_40_code 168 = .ok (.bipush 9, 2) := by decide +kernel
theorem d_M_tells_170 : decode prog_14_method_40_code 170 = .ok (.if_icmp .ne 7, 3) := by decide +kernel
theorem d_M_tells_177 : decode prog_14_method_40_code 177 = .ok (.iconst 0, 1) := by decide +kernel
theorem d_M_tells_173 : decode prog_14_method_40_code 173 = .ok (.iconst 1, 1) := by decide +kernel
theorem d_M_tells_174 : decode prog_14_method_40_code 174 = .ok (.goto 4, 3) := by decide +kernel
theorem d_M_tells_186 : decode prog_14_method_40_code 186 = .ok (.aload_n 0, 1) := by decide +kernel
theorem d_M_tells_187 : decode prog_14_method_40_code 187 = .ok (.invokevirtual 288, 3) := by decide +kernel
theorem u_2266 : Cond.methodLink "FilterGuardModel" 288 ⟨"FilterGuardModel", "misses", "()Z"⟩ ∈ fg_g := fg_in (List.mem_of_getElem? (i := 2266) (by decide +kernel)) rfl
theorem u_2269 : Cond.code ⟨"FilterGuardModel", "misses", "()Z"⟩ prog_14_method_39_code 2 (some .boolean) ∈ fg_g := fg_in (List.mem_of_getElem? (i := 2269) (by decide +kernel)) rfl
theorem u_2268 : Cond.instanceMethod ⟨"FilterGuardModel", "misses", "()Z"⟩ ∈ fg_g := fg_in (List.mem_of_getElem? (i := 2268) (by decide +kernel)) rfl
theorem u_139 : Cond.selects "FilterGuardModel" ⟨"FilterGuardModel", "misses", "()Z"⟩ ⟨"FilterGuardModel", "misses", "()Z"⟩ ∈ fg_g := fg_in (List.mem_of_getElem? (i := 139) (by decide +kernel)) rfl
theorem d_M_tells_190 : decode prog_14_method_40_code 190 = .ok (.istore_n 2, 1) := by decide +kernel
abbrev y_M_tells : MethodName := ⟨"FilterGuardModel", "tells", "(I)Z"⟩
def rm_M_tells : Room := { frames := 5, cells := 0, slots := 0, locals := 110 }
abbrev q_M_tells (D : va_G) (ad : Nat → Nat → Nat) (ca : Nat → ClassId) (N : Nat → Nat) (M0 MZ : me_M) (RZ : Int32) (A : Nat → Prop) : Array Value → Jvm.State → Outcome → Jvm.State → Prop := va_Qi (fun r (_ : Unit) => r = RZ ∧ me_wf N MZ ∧ me_kp M0 MZ ∧ (RZ = 1 ∨ RZ = 0)) (fg_B D A (fun _ => me_W ad ca MZ) (fun _ => [])) A
set_option maxHeartbeats 4000000 in
set_option maxRecDepth 100000 in
theorem c_M_tells (l : Launch) (D : va_G) (ad : Nat → Nat → Nat) (ca : Nat → ClassId) (N : Nat → Nat) (M0 MZ : me_M) (RZ : Int32) (j0 : Nat) (x1 : Int32) (h : f_M_tells M0 j0 x1 = (some (MZ, RZ))) (hwf : me_wf N M0) (hj0 : j0 < N 1) (sz : Nat) : Met l y_M_tells (fg_w y_M_tells prog_14_method_40_code 3 (some .boolean)) rm_M_tells (va_Pc [.ref (ad 1 j0), .int x1] (fz_P D (me_T ca) (me_W ad ca M0) sz)) (q_M_tells D ad ca N M0 MZ RZ (va_A (me_W ad ca M0) sz)) rm_M_tells.cells rm_M_tells.slots (va_A (me_W ad ca M0) sz) := by
  refine fz_enter (fun A => q_M_tells D ad ca N M0 MZ RZ A) (by decide +kernel) (Nat.le_of_ble_eq_true rfl) ?_
  intro p e s m below meth c ls A hx hb hml hown hts hr hlocks hin hP hK hD hS hA hX hl hz
  have hl : lv_has ls 3 [(0, .ref (ad 1 j0)), (1, .int x1)] := hl
  unfold f_M_tells at h
  have hkp : me_kp M0 M0 := me_kp.rf
  have hkb := hkp
  have b_191 : ∀ (M : me_M) (y2 : Int32) (H : Heap) (locs : List Loc) (ls : Array Slot), f_M_tells_b191 j0 M y2 = (some (MZ, RZ)) → (y2 = 1 ∨ y2 = 0) → me_wf N M → me_kp M0 M → va_P D classes (me_W ad ca M) H → va_D A (me_W ad ca M) → va_S A s.heap H locs → lv_has ls 3 [(0, .ref (ad 1 j0)), (2, .int y2)] → W p l e rm_M_tells s m [.ref (ad 1 j0), .int x1].toArray below meth c H locs 0 0 (MQ below (q_M_tells D ad ca N M0 MZ RZ A) [.ref (ad 1 j0), .int x1].toArray s rm_M_tells.cells rm_M_tells.slots A) (F0 m 191 ls []) := by
    intro M y2 H locs ls h zy2 hwf hkp hP hD hS hl
    unfold f_M_tells_b191 at h
    have hkb := hkp
    refine lv_iload_n hx hb d_M_tells_191 rfl (lv_at hl 1 rfl) ?_
    refine lv_if_eq (tgt := 219) hx hb d_M_tells_192 (by decide) (fun c1 => ?_) (fun c1 => ?_)
    · have h := if_t c1 h
      refine lv_iconst (v := 0) hx hb d_M_tells_219 (by decide) ?_
      exact me_retz (me_kp M0) h (by decide) hx hb hr hlocks hwf hkp hP hK hD hS d_M_tells_220
    have h := if_f c1 h
    refine lv_aload_n hx hb d_M_tells_195 rfl (lv_at hl 0 rfl) ?_
    refine lv_sipush (v := 30075) hx hb d_M_tells_196 (by decide) ?_
    obtain ⟨M2, r3, eM2, h⟩ := b2_ob h
    refine me_theni0 (M1 := M2) (me_runV (C := "FilterGuardModel") (As := [.int 30075]) (rest := []) ⟨hx, hb, hml, hown, hts⟩ (c_M_settle l D ad ca N M M2 r3 j0 (30075 : Int32) eM2 hwf hj0 _) rfl (by show fg_nm y_M_settle 1; decide +kernel) u_2143 u_2145 u_113 u_192 u_2146 ⟨Nat.le_of_ble_eq_true rfl, Nat.le_of_ble_eq_true rfl⟩ hX hz hK hP hD hwf hS hA hj0 (by decide) rfl rfl rfl hl.1 (Nat.le_of_ble_eq_true rfl) d_M_tells_199 ⟨Nat.le_of_ble_eq_true rfl, Nat.le_of_ble_eq_true rfl⟩) hP hD hK hS hA rfl rfl (fun H locs hw hP hD hS => ?_)
    obtain ⟨hwf, hk9, zr3⟩ := hw
    have hkp := hkp.tr hk9
    refine lv_if_eq (tgt := 219) hx hb d_M_tells_202 (by decide) (fun c4 => ?_) (fun c4 => ?_)
    · have h := if_t c4 h
      refine lv_iconst (v := 0) hx hb d_M_tells_219 (by decide) ?_
      exact me_retz (me_kp M0) h (by decide) hx hb hr hlocks hwf hkp hP hK hD hS d_M_tells_220
    have h := if_f c4 h
    refine lv_aload_n hx hb d_M_tells_205 rfl (lv_at hl 0 rfl) ?_
    refine lv_sipush (v := 30076) hx hb d_M_tells_206 (by decide) ?_
    obtain ⟨M5, r6, eM5, h⟩ := b2_ob h
    refine me_theni0 (M1 := M5) (me_runV (C := "FilterGuardModel") (As := [.int 30076]) (rest := []) ⟨hx, hb, hml, hown, hts⟩ (c_M_settle l D ad ca N M2 M5 r6 j0 (30076 : Int32) eM5 hwf hj0 _) rfl (by show fg_nm y_M_settle 1; decide +kernel) u_2143 u_2145 u_113 u_192 u_2146 ⟨Nat.le_of_ble_eq_true rfl, Nat.le_of_ble_eq_true rfl⟩ hX hz hK hP hD hwf hS hA hj0 (by decide) rfl rfl rfl hl.1 (Nat.le_of_ble_eq_true rfl) d_M_tells_209 ⟨Nat.le_of_ble_eq_true rfl, Nat.le_of_ble_eq_true rfl⟩) hP hD hK hS hA rfl rfl (fun H locs hw hP hD hS => ?_)
    obtain ⟨hwf, hk9, zr6⟩ := hw
    have hkp := hkp.tr hk9
    refine lv_if_eq (tgt := 219) hx hb d_M_tells_212 (by decide) (fun c7 => ?_) (fun c7 => ?_)
    · have h := if_t c7 h
      refine lv_iconst (v := 0) hx hb d_M_tells_219 (by decide) ?_
      exact me_retz (me_kp M0) h (by decide) hx hb hr hlocks hwf hkp hP hK hD hS d_M_tells_220
    have h := if_f c7 h
    refine lv_iconst (v := 1) hx hb d_M_tells_215 (by decide) ?_
    refine lv_goto (tgt := 220) hx hb d_M_tells_216 (by decide) ?_
    exact me_retz (me_kp M0) h (by decide) hx hb hr hlocks hwf hkp hP hK hD hS d_M_tells_220
  have b_178 : ∀ (M : me_M) (s0 : Int32) (s1 : Int32) (s2 : Int32) (s3 : Nat) (H : Heap) (locs : List Loc) (ls : Array Slot), f_M_tells_b178 j0 M s0 s1 s2 s3 = (some (MZ, RZ)) → (s0 = 1 ∨ s0 = 0) → (s3 < N 1) → me_wf N M → me_kp M0 M → va_P D classes (me_W ad ca M) H → va_D A (me_W ad ca M) → va_S A s.heap H locs → lv_has ls 3 [(0, .ref (ad 1 j0))] → W p l e rm_M_tells s m [.ref (ad 1 j0), .int x1].toArray below meth c H locs 0 0 (MQ below (q_M_tells D ad ca N M0 MZ RZ A) [.ref (ad 1 j0), .int x1].toArray s rm_M_tells.cells rm_M_tells.slots A) (F0 m 178 ls [.int s0, .int s1, .int s2, .ref (ad 1 s3)]) := by
    intro M s0 s1 s2 s3 H locs ls h zs0 hs3 hwf hkp hP hD hS hl
    unfold f_M_tells_b178 at h
    have hkb := hkp
    refine lv_iconst (v := 1) hx hb d_M_tells_178 (by decide) ?_
    obtain ⟨M8, r9, eM8, h⟩ := b2_ob h
    refine me_theni0 (M1 := M8) (me_runV (C := "FilterGuardModel") (As := [.int s2, .int s1, .int s0, .int 1]) (rest := []) ⟨hx, hb, hml, hown, hts⟩ (c_M_orders l D ad ca N M M8 r9 s3 s2 s1 s0 (1 : Int32) eM8 hwf hs3 zs0 (by decide) _) rfl (by show fg_nm y_M_orders 4; decide +kernel) u_2243 u_2245 u_134 u_192 u_2246 ⟨Nat.le_of_ble_eq_true rfl, Nat.le_of_ble_eq_true rfl⟩ hX hz hK hP hD hwf hS hA hs3 (by decide) rfl rfl rfl hl.1 (Nat.le_of_ble_eq_true rfl) d_M_tells_179 ⟨Nat.le_of_ble_eq_true rfl, Nat.le_of_ble_eq_true rfl⟩) hP hD hK hS hA rfl rfl (fun H locs hw hP hD hS => ?_)
    obtain ⟨hwf, hk9, zr9⟩ := hw
    have hkp := hkp.tr hk9
    refine lv_istore_n (lv' := [(2, .int r9), (0, .ref (ad 1 j0))]) hx hb d_M_tells_182 rfl hl (by decide) rfl (fun ls hl => ?_)
    refine lv_goto (tgt := 191) hx hb d_M_tells_183 (by decide) ?_
    exact b_191 M8 r9 _ _ _ h zr9 hwf hkp hP hD hS (lv_sub hl [1, 0] rfl)
  have b_152 : ∀ (M : me_M) (s0 : Int32) (s1 : Int32) (s2 : Int32) (s3 : Nat) (H : Heap) (locs : List Loc) (ls : Array Slot), f_M_tells_b152 j0 M s0 s1 s2 s3 = (some (MZ, RZ)) → (s0 = 1 ∨ s0 = 0) → (s3 < N 1) → me_wf N M → me_kp M0 M → va_P D classes (me_W ad ca M) H → va_D A (me_W ad ca M) → va_S A s.heap H locs → lv_has ls 3 [(0, .ref (ad 1 j0))] → W p l e rm_M_tells s m [.ref (ad 1 j0), .int x1].toArray below meth c H locs 0 0 (MQ below (q_M_tells D ad ca N M0 MZ RZ A) [.ref (ad 1 j0), .int x1].toArray s rm_M_tells.cells rm_M_tells.slots A) (F0 m 152 ls [.int s0, .int s1, .int s2, .ref (ad 1 s3)]) := by
    intro M s0 s1 s2 s3 H locs ls h zs0 hs3 hwf hkp hP hD hS hl
    unfold f_M_tells_b152 at h
    have hkb := hkp
    refine lv_iconst (v := 0) hx hb d_M_tells_152 (by decide) ?_
    obtain ⟨M10, r11, eM10, h⟩ := b2_ob h
    refine me_theni0 (M1 := M10) (me_runV (C := "FilterGuardModel") (As := [.int s2, .int s1, .int s0, .int 0]) (rest := []) ⟨hx, hb, hml, hown, hts⟩ (c_M_orders l D ad ca N M M10 r11 s3 s2 s1 s0 (0 : Int32) eM10 hwf hs3 zs0 (by decide) _) rfl (by show fg_nm y_M_orders 4; decide +kernel) u_2243 u_2245 u_134 u_192 u_2246 ⟨Nat.le_of_ble_eq_true rfl, Nat.le_of_ble_eq_true rfl⟩ hX hz hK hP hD hwf hS hA hs3 (by decide) rfl rfl rfl hl.1 (Nat.le_of_ble_eq_true rfl) d_M_tells_153 ⟨Nat.le_of_ble_eq_true rfl, Nat.le_of_ble_eq_true rfl⟩) hP hD hK hS hA rfl rfl (fun H locs hw hP hD hS => ?_)
    obtain ⟨hwf, hk9, zr11⟩ := hw
    have hkp := hkp.tr hk9
    refine lv_istore_n (lv' := [(2, .int r11), (0, .ref (ad 1 j0))]) hx hb d_M_tells_156 rfl hl (by decide) rfl (fun ls hl => ?_)
    refine lv_goto (tgt := 191) hx hb d_M_tells_157 (by decide) ?_
    exact b_191 M10 r11 _ _ _ h zr11 hwf hkp hP hD hS (lv_sub hl [1, 0] rfl)
  have b_126 : ∀ (M : me_M) (s0 : Int32) (s1 : Int32) (s2 : Int32) (s3 : Nat) (H : Heap) (locs : List Loc) (ls : Array Slot), f_M_tells_b126 j0 M s0 s1 s2 s3 = (some (MZ, RZ)) → (s0 = 1 ∨ s0 = 0) → (s3 < N 1) → me_wf N M → me_kp M0 M → va_P D classes (me_W ad ca M) H → va_D A (me_W ad ca M) → va_S A s.heap H locs → lv_has ls 3 [(0, .ref (ad 1 j0))] → W p l e rm_M_tells s m [.ref (ad 1 j0), .int x1].toArray below meth c H locs 0 0 (MQ below (q_M_tells D ad ca N M0 MZ RZ A) [.ref (ad 1 j0), .int x1].toArray s rm_M_tells.cells rm_M_tells.slots A) (F0 m 126 ls [.int s0, .int s1, .int s2, .ref (ad 1 s3)]) := by
    intro M s0 s1 s2 s3 H locs ls h zs0 hs3 hwf hkp hP hD hS hl
    unfold f_M_tells_b126 at h
    have hkb := hkp
    refine lv_iconst (v := 1) hx hb d_M_tells_126 (by decide) ?_
    obtain ⟨M12, r13, eM12, h⟩ := b2_ob h
    refine me_theni0 (M1 := M12) (me_runV (C := "FilterGuardModel") (As := [.int s2, .int s1, .int s0, .int 1]) (rest := []) ⟨hx, hb, hml, hown, hts⟩ (c_M_orders l D ad ca N M M12 r13 s3 s2 s1 s0 (1 : Int32) eM12 hwf hs3 zs0 (by decide) _) rfl (by show fg_nm y_M_orders 4; decide +kernel) u_2243 u_2245 u_134 u_192 u_2246 ⟨Nat.le_of_ble_eq_true rfl, Nat.le_of_ble_eq_true rfl⟩ hX hz hK hP hD hwf hS hA hs3 (by decide) rfl rfl rfl hl.1 (Nat.le_of_ble_eq_true rfl) d_M_tells_127 ⟨Nat.le_of_ble_eq_true rfl, Nat.le_of_ble_eq_true rfl⟩) hP hD hK hS hA rfl rfl (fun H locs hw hP hD hS => ?_)
    obtain ⟨hwf, hk9, zr13⟩ := hw
    have hkp := hkp.tr hk9
    refine lv_istore_n (lv' := [(2, .int r13), (0, .ref (ad 1 j0))]) hx hb d_M_tells_130 rfl hl (by decide) rfl (fun ls hl => ?_)
    refine lv_goto (tgt := 191) hx hb d_M_tells_131 (by decide) ?_
    exact b_191 M12 r13 _ _ _ h zr13 hwf hkp hP hD hS (lv_sub hl [1, 0] rfl)
  have b_85 : ∀ (M : me_M) (s0 : Int32) (s1 : Int32) (s2 : Int32) (s3 : Nat) (H : Heap) (locs : List Loc) (ls : Array Slot), f_M_tells_b85 j0 M s0 s1 s2 s3 = (some (MZ, RZ)) → (s0 = 1 ∨ s0 = 0) → (s3 < N 1) → me_wf N M → me_kp M0 M → va_P D classes (me_W ad ca M) H → va_D A (me_W ad ca M) → va_S A s.heap H locs → lv_has ls 3 [(0, .ref (ad 1 j0))] → W p l e rm_M_tells s m [.ref (ad 1 j0), .int x1].toArray below meth c H locs 0 0 (MQ below (q_M_tells D ad ca N M0 MZ RZ A) [.ref (ad 1 j0), .int x1].toArray s rm_M_tells.cells rm_M_tells.slots A) (F0 m 85 ls [.int s0, .int s1, .int s2, .ref (ad 1 s3)]) := by
    intro M s0 s1 s2 s3 H locs ls h zs0 hs3 hwf hkp hP hD hS hl
    unfold f_M_tells_b85 at h
    have hkb := hkp
    refine lv_iconst (v := 0) hx hb d_M_tells_85 (by decide) ?_
    obtain ⟨M14, r15, eM14, h⟩ := b2_ob h
    refine me_theni0 (M1 := M14) (me_runV (C := "FilterGuardModel") (As := [.int s2, .int s1, .int s0, .int 0]) (rest := []) ⟨hx, hb, hml, hown, hts⟩ (c_M_orders l D ad ca N M M14 r15 s3 s2 s1 s0 (0 : Int32) eM14 hwf hs3 zs0 (by decide) _) rfl (by show fg_nm y_M_orders 4; decide +kernel) u_2243 u_2245 u_134 u_192 u_2246 ⟨Nat.le_of_ble_eq_true rfl, Nat.le_of_ble_eq_true rfl⟩ hX hz hK hP hD hwf hS hA hs3 (by decide) rfl rfl rfl hl.1 (Nat.le_of_ble_eq_true rfl) d_M_tells_86 ⟨Nat.le_of_ble_eq_true rfl, Nat.le_of_ble_eq_true rfl⟩) hP hD hK hS hA rfl rfl (fun H locs hw hP hD hS => ?_)
    obtain ⟨hwf, hk9, zr15⟩ := hw
    have hkp := hkp.tr hk9
    refine lv_istore_n (lv' := [(2, .int r15), (0, .ref (ad 1 j0))]) hx hb d_M_tells_89 rfl hl (by decide) rfl (fun ls hl => ?_)
    refine lv_goto (tgt := 191) hx hb d_M_tells_90 (by decide) ?_
    exact b_191 M14 r15 _ _ _ h zr15 hwf hkp hP hD hS (lv_sub hl [1, 0] rfl)
  refine lv_iconst (v := 1) hx hb d_M_tells_0 (by decide) ?_
  refine lv_istore_n (lv' := [(2, .int 1), (0, .ref (ad 1 j0)), (1, .int x1)]) hx hb d_M_tells_1 rfl hl (by decide) rfl (fun ls hl => ?_)
  refine lv_iload_n hx hb d_M_tells_2 rfl (lv_at hl 2 rfl) ?_
  refine lv_topi (fun w16 ew16 => ?_)
  by_cases n17 : w16 = 0
  · have h := if_t (ew16.symm.trans n17) h
    subst n17
    refine lv_tableIn (off := 57) (tgt := 60) hx hb d_M_tells_3 (by decide) (by decide) (by decide) (by decide) ?_
    refine lv_aload_n hx hb d_M_tells_60 rfl (lv_at hl 1 rfl) ?_
    obtain ⟨M18, r19, eM18, h⟩ := b2_ob h
    refine me_theni0 (M1 := M18) (me_runV (C := "FilterGuardModel") (As := []) (rest := []) ⟨hx, hb, hml, hown, hts⟩ (c_M_same l D ad ca N M0 M18 r19 j0 eM18 hwf hj0 _) rfl (by show fg_nm y_M_same 0; decide +kernel) u_2239 u_2241 u_133 u_192 u_2242 ⟨Nat.le_of_ble_eq_true rfl, Nat.le_of_ble_eq_true rfl⟩ hX hz hK hP hD hwf hS hA hj0 (by decide) rfl rfl rfl hl.1 (Nat.le_of_ble_eq_true rfl) d_M_tells_61 ⟨Nat.le_of_ble_eq_true rfl, Nat.le_of_ble_eq_true rfl⟩) hP hD hK hS hA rfl rfl (fun H locs hw hP hD hS => ?_)
    obtain ⟨hwf, hk9, zr19⟩ := hw
    have hkp := hkp.tr hk9
    refine lv_istore_n (lv' := [(2, .int r19), (0, .ref (ad 1 j0)), (1, .int x1)]) hx hb d_M_tells_64 rfl hl (by decide) rfl (fun ls hl => ?_)
    refine lv_goto (tgt := 191) hx hb d_M_tells_65 (by decide) ?_
    exact b_191 M18 r19 _ _ _ h zr19 hwf hkp hP hD hS (lv_sub hl [1, 0] rfl)
  have h := if_f (fun z => n17 (ew16.trans z)) h
  by_cases n20 : w16 = 1
  · have h := if_t (ew16.symm.trans n20) h
    subst n20
    refine lv_tableIn (off := 65) (tgt := 68) hx hb d_M_tells_3 (by decide) (by decide) (by decide) (by decide) ?_
    refine lv_aload_n hx hb d_M_tells_68 rfl (lv_at hl 1 rfl) ?_
    refine lv_sipush (v := 30075) hx hb d_M_tells_69 (by decide) ?_
    refine lv_sipush (v := 30076) hx hb d_M_tells_72 (by decide) ?_
    refine lv_iload_n hx hb d_M_tells_75 rfl (lv_at hl 2 rfl) ?_
    refine lv_iconst (v := 1) hx hb d_M_tells_76 (by decide) ?_
    refine lv_icmp_ne (tgt := 84) hx hb d_M_tells_77 (by decide) (fun c21 => ?_) (fun c21 => ?_)
    · have h := if_f c21 h
      refine lv_iconst (v := 0) hx hb d_M_tells_84 (by decide) ?_
      exact b_85 M0 (0 : Int32) (30076 : Int32) (30075 : Int32) j0 _ _ _ h (by decide) hj0 hwf hkp hP hD hS (lv_sub hl [1] rfl)
    have h := if_t c21 h
    refine lv_iconst (v := 1) hx hb d_M_tells_80 (by decide) ?_
    refine lv_goto (tgt := 85) hx hb d_M_tells_81 (by decide) ?_
    exact b_85 M0 (1 : Int32) (30076 : Int32) (30075 : Int32) j0 _ _ _ h (by decide) hj0 hwf hkp hP hD hS (lv_sub hl [1] rfl)
  have h := if_f (fun z => n20 (ew16.trans z)) h
  by_cases n22 : w16 = 2
  · have h := if_t (ew16.symm.trans n22) h
    subst n22
    refine lv_tableIn (off := 65) (tgt := 68) hx hb d_M_tells_3 (by decide) (by decide) (by decide) (by decide) ?_
    refine lv_aload_n hx hb d_M_tells_68 rfl (lv_at hl 1 rfl) ?_
    refine lv_sipush (v := 30075) hx hb d_M_tells_69 (by decide) ?_
    refine lv_sipush (v := 30076) hx hb d_M_tells_72 (by decide) ?_
    refine lv_iload_n hx hb d_M_tells_75 rfl (lv_at hl 2 rfl) ?_
    refine lv_iconst (v := 1) hx hb d_M_tells_76 (by decide) ?_
    refine lv_icmp_ne (tgt := 84) hx hb d_M_tells_77 (by decide) (fun c23 => ?_) (fun c23 => ?_)
    · have h := if_f c23 h
      refine lv_iconst (v := 0) hx hb d_M_tells_84 (by decide) ?_
      exact b_85 M0 (0 : Int32) (30076 : Int32) (30075 : Int32) j0 _ _ _ h (by decide) hj0 hwf hkp hP hD hS (lv_sub hl [1] rfl)
    have h := if_t c23 h
    refine lv_iconst (v := 1) hx hb d_M_tells_80 (by decide) ?_
    refine lv_goto (tgt := 85) hx hb d_M_tells_81 (by decide) ?_
    exact b_85 M0 (1 : Int32) (30076 : Int32) (30075 : Int32) j0 _ _ _ h (by decide) hj0 hwf hkp hP hD hS (lv_sub hl [1] rfl)
  have h := if_f (fun z => n22 (ew16.trans z)) h
  by_cases n24 : w16 = 3
  · have h := if_t (ew16.symm.trans n24) h
    subst n24
    refine lv_tableIn (off := 90) (tgt := 93) hx hb d_M_tells_3 (by decide) (by decide) (by decide) (by decide) ?_
    refine lv_aload_n hx hb d_M_tells_93 rfl (lv_at hl 1 rfl) ?_
    obtain ⟨M25, r26, eM25, h⟩ := b2_ob h
    refine me_theni0 (M1 := M25) (me_runV (C := "FilterGuardModel") (As := []) (rest := []) ⟨hx, hb, hml, hown, hts⟩ (c_M_meets l D ad ca N M0 M25 r26 j0 eM25 hwf hj0 _) rfl (by show fg_nm y_M_meets 0; decide +kernel) u_2247 u_2249 u_135 u_192 u_2250 ⟨Nat.le_of_ble_eq_true rfl, Nat.le_of_ble_eq_true rfl⟩ hX hz hK hP hD hwf hS hA hj0 (by decide) rfl rfl rfl hl.1 (Nat.le_of_ble_eq_true rfl) d_M_tells_94 ⟨Nat.le_of_ble_eq_true rfl, Nat.le_of_ble_eq_true rfl⟩) hP hD hK hS hA rfl rfl (fun H locs hw hP hD hS => ?_)
    obtain ⟨hwf, hk9, zr26⟩ := hw
    have hkp := hkp.tr hk9
    refine lv_istore_n (lv' := [(2, .int r26), (0, .ref (ad 1 j0)), (1, .int x1)]) hx hb d_M_tells_97 rfl hl (by decide) rfl (fun ls hl => ?_)
    refine lv_goto (tgt := 191) hx hb d_M_tells_98 (by decide) ?_
    exact b_191 M25 r26 _ _ _ h zr26 hwf hkp hP hD hS (lv_sub hl [1, 0] rfl)
  have h := if_f (fun z => n24 (ew16.trans z)) h
  by_cases n27 : w16 = 4
  · have h := if_t (ew16.symm.trans n27) h
    subst n27
    refine lv_tableIn (off := 98) (tgt := 101) hx hb d_M_tells_3 (by decide) (by decide) (by decide) (by decide) ?_
    refine lv_aload_n hx hb d_M_tells_101 rfl (lv_at hl 1 rfl) ?_
    obtain ⟨M28, r29, eM28, h⟩ := b2_ob h
    refine me_theni0 (M1 := M28) (me_runV (C := "FilterGuardModel") (As := []) (rest := []) ⟨hx, hb, hml, hown, hts⟩ (c_M_notSame l D ad ca N M0 M28 r29 j0 eM28 hwf hj0 _) rfl (by show fg_nm y_M_notSame 0; decide +kernel) u_2258 u_2260 u_137 u_192 u_2261 ⟨Nat.le_of_ble_eq_true rfl, Nat.le_of_ble_eq_true rfl⟩ hX hz hK hP hD hwf hS hA hj0 (by decide) rfl rfl rfl hl.1 (Nat.le_of_ble_eq_true rfl) d_M_tells_102 ⟨Nat.le_of_ble_eq_true rfl, Nat.le_of_ble_eq_true rfl⟩) hP hD hK hS hA rfl rfl (fun H locs hw hP hD hS => ?_)
    obtain ⟨hwf, hk9, zr29⟩ := hw
    have hkp := hkp.tr hk9
    refine lv_istore_n (lv' := [(2, .int r29), (0, .ref (ad 1 j0)), (1, .int x1)]) hx hb d_M_tells_105 rfl hl (by decide) rfl (fun ls hl => ?_)
    refine lv_goto (tgt := 191) hx hb d_M_tells_106 (by decide) ?_
    exact b_191 M28 r29 _ _ _ h zr29 hwf hkp hP hD hS (lv_sub hl [1, 0] rfl)
  have h := if_f (fun z => n27 (ew16.trans z)) h
  by_cases n30 : w16 = 5
  · have h := if_t (ew16.symm.trans n30) h
    subst n30
    refine lv_tableIn (off := 106) (tgt := 109) hx hb d_M_tells_3 (by decide) (by decide) (by decide) (by decide) ?_
    refine lv_aload_n hx hb d_M_tells_109 rfl (lv_at hl 1 rfl) ?_
    refine lv_sipush (v := 30075) hx hb d_M_tells_110 (by decide) ?_
    refine lv_sipush (v := 30076) hx hb d_M_tells_113 (by decide) ?_
    refine lv_iload_n hx hb d_M_tells_116 rfl (lv_at hl 2 rfl) ?_
    refine lv_iconst (v := 5) hx hb d_M_tells_117 (by decide) ?_
    refine lv_icmp_ne (tgt := 125) hx hb d_M_tells_118 (by decide) (fun c31 => ?_) (fun c31 => ?_)
    · have h := if_f c31 h
      refine lv_iconst (v := 0) hx hb d_M_tells_125 (by decide) ?_
      exact b_126 M0 (0 : Int32) (30076 : Int32) (30075 : Int32) j0 _ _ _ h (by decide) hj0 hwf hkp hP hD hS (lv_sub hl [1] rfl)
    have h := if_t c31 h
    refine lv_iconst (v := 1) hx hb d_M_tells_121 (by decide) ?_
    refine lv_goto (tgt := 126) hx hb d_M_tells_122 (by decide) ?_
    exact b_126 M0 (1 : Int32) (30076 : Int32) (30075 : Int32) j0 _ _ _ h (by decide) hj0 hwf hkp hP hD hS (lv_sub hl [1] rfl)
  have h := if_f (fun z => n30 (ew16.trans z)) h
  by_cases n32 : w16 = 6
  · have h := if_t (ew16.symm.trans n32) h
    subst n32
    refine lv_tableIn (off := 106) (tgt := 109) hx hb d_M_tells_3 (by decide) (by decide) (by decide) (by decide) ?_
    refine lv_aload_n hx hb d_M_tells_109 rfl (lv_at hl 1 rfl) ?_
    refine lv_sipush (v := 30075) hx hb d_M_tells_110 (by decide) ?_
    refine lv_sipush (v := 30076) hx hb d_M_tells_113 (by decide) ?_
    refine lv_iload_n hx hb d_M_tells_116 rfl (lv_at hl 2 rfl) ?_
    refine lv_iconst (v := 5) hx hb d_M_tells_117 (by decide) ?_
    refine lv_icmp_ne (tgt := 125) hx hb d_M_tells_118 (by decide) (fun c33 => ?_) (fun c33 => ?_)
    · have h := if_f c33 h
      refine lv_iconst (v := 0) hx hb d_M_tells_125 (by decide) ?_
      exact b_126 M0 (0 : Int32) (30076 : Int32) (30075 : Int32) j0 _ _ _ h (by decide) hj0 hwf hkp hP hD hS (lv_sub hl [1] rfl)
    have h := if_t c33 h
    refine lv_iconst (v := 1) hx hb d_M_tells_121 (by decide) ?_
    refine lv_goto (tgt := 126) hx hb d_M_tells_122 (by decide) ?_
    exact b_126 M0 (1 : Int32) (30076 : Int32) (30075 : Int32) j0 _ _ _ h (by decide) hj0 hwf hkp hP hD hS (lv_sub hl [1] rfl)
  have h := if_f (fun z => n32 (ew16.trans z)) h
  by_cases n34 : w16 = 7
  · have h := if_t (ew16.symm.trans n34) h
    subst n34
    refine lv_tableIn (off := 131) (tgt := 134) hx hb d_M_tells_3 (by decide) (by decide) (by decide) (by decide) ?_
    refine lv_aload_n hx hb d_M_tells_134 rfl (lv_at hl 1 rfl) ?_
    refine lv_sipush (v := 30076) hx hb d_M_tells_135 (by decide) ?_
    refine lv_sipush (v := 30075) hx hb d_M_tells_138 (by decide) ?_
    refine lv_iload_n hx hb d_M_tells_141 rfl (lv_at hl 2 rfl) ?_
    refine lv_bipush (v := 7) hx hb d_M_tells_142 (by decide) ?_
    refine lv_icmp_ne (tgt := 151) hx hb d_M_tells_144 (by decide) (fun c35 => ?_) (fun c35 => ?_)
    · have h := if_f c35 h
      refine lv_iconst (v := 0) hx hb d_M_tells_151 (by decide) ?_
      exact b_152 M0 (0 : Int32) (30075 : Int32) (30076 : Int32) j0 _ _ _ h (by decide) hj0 hwf hkp hP hD hS (lv_sub hl [1] rfl)
    have h := if_t c35 h
    refine lv_iconst (v := 1) hx hb d_M_tells_147 (by decide) ?_
    refine lv_goto (tgt := 152) hx hb d_M_tells_148 (by decide) ?_
    exact b_152 M0 (1 : Int32) (30075 : Int32) (30076 : Int32) j0 _ _ _ h (by decide) hj0 hwf hkp hP hD hS (lv_sub hl [1] rfl)
  have h := if_f (fun z => n34 (ew16.trans z)) h
  by_cases n36 : w16 = 8
  · have h := if_t (ew16.symm.trans n36) h
    subst n36
    refine lv_tableIn (off := 131) (tgt := 134) hx hb d_M_tells_3 (by decide) (by decide) (by decide) (by decide) ?_
    refine lv_aload_n hx hb d_M_tells_134 rfl (lv_at hl 1 rfl) ?_
    refine lv_sipush (v := 30076) hx hb d_M_tells_135 (by decide) ?_
    refine lv_sipush (v := 30075) hx hb d_M_tells_138 (by decide) ?_
    refine lv_iload_n hx hb d_M_tells_141 rfl (lv_at hl 2 rfl) ?_
    refine lv_bipush (v := 7) hx hb d_M_tells_142 (by decide) ?_
    refine lv_icmp_ne (tgt := 151) hx hb d_M_tells_144 (by decide) (fun c37 => ?_) (fun c37 => ?_)
    · have h := if_f c37 h
      refine lv_iconst (v := 0) hx hb d_M_tells_151 (by decide) ?_
      exact b_152 M0 (0 : Int32) (30075 : Int32) (30076 : Int32) j0 _ _ _ h (by decide) hj0 hwf hkp hP hD hS (lv_sub hl [1] rfl)
    have h := if_t c37 h
    refine lv_iconst (v := 1) hx hb d_M_tells_147 (by decide) ?_
    refine lv_goto (tgt := 152) hx hb d_M_tells_148 (by decide) ?_
    exact b_152 M0 (1 : Int32) (30075 : Int32) (30076 : Int32) j0 _ _ _ h (by decide) hj0 hwf hkp hP hD hS (lv_sub hl [1] rfl)
  have h := if_f (fun z => n36 (ew16.trans z)) h
  by_cases n38 : w16 = 9
  · have h := if_t (ew16.symm.trans n38) h
    subst n38
    refine lv_tableIn (off := 157) (tgt := 160) hx hb d_M_tells_3 (by decide) (by decide) (by decide) (by decide) ?_
    refine lv_aload_n hx hb d_M_tells_160 rfl (lv_at hl 1 rfl) ?_
    refine lv_sipush (v := 30076) hx hb d_M_tells_161 (by decide) ?_
    refine lv_sipush (v := 30075) hx hb d_M_tells_164 (by decide) ?_
    refine lv_iload_n hx hb d_M_tells_167 rfl (lv_at hl 2 rfl) ?_
    refine lv_bipush (v := 9) hx hb d_M_tells_168 (by decide) ?_
    refine lv_icmp_ne (tgt := 177) hx hb d_M_tells_170 (by decide) (fun c39 => ?_) (fun c39 => ?_)
    · have h := if_f c39 h
      refine lv_iconst (v := 0) hx hb d_M_tells_177 (by decide) ?_
      exact b_178 M0 (0 : Int32) (30075 : Int32) (30076 : Int32) j0 _ _ _ h (by decide) hj0 hwf hkp hP hD hS (lv_sub hl [1] rfl)
    have h := if_t c39 h
    refine lv_iconst (v := 1) hx hb d_M_tells_173 (by decide) ?_
    refine lv_goto (tgt := 178) hx hb d_M_tells_174 (by decide) ?_
    exact b_178 M0 (1 : Int32) (30075 : Int32) (30076 : Int32) j0 _ _ _ h (by decide) hj0 hwf hkp hP hD hS (lv_sub hl [1] rfl)
  have h := if_f (fun z => n38 (ew16.trans z)) h
  by_cases n40 : w16 = 10
  · have h := if_t (ew16.symm.trans n40) h
    subst n40
    refine lv_tableIn (off := 157) (tgt := 160) hx hb d_M_tells_3 (by decide) (by decide) (by decide) (by decide) ?_
    refine lv_aload_n hx hb d_M_tells_160 rfl (lv_at hl 1 rfl) ?_
    refine lv_sipush (v := 30076) hx hb d_M_tells_161 (by decide) ?_
    refine lv_sipush (v := 30075) hx hb d_M_tells_164 (by decide) ?_
    refine lv_iload_n hx hb d_M_tells_167 rfl (lv_at hl 2 rfl) ?_
    refine lv_bipush (v := 9) hx hb d_M_tells_168 (by decide) ?_
    refine lv_icmp_ne (tgt := 177) hx hb d_M_tells_170 (by decide) (fun c41 => ?_) (fun c41 => ?_)
    · have h := if_f c41 h
      refine lv_iconst (v := 0) hx hb d_M_tells_177 (by decide) ?_
      exact b_178 M0 (0 : Int32) (30075 : Int32) (30076 : Int32) j0 _ _ _ h (by decide) hj0 hwf hkp hP hD hS (lv_sub hl [1] rfl)
    have h := if_t c41 h
    refine lv_iconst (v := 1) hx hb d_M_tells_173 (by decide) ?_
    refine lv_goto (tgt := 178) hx hb d_M_tells_174 (by decide) ?_
    exact b_178 M0 (1 : Int32) (30075 : Int32) (30076 : Int32) j0 _ _ _ h (by decide) hj0 hwf hkp hP hD hS (lv_sub hl [1] rfl)
  have h := if_f (fun z => n40 (ew16.trans z)) h
  have in17 := lv_neT n17 (show (0 : Int32).toInt = 0 from rfl)
  have in20 := lv_neT n20 (show (1 : Int32).toInt = 1 from rfl)
  have in22 := lv_neT n22 (show (2 : Int32).toInt = 2 from rfl)
  have in24 := lv_neT n24 (show (3 : Int32).toInt = 3 from rfl)
  have in27 := lv_neT n27 (show (4 : Int32).toInt = 4 from rfl)
  have in30 := lv_neT n30 (show (5 : Int32).toInt = 5 from rfl)
  have in32 := lv_neT n32 (show (6 : Int32).toInt = 6 from rfl)
  have in34 := lv_neT n34 (show (7 : Int32).toInt = 7 from rfl)
  have in36 := lv_neT n36 (show (8 : Int32).toInt = 8 from rfl)
  have in38 := lv_neT n38 (show (9 : Int32).toInt = 9 from rfl)
  have in40 := lv_neT n40 (show (10 : Int32).toInt = 10 from rfl)
  refine lv_tableOut (tgt := 186) hx hb d_M_tells_3 (by omega) (by decide) ?_
  refine lv_aload_n hx hb d_M_tells_186 rfl (lv_at hl 1 rfl) ?_
  obtain ⟨M42, r43, eM42, h⟩ := b2_ob h
  refine me_theni0 (M1 := M42) (me_runV (C := "FilterGuardModel") (As := []) (rest := []) ⟨hx, hb, hml, hown, hts⟩ (c_M_misses l D ad ca N M0 M42 r43 j0 eM42 hwf hj0 _) rfl (by show fg_nm y_M_misses 0; decide +kernel) u_2266 u_2268 u_139 u_192 u_2269 ⟨Nat.le_of_ble_eq_true rfl, Nat.le_of_ble_eq_true rfl⟩ hX hz hK hP hD hwf hS hA hj0 (by decide) rfl rfl rfl hl.1 (Nat.le_of_ble_eq_true rfl) d_M_tells_187 ⟨Nat.le_of_ble_eq_true rfl, Nat.le_of_ble_eq_true rfl⟩) hP hD hK hS hA rfl rfl (fun H locs hw hP hD hS => ?_)
  obtain ⟨hwf, hk9, zr43⟩ := hw
  have hkp := hkp.tr hk9
  refine lv_istore_n (lv' := [(2, .int r43), (0, .ref (ad 1 j0)), (1, .int x1)]) hx hb d_M_tells_190 rfl hl (by decide) rfl (fun ls hl => ?_)
  exact b_191 M42 r43 _ _ _ h zr43 hwf hkp hP hD hS (lv_sub hl [1, 0] rfl)
