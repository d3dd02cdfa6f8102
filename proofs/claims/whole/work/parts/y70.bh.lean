theorem d_Checks_allowsRelation_198 : decode prog_3_method_7_code 198 = .ok (.istore 4, 2) := by decide +kernel
theorem d_Checks_allowsRelation_200 : decode prog_3_method_7_code 200 = .ok (.iload 4, 2) := by decide +kernel
theorem d_Checks_allowsRelation_202 : decode prog_3_method_7_code 202 = .ok (.ifCond .eq 27, 3) := by decide +kernel
theorem d_Checks_allowsRelation_229 : decode prog_3_method_7_code 229 = .ok (.iconst 0, 1) := by decide +kernel
theorem d_Checks_allowsRelation_230 : decode prog_3_method_7_code 230 = .ok (.ireturn, 1) := by decide +kernel
theorem d_Checks_allowsRelation_205 : decode prog_3_method_7_code 205 = .ok (.iload_n 2, 1) := by decide +kernel
theorem d_Checks_allowsRelation_206 : decode prog_3_method_7_code 206 = .ok (.iconst 4, 1) := by decide +kernel
theorem d_Checks_allowsRelation_207 : decode prog_3_method_7_code 207 = .ok (.if_icmp .ne 8, 3) := by decide +kernel
theorem d_Checks_allowsRelation_215 : decode prog_3_method_7_code 215 = .ok (.iload_n 2, 1) := by decide +kernel
theorem d_Checks_allowsRelation_216 : decode prog_3_method_7_code 216 = .ok (.iconst 5, 1) := by decide +kernel
theorem d_Checks_allowsRelation_217 : decode prog_3_method_7_code 217 = .ok (.if_icmp .ne 12, 3) := by decide +kernel
theorem d_Checks_allowsRelation_220 : decode prog_3_method_7_code 220 = .ok (.iload_n 3, 1) := by decide +kernel
theorem d_Checks_allowsRelation_221 : decode prog_3_method_7_code 221 = .ok (.iconst 4, 1) := by decide +kernel
theorem d_Checks_allowsRelation_222 : decode prog_3_method_7_code 222 = .ok (.if_icmp .ne 7, 3) := by decide +kernel
theorem d_Checks_allowsRelation_225 : decode prog_3_method_7_code 225 = .ok (.iconst 1, 1) := by decide +kernel
theorem d_Checks_allowsRelation_226 : decode prog_3_method_7_code 226 = .ok (.goto 4, 3) := by decide +kernel
theorem d_Checks_allowsRelation_210 : decode prog_3_method_7_code 210 = .ok (.iload_n 3, 1) := by decide +kernel
theorem d_Checks_allowsRelation_211 : decode prog_3_method_7_code 211 = .ok (.iconst 5, 1) := by decide +kernel
theorem d_Checks_allowsRelation_212 : decode prog_3_method_7_code 212 = .ok (.if_icmp .eq 13, 3) := by decide +kernel
theorem d_Checks_allowsRelation_193 : decode prog_3_method_7_code 193 = .ok (.iconst 1, 1) := by decide +kernel
theorem d_Checks_allowsRelation_194 : decode prog_3_method_7_code 194 = .ok (.goto 4, 3) := by decide +kernel
theorem d_Checks_allowsRelation_116 : decode prog_3_method_7_code 116 = .ok (.iload_n 2, 1) := by decide +kernel
theorem d_Checks_allowsRelation_117 : decode prog_3_method_7_code 117 = .ok (.iconst 1, 1) := by decide +kernel
theorem d_Checks_allowsRelation_118 : decode prog_3_method_7_code 118 = .ok (.if_icmp .ne 27, 3) := by decide +kernel
theorem d_Checks_allowsRelation_145 : decode prog_3_method_7_code 145 = .ok (.iconst 0, 1) := by decide +kernel
theorem d_Checks_allowsRelation_146 : decode prog_3_method_7_code 146 = .ok (.ireturn, 1) := by decide +kernel
theorem d_Checks_allowsRelation_121 : decode prog_3_method_7_code 121 = .ok (.iload_n 3, 1) := by decide +kernel
theorem d_Checks_allowsRelation_122 : decode prog_3_method_7_code 122 = .ok (.bipush 7, 2) := by decide +kernel
theorem d_Checks_allowsRelation_124 : decode prog_3_method_7_code 124 = .ok (.if_icmp .ne 21, 3) := by decide +kernel
theorem d_Checks_allowsRelation_127 : decode prog_3_method_7_code 127 = .ok (.aload_n 1, 1) := by decide +kernel
theorem d_Checks_allowsRelation_128 : decode prog_3_method_7_code 128 = .ok (.aload_n 0, 1) := by decide +kernel
theorem d_Checks_allowsRelation_129 : decode prog_3_method_7_code 129 = .ok (.getfield 23, 3) := by decide +kernel
theorem d_Checks_allowsRelation_132 : decode prog_3_method_7_code 132 = .ok (.getfield 46, 3) := by decide +kernel
theorem d_Checks_allowsRelation_135 : decode prog_3_method_7_code 135 = .ok (.laload, 1) := by decide +kernel
theorem d_Checks_allowsRelation_136 : decode prog_3_method_7_code 136 = .ok (.lconst 0, 1) := by decide +kernel
theorem d_Checks_allowsRelation_137 : decode prog_3_method_7_code 137 = .ok (.lcmp, 1) := by decide +kernel
theorem d_Checks_allowsRelation_138 : decode prog_3_method_7_code 138 = .ok (.ifCond .ne 7, 3) := by decide +kernel
theorem d_Checks_allowsRelation_141 : decode prog_3_method_7_code 141 = .ok (.iconst 1, 1) := by decide +kernel
theorem d_Checks_allowsRelation_142 : decode prog_3_method_7_code 142 = .ok (.goto 4, 3) := by decide +kernel
theorem d_Checks_allowsRelation_96 : decode prog_3_method_7_code 96 = .ok (.lstore 4, 2) := by decide +kernel
theorem d_Checks_allowsRelation_98 : decode prog_3_method_7_code 98 = .ok (.iload_n 2, 1) := by decide +kernel
theorem d_Checks_allowsRelation_99 : decode prog_3_method_7_code 99 = .ok (.bipush 7, 2) := by decide +kernel
theorem d_Checks_allowsRelation_101 : decode prog_3_method_7_code 101 = .ok (.if_icmp .ne 15, 3) := by decide +kernel
theorem d_Checks_allowsRelation_104 : decode prog_3_method_7_code 104 = .ok (.iload_n 3, 1) := by decide +kernel
theorem d_Checks_allowsRelation_105 : decode prog_3_method_7_code 105 = .ok (.iconst 1, 1) := by decide +kernel
theorem d_Checks_allowsRelation_106 : decode prog_3_method_7_code 106 = .ok (.if_icmp .ne 10, 3) := by decide +kernel
theorem d_Checks_allowsRelation_109 : decode prog_3_method_7_code 109 = .ok (.lload 4, 2) := by decide +kernel
theorem d_Checks_allowsRelation_111 : decode prog_3_method_7_code 111 = .ok (.lconst 0, 1) := by decide +kernel
theorem d_Checks_allowsRelation_112 : decode prog_3_method_7_code 112 = .ok (.lcmp, 1) := by decide +kernel
theorem d_Checks_allowsRelation_113 : decode prog_3_method_7_code 113 = .ok (.ifCond .eq 28, 3) := by decide +kernel
theorem d_Checks_allowsRelation_66 : decode prog_3_method_7_code 66 = .ok (.aload_n 0, 1) := by decide +kernel
theorem d_Checks_allowsRelation_67 : decode prog_3_method_7_code 67 = .ok (.getfield 23, 3) := by decide +kernel
theorem d_Checks_allowsRelation_70 : decode prog_3_method_7_code 70 = .ok (.getfield 49, 3) := by decide +kernel
theorem d_Checks_allowsRelation_73 : decode prog_3_method_7_code 73 = .ok (.ifCond .eq 15, 3) := by decide +kernel
theorem d_Checks_allowsRelation_88 : decode prog_3_method_7_code 88 = .ok (.aload_n 0, 1) := by decide +kernel
theorem d_Checks_allowsRelation_89 : decode prog_3_method_7_code 89 = .ok (.getfield 23, 3) := by decide +kernel
theorem d_Checks_allowsRelation_92 : decode prog_3_method_7_code 92 = .ok (.getfield 88, 3) := by decide +kernel
theorem u_250 : Cond.fieldLink "FilterGuard$Checks" 88 "FilterGuard$Code" "field" "I" ∈ fg_g := fg_in (List.mem_of_getElem? (i := 250) (by decide +kernel)) rfl
theorem d_Checks_allowsRelation_95 : decode prog_3_method_7_code 95 = .ok (.i2l, 1) := by decide +kernel
theorem d_Checks_allowsRelation_76 : decode prog_3_method_7_code 76 = .ok (.aload_n 1, 1) := by decide +kernel
theorem d_Checks_allowsRelation_77 : decode prog_3_method_7_code 77 = .ok (.aload_n 0, 1) := by decide +kernel
theorem d_Checks_allowsRelation_78 : decode prog_3_method_7_code 78 = .ok (.getfield 23, 3) := by decide +kernel
theorem d_Checks_allowsRelation_81 : decode prog_3_method_7_code 81 = .ok (.getfield 52, 3) := by decide +kernel
theorem d_Checks_allowsRelation_84 : decode prog_3_method_7_code 84 = .ok (.laload, 1) := by decide +kernel
theorem d_Checks_allowsRelation_85 : decode prog_3_method_7_code 85 = .ok (.goto 11, 3) := by decide +kernel
theorem d_Checks_allowsRelation_33 : decode prog_3_method_7_code 33 = .ok (.aload_n 0, 1) := by decide +kernel
theorem d_Checks_allowsRelation_34 : decode prog_3_method_7_code 34 = .ok (.getfield 23, 3) := by decide +kernel
theorem d_Checks_allowsRelation_37 : decode prog_3_method_7_code 37 = .ok (.getfield 79, 3) := by decide +kernel
theorem d_Checks_allowsRelation_40 : decode prog_3_method_7_code 40 = .ok (.ifCond .eq 5, 3) := by decide +kernel
theorem d_Checks_allowsRelation_45 : decode prog_3_method_7_code 45 = .ok (.aload_n 0, 1) := by decide +kernel
theorem d_Checks_allowsRelation_46 : decode prog_3_method_7_code 46 = .ok (.getfield 23, 3) := by decide +kernel
theorem d_Checks_allowsRelation_49 : decode prog_3_method_7_code 49 = .ok (.getfield 76, 3) := by decide +kernel
theorem d_Checks_allowsRelation_52 : decode prog_3_method_7_code 52 = .ok (.ifCond .eq 14, 3) := by decide +kernel
theorem d_Checks_allowsRelation_55 : decode prog_3_method_7_code 55 = .ok (.aload_n 0, 1) := by decide +kernel
theorem d_Checks_allowsRelation_56 : decode prog_3_method_7_code 56 = .ok (.getfield 23, 3) := by decide +kernel
theorem d_Checks_allowsRelation_59 : decode prog_3_method_7_code 59 = .ok (.getfield 76, 3) := by decide +kernel
theorem d_Checks_allowsRelation_62 : decode prog_3_method_7_code 62 = .ok (.iconst 4, 1) := by decide +kernel
theorem d_Checks_allowsRelation_63 : decode prog_3_method_7_code 63 = .ok (.if_icmp .ne 84, 3) := by decide +kernel
theorem d_Checks_allowsRelation_147 : decode prog_3_method_7_code 147 = .ok (.aload_n 0, 1) := by decide +kernel
theorem d_Checks_allowsRelation_148 : decode prog_3_method_7_code 148 = .ok (.getfield 23, 3) := by decide +kernel
theorem d_Checks_allowsRelation_151 : decode prog_3_method_7_code 151 = .ok (.getfield 76, 3) := by decide +kernel
theorem d_Checks_allowsRelation_154 : decode prog_3_method_7_code 154 = .ok (.iconst 1, 1) := by decide +kernel
theorem d_Checks_allowsRelation_155 : decode prog_3_method_7_code 155 = .ok (.if_icmp .eq 38, 3) := by decide +kernel
theorem d_Checks_allowsRelation_158 : decode prog_3_method_7_code 158 = .ok (.aload_n 0, 1) := by decide +kernel
theorem d_Checks_allowsRelation_159 : decode prog_3_method_7_code 159 = .ok (.getfield 23, 3) := by decide +kernel
theorem d_Checks_allowsRelation_162 : decode prog_3_method_7_code 162 = .ok (.getfield 76, 3) := by decide +kernel
theorem d_Checks_allowsRelation_165 : decode prog_3_method_7_code 165 = .ok (.iconst 2, 1) := by decide +kernel
theorem d_Checks_allowsRelation_166 : decode prog_3_method_7_code 166 = .ok (.if_icmp .eq 27, 3) := by decide +kernel
theorem d_Checks_allowsRelation_169 : decode prog_3_method_7_code 169 = .ok (.aload_n 0, 1) := by decide +kernel
theorem d_Checks_allowsRelation_170 : decode prog_3_method_7_code 170 = .ok (.getfield 23, 3) := by decide +kernel
theorem d_Checks_allowsRelation_173 : decode prog_3_method_7_code 173 = .ok (.getfield 76, 3) := by decide +kernel
theorem d_Checks_allowsRelation_176 : decode prog_3_method_7_code 176 = .ok (.bipush 7, 2) := by decide +kernel
theorem d_Checks_allowsRelation_178 : decode prog_3_method_7_code 178 = .ok (.if_icmp .eq 15, 3) := by decide +kernel
theorem d_Checks_allowsRelation_181 : decode prog_3_method_7_code 181 = .ok (.aload_n 0, 1) := by decide +kernel
theorem d_Checks_allowsRelation_182 : decode prog_3_method_7_code 182 = .ok (.getfield 23, 3) := by decide +kernel
theorem d_Checks_allowsRelation_185 : decode prog_3_method_7_code 185 = .ok (.getfield 76, 3) := by decide +kernel
theorem d_Checks_allowsRelation_188 : decode prog_3_method_7_code 188 = .ok (.bipush 8, 2) := by decide +kernel
theorem d_Checks_allowsRelation_190 : decode prog_3_method_7_code 190 = .ok (.if_icmp .ne 7, 3) := by decide +kernel
theorem d_Checks_allowsRelation_197 : decode prog_3_method_7_code 197 = .ok (.iconst 0, 1) := by decide +kernel
theorem d_Checks_allowsRelation_43 : decode prog_3_method_7_code 43 = .ok (.iconst 0, 1) := by decide +kernel
theorem d_Checks_allowsRelation_44 : decode prog_3_method_7_code 44 = .ok (.ireturn, 1) := by decide +kernel
theorem d_Checks_allowsRelation_0 : decode prog_3_method_7_code 0 = .ok (.aload_n 0, 1) := by decide +kernel
theorem d_Checks_allowsRelation_1 : decode prog_3_method_7_code 1 = .ok (.getfield 22, 3) := by decide +kernel
theorem d_Checks_allowsRelation_4 : decode prog_3_method_7_code 4 = .ok (.aload_n 0, 1) := by decide +kernel
theorem d_Checks_allowsRelation_5 : decode prog_3_method_7_code 5 = .ok (.getfield 23, 3) := by decide +kernel
theorem d_Checks_allowsRelation_8 : decode prog_3_method_7_code 8 = .ok (.getfield 46, 3) := by decide +kernel
theorem d_Checks_allowsRelation_11 : decode prog_3_method_7_code 11 = .ok (.aaload, 1) := by decide +kernel
theorem d_Checks_allowsRelation_12 : decode prog_3_method_7_code 12 = .ok (.getfield 34, 3) := by decide +kernel
theorem d_Checks_allowsRelation_15 : decode prog_3_method_7_code 15 = .ok (.istore_n 2, 1) := by decide +kernel
theorem d_Checks_allowsRelation_16 : decode prog_3_method_7_code 16 = .ok (.aload_n 0, 1) := by decide +kernel
theorem d_Checks_allowsRelation_17 : decode prog_3_method_7_code 17 = .ok (.invokevirtual 72, 3) := by decide +kernel
theorem d_Checks_allowsRelation_20 : decode prog_3_method_7_code 20 = .ok (.istore_n 3, 1) := by decide +kernel
theorem d_Checks_allowsRelation_21 : decode prog_3_method_7_code 21 = .ok (.iload_n 2, 1) := by decide +kernel
theorem d_Checks_allowsRelation_22 : decode prog_3_method_7_code 22 = .ok (.iconst 1, 1) := by decide +kernel
theorem d_Checks_allowsRelation_23 : decode prog_3_method_7_code 23 = .ok (.if_icmp .ne 10, 3) := by decide +kernel
theorem d_Checks_allowsRelation_26 : decode prog_3_method_7_code 26 = .ok (.iload_n 3, 1) := by decide +kernel
theorem d_Checks_allowsRelation_27 : decode prog_3_method_7_code 27 = .ok (.iconst 1, 1) := by decide +kernel
theorem d_Checks_allowsRelation_28 : decode prog_3_method_7_code 28 = .ok (.if_icmp .ne 5, 3) := by decide +kernel
theorem d_Checks_allowsRelation_31 : decode prog_3_method_7_code 31 = .ok (.iconst 1, 1) := by decide +kernel
theorem d_Checks_allowsRelation_32 : decode prog_3_method_7_code 32 = .ok (.ireturn, 1) := by decide +kernel
abbrev y_Checks_allowsRelation : MethodName := ⟨"FilterGuard$Checks", "allowsRelation", "([J)Z"⟩
def rm_Checks_allowsRelation : Room := { frames := 2, cells := 0, slots := 0, locals := 40 }
abbrev q_Checks_allowsRelation (D : va_G) (ad : Nat → Nat → Nat) (ca : Nat → ClassId) (N : Nat → Nat) (M0 MZ : me_M) (RZ : Int32) (A : Nat → Prop) : Array Value → Jvm.State → Outcome → Jvm.State → Prop := va_Qi (fun r (_ : Unit) => r = RZ ∧ me_wf N MZ ∧ me_kp M0 MZ ∧ (RZ = 1 ∨ RZ = 0)) (fg_B D A (fun _ => me_W ad ca MZ) (fun _ => [])) A
set_option maxHeartbeats 4000000 in
set_option maxRecDepth 100000 in
theorem c_Checks_allowsRelation (l : Launch) (D : va_G) (ad : Nat → Nat → Nat) (ca : Nat → ClassId) (N : Nat → Nat) (M0 MZ : me_M) (RZ : Int32) (j0 : Nat) (j1 : Nat) (h : f_Checks_allowsRelation M0 j0 j1 = (some (MZ, RZ))) (hwf : me_wf N M0) (hj0 : j0 < N 6) (hj1 : j1 < N 16) (sz : Nat) : Met l y_Checks_allowsRelation (fg_w y_Checks_allowsRelation prog_3_method_7_code 6 (some .boolean)) rm_Checks_allowsRelation (va_Pc [.ref (ad 6 j0), .ref (ad 16 j1)] (fz_P D (me_T ca) (me_W ad ca M0) sz)) (q_Checks_allowsRelation D ad ca N M0 MZ RZ (va_A (me_W ad ca M0) sz)) rm_Checks_allowsRelation.cells rm_Checks_allowsRelation.slots (va_A (me_W ad ca M0) sz) := by
  refine fz_enter (fun A => q_Checks_allowsRelation D ad ca N M0 MZ RZ A) (by decide +kernel) (Nat.le_of_ble_eq_true rfl) ?_
  intro p e s m below meth c ls A hx hb hml hown hts hr hlocks hin hP hK hD hS hA hX hl hz
  have hl : lv_has ls 6 [(0, .ref (ad 6 j0)), (1, .ref (ad 16 j1))] := hl
  unfold f_Checks_allowsRelation at h
  have hkp : me_kp M0 M0 := me_kp.rf
  have hkb := hkp
  have b_198 : ∀ (M : me_M) (y2 : Int32) (y3 : Int32) (s0 : Int32) (H : Heap) (locs : List Loc) (ls : Array Slot), f_Checks_allowsRelation_b198 M y2 y3 s0 = (some (MZ, RZ)) → (s0 = 1 ∨ s0 = 0) → me_wf N M → me_kp M0 M → va_P D classes (me_W ad ca M) H → va_D A (me_W ad ca M) → va_S A s.heap H locs → lv_has ls 6 [(2, .int y2), (3, .int y3)] → W p l e rm_Checks_allowsRelation s m [.ref (ad 6 j0), .ref (ad 16 j1)].toArray below meth c H locs 0 0 (MQ below (q_Checks_allowsRelation D ad ca N M0 MZ RZ A) [.ref (ad 6 j0), .ref (ad 16 j1)].toArray s rm_Checks_allowsRelation.cells rm_Checks_allowsRelation.slots A) (F0 m 198 ls [.int s0]) := by
    intro M y2 y3 s0 H locs ls h zs0 hwf hkp hP hD hS hl
    unfold f_Checks_allowsRelation_b198 at h
    have hkb := hkp
    refine lv_istore (lv' := [(4, .int s0), (2, .int y2), (3, .int y3)]) hx hb d_Checks_allowsRelation_198 hl (by decide) rfl (fun ls hl => ?_)
    refine lv_iload hx hb d_Checks_allowsRelation_200 (lv_at hl 0 rfl) ?_
    refine lv_if_eq (tgt := 229) hx hb d_Checks_allowsRelation_202 (by decide) (fun c1 => ?_) (fun c1 => ?_)
    · have h := if_t c1 h
      refine lv_iconst (v := 0) hx hb d_Checks_allowsRelation_229 (by decide) ?_
      exact me_retz (me_kp M0) h (by decide) hx hb hr hlocks hwf hkp hP hK hD hS d_Checks_allowsRelation_230
    have h := if_f c1 h
    refine lv_iload_n hx hb d_Checks_allowsRelation_205 rfl (lv_at hl 1 rfl) ?_
    refine lv_iconst (v := 4) hx hb d_Checks_allowsRelation_206 (by decide) ?_
    refine lv_icmp_ne (tgt := 215) hx hb d_Checks_allowsRelation_207 (by decide) (fun c2 => ?_) (fun c2 => ?_)
    · have h := if_f c2 h
      refine lv_iload_n hx hb d_Checks_allowsRelation_215 rfl (lv_at hl 1 rfl) ?_
      refine lv_iconst (v := 5) hx hb d_Checks_allowsRelation_216 (by decide) ?_
      refine lv_icmp_ne (tgt := 229) hx hb d_Checks_allowsRelation_217 (by decide) (fun c3 => ?_) (fun c3 => ?_)
      · have h := if_f c3 h
        refine lv_iconst (v := 0) hx hb d_Checks_allowsRelation_229 (by decide) ?_
        exact me_retz (me_kp M0) h (by decide) hx hb hr hlocks hwf hkp hP hK hD hS d_Checks_allowsRelation_230
      have h := if_t c3 h
      refine lv_iload_n hx hb d_Checks_allowsRelation_220 rfl (lv_at hl 2 rfl) ?_
      refine lv_iconst (v := 4) hx hb d_Checks_allowsRelation_221 (by decide) ?_
      refine lv_icmp_ne (tgt := 229) hx hb d_Checks_allowsRelation_222 (by decide) (fun c4 => ?_) (fun c4 => ?_)
      · have h := if_f c4 h
        refine lv_iconst (v := 0) hx hb d_Checks_allowsRelation_229 (by decide) ?_
        exact me_retz (me_kp M0) h (by decide) hx hb hr hlocks hwf hkp hP hK hD hS d_Checks_allowsRelation_230
      have h := if_t c4 h
      refine lv_iconst (v := 1) hx hb d_Checks_allowsRelation_225 (by decide) ?_
      refine lv_goto (tgt := 230) hx hb d_Checks_allowsRelation_226 (by decide) ?_
      exact me_retz (me_kp M0) h (by decide) hx hb hr hlocks hwf hkp hP hK hD hS d_Checks_allowsRelation_230
    have h := if_t c2 h
    refine lv_iload_n hx hb d_Checks_allowsRelation_210 rfl (lv_at hl 2 rfl) ?_
    refine lv_iconst (v := 5) hx hb d_Checks_allowsRelation_211 (by decide) ?_
    refine lv_icmp_eq (tgt := 225) hx hb d_Checks_allowsRelation_212 (by decide) (fun c5 => ?_) (fun c5 => ?_)
    · have h := if_t c5 h
      refine lv_iconst (v := 1) hx hb d_Checks_allowsRelation_225 (by decide) ?_
      refine lv_goto (tgt := 230) hx hb d_Checks_allowsRelation_226 (by decide) ?_
      exact me_retz (me_kp M0) h (by decide) hx hb hr hlocks hwf hkp hP hK hD hS d_Checks_allowsRelation_230
    have h := if_f c5 h
    refine lv_iload_n hx hb d_Checks_allowsRelation_215 rfl (lv_at hl 1 rfl) ?_
    refine lv_iconst (v := 5) hx hb d_Checks_allowsRelation_216 (by decide) ?_
    refine lv_icmp_ne (tgt := 229) hx hb d_Checks_allowsRelation_217 (by decide) (fun c6 => ?_) (fun c6 => ?_)
    · have h := if_f c6 h
      refine lv_iconst (v := 0) hx hb d_Checks_allowsRelation_229 (by decide) ?_
      exact me_retz (me_kp M0) h (by decide) hx hb hr hlocks hwf hkp hP hK hD hS d_Checks_allowsRelation_230
    have h := if_t c6 h
    refine lv_iload_n hx hb d_Checks_allowsRelation_220 rfl (lv_at hl 2 rfl) ?_
    refine lv_iconst (v := 4) hx hb d_Checks_allowsRelation_221 (by decide) ?_
    refine lv_icmp_ne (tgt := 229) hx hb d_Checks_allowsRelation_222 (by decide) (fun c7 => ?_) (fun c7 => ?_)
    · have h := if_f c7 h
      refine lv_iconst (v := 0) hx hb d_Checks_allowsRelation_229 (by decide) ?_
      exact me_retz (me_kp M0) h (by decide) hx hb hr hlocks hwf hkp hP hK hD hS d_Checks_allowsRelation_230
    have h := if_t c7 h
    refine lv_iconst (v := 1) hx hb d_Checks_allowsRelation_225 (by decide) ?_
    refine lv_goto (tgt := 230) hx hb d_Checks_allowsRelation_226 (by decide) ?_
    exact me_retz (me_kp M0) h (by decide) hx hb hr hlocks hwf hkp hP hK hD hS d_Checks_allowsRelation_230
  have b_193 : ∀ (M : me_M) (y2 : Int32) (y3 : Int32) (H : Heap) (locs : List Loc) (ls : Array Slot), f_Checks_allowsRelation_b193 M y2 y3 = (some (MZ, RZ)) → me_wf N M → me_kp M0 M → va_P D classes (me_W ad ca M) H → va_D A (me_W ad ca M) → va_S A s.heap H locs → lv_has ls 6 [(2, .int y2), (3, .int y3)] → W p l e rm_Checks_allowsRelation s m [.ref (ad 6 j0), .ref (ad 16 j1)].toArray below meth c H locs 0 0 (MQ below (q_Checks_allowsRelation D ad ca N M0 MZ RZ A) [.ref (ad 6 j0), .ref (ad 16 j1)].toArray s rm_Checks_allowsRelation.cells rm_Checks_allowsRelation.slots A) (F0 m 193 ls []) := by
    intro M y2 y3 H locs ls h hwf hkp hP hD hS hl
    unfold f_Checks_allowsRelation_b193 at h
    have hkb := hkp
    refine lv_iconst (v := 1) hx hb d_Checks_allowsRelation_193 (by decide) ?_
    refine lv_goto (tgt := 198) hx hb d_Checks_allowsRelation_194 (by decide) ?_
    exact b_198 M y2 y3 (1 : Int32) _ _ _ h (by decide) hwf hkp hP hD hS (lv_sub hl [0, 1] rfl)
  have b_116 : ∀ (M : me_M) (y2 : Int32) (y3 : Int32) (H : Heap) (locs : List Loc) (ls : Array Slot), f_Checks_allowsRelation_b116 j0 j1 M y2 y3 = (some (MZ, RZ)) → me_wf N M → me_kp M0 M → va_P D classes (me_W ad ca M) H → va_D A (me_W ad ca M) → va_S A s.heap H locs → lv_has ls 6 [(0, .ref (ad 6 j0)), (1, .ref (ad 16 j1)), (2, .int y2), (3, .int y3)] → W p l e rm_Checks_allowsRelation s m [.ref (ad 6 j0), .ref (ad 16 j1)].toArray below meth c H locs 0 0 (MQ below (q_Checks_allowsRelation D ad ca N M0 MZ RZ A) [.ref (ad 6 j0), .ref (ad 16 j1)].toArray s rm_Checks_allowsRelation.cells rm_Checks_allowsRelation.slots A) (F0 m 116 ls []) := by
    intro M y2 y3 H locs ls h hwf hkp hP hD hS hl
    unfold f_Checks_allowsRelation_b116 at h
    have hkb := hkp
    refine lv_iload_n hx hb d_Checks_allowsRelation_116 rfl (lv_at hl 2 rfl) ?_
    refine lv_iconst (v := 1) hx hb d_Checks_allowsRelation_117 (by decide) ?_
    refine lv_icmp_ne (tgt := 145) hx hb d_Checks_allowsRelation_118 (by decide) (fun c8 => ?_) (fun c8 => ?_)
    · have h := if_f c8 h
      refine lv_iconst (v := 0) hx hb d_Checks_allowsRelation_145 (by decide) ?_
      exact me_retz (me_kp M0) h (by decide) hx hb hr hlocks hwf hkp hP hK hD hS d_Checks_allowsRelation_146
    have h := if_t c8 h
    refine lv_iload_n hx hb d_Checks_allowsRelation_121 rfl (lv_at hl 3 rfl) ?_
    refine lv_bipush (v := 7) hx hb d_Checks_allowsRelation_122 (by decide) ?_
    refine lv_icmp_ne (tgt := 145) hx hb d_Checks_allowsRelation_124 (by decide) (fun c9 => ?_) (fun c9 => ?_)
    · have h := if_f c9 h
      refine lv_iconst (v := 0) hx hb d_Checks_allowsRelation_145 (by decide) ?_
      exact me_retz (me_kp M0) h (by decide) hx hb hr hlocks hwf hkp hP hK hD hS d_Checks_allowsRelation_146
    have h := if_t c9 h
    refine lv_aload_n hx hb d_Checks_allowsRelation_127 rfl (lv_at hl 1 rfl) ?_
    refine lv_aload_n hx hb d_Checks_allowsRelation_128 rfl (lv_at hl 0 rfl) ?_
    refine g_Checks_0 hx hb hts hown hK hP hwf hj0 (hts _ u_610) d_Checks_allowsRelation_129 ?_
    obtain ⟨j10, e11, h⟩ := bd_ob h
    have hj10 : j10 < N 2 := (hwf.2.1 6 j0 0 _ e11 (by decide) hj0)
    refine me_opt (j := j10) e11 ?_
    refine g_Code_6 hx hb hts hown hK hP hwf hj10 (hts _ u_234) d_Checks_allowsRelation_132 ?_
    obtain ⟨g12, h⟩ := gd_ob h
    refine me_lald hx hb hK hP hwf hj1 g12 d_Checks_allowsRelation_135 ?_
    refine lv_lconst (v := 0) hx hb d_Checks_allowsRelation_136 (by decide) ?_
    refine W.lcmp hx hb d_Checks_allowsRelation_137 ?_
    refine lv_if_ne (tgt := 145) hx hb d_Checks_allowsRelation_138 (by decide) (fun c13 => ?_) (fun c13 => ?_)
    · have h := if_f (fun z => c13 ((lg_cmp_eq _ _).mpr z)) h
      refine lv_iconst (v := 0) hx hb d_Checks_allowsRelation_145 (by decide) ?_
      exact me_retz (me_kp M0) h (by decide) hx hb hr hlocks hwf hkp hP hK hD hS d_Checks_allowsRelation_146
    have h := if_t ((lg_cmp_eq _ _).mp c13) h
    refine lv_iconst (v := 1) hx hb d_Checks_allowsRelation_141 (by decide) ?_
    refine lv_goto (tgt := 146) hx hb d_Checks_allowsRelation_142 (by decide) ?_
    exact me_retz (me_kp M0) h (by decide) hx hb hr hlocks hwf hkp hP hK hD hS d_Checks_allowsRelation_146
  have b_96 : ∀ (M : me_M) (y2 : Int32) (y3 : Int32) (s0 : Int64) (H : Heap) (locs : List Loc) (ls : Array Slot), f_Checks_allowsRelation_b96 j0 j1 M y2 y3 s0 = (some (MZ, RZ)) → me_wf N M → me_kp M0 M → va_P D classes (me_W ad ca M) H → va_D A (me_W ad ca M) → va_S A s.heap H locs → lv_has ls 6 [(0, .ref (ad 6 j0)), (1, .ref (ad 16 j1)), (2, .int y2), (3, .int y3)] → W p l e rm_Checks_allowsRelation s m [.ref (ad 6 j0), .ref (ad 16 j1)].toArray below meth c H locs 0 0 (MQ below (q_Checks_allowsRelation D ad ca N M0 MZ RZ A) [.ref (ad 6 j0), .ref (ad 16 j1)].toArray s rm_Checks_allowsRelation.cells rm_Checks_allowsRelation.slots A) (F0 m 96 ls [.long s0]) := by
    intro M y2 y3 s0 H locs ls h hwf hkp hP hD hS hl
    unfold f_Checks_allowsRelation_b96 at h
    have hkb := hkp
    refine lv_lstore (lv' := [(4, .long s0), (0, .ref (ad 6 j0)), (1, .ref (ad 16 j1)), (2, .int y2), (3, .int y3)]) hx hb d_Checks_allowsRelation_96 hl (by decide) rfl (fun ls hl => ?_)
    refine lv_iload_n hx hb d_Checks_allowsRelation_98 rfl (lv_at hl 3 rfl) ?_
    refine lv_bipush (v := 7) hx hb d_Checks_allowsRelation_99 (by decide) ?_
    refine lv_icmp_ne (tgt := 116) hx hb d_Checks_allowsRelation_101 (by decide) (fun c14 => ?_) (fun c14 => ?_)
    · have h := if_f c14 h
      exact b_116 M y2 y3 _ _ _ h hwf hkp hP hD hS (lv_sub hl [1, 2, 3, 4] rfl)
    have h := if_t c14 h
    refine lv_iload_n hx hb d_Checks_allowsRelation_104 rfl (lv_at hl 4 rfl) ?_
    refine lv_iconst (v := 1) hx hb d_Checks_allowsRelation_105 (by decide) ?_
    refine lv_icmp_ne (tgt := 116) hx hb d_Checks_allowsRelation_106 (by decide) (fun c15 => ?_) (fun c15 => ?_)
    · have h := if_f c15 h
      exact b_116 M y2 y3 _ _ _ h hwf hkp hP hD hS (lv_sub hl [1, 2, 3, 4] rfl)
    have h := if_t c15 h
    refine lv_lload hx hb d_Checks_allowsRelation_109 (lv_at hl 0 rfl) ?_
    refine lv_lconst (v := 0) hx hb d_Checks_allowsRelation_111 (by decide) ?_
    refine W.lcmp hx hb d_Checks_allowsRelation_112 ?_
    refine lv_if_eq (tgt := 141) hx hb d_Checks_allowsRelation_113 (by decide) (fun c16 => ?_) (fun c16 => ?_)
    · have h := if_t ((lg_cmp_eq _ _).mp c16) h
      refine lv_iconst (v := 1) hx hb d_Checks_allowsRelation_141 (by decide) ?_
      refine lv_goto (tgt := 146) hx hb d_Checks_allowsRelation_142 (by decide) ?_
      exact me_retz (me_kp M0) h (by decide) hx hb hr hlocks hwf hkp hP hK hD hS d_Checks_allowsRelation_146
    have h := if_f (fun z => c16 ((lg_cmp_eq _ _).mpr z)) h
    exact b_116 M y2 y3 _ _ _ h hwf hkp hP hD hS (lv_sub hl [1, 2, 3, 4] rfl)
  have b_66 : ∀ (M : me_M) (y2 : Int32) (y3 : Int32) (H : Heap) (locs : List Loc) (ls : Array Slot), f_Checks_allowsRelation_b66 j0 j1 M y2 y3 = (some (MZ, RZ)) → me_wf N M → me_kp M0 M → va_P D classes (me_W ad ca M) H → va_D A (me_W ad ca M) → va_S A s.heap H locs → lv_has ls 6 [(0, .ref (ad 6 j0)), (1, .ref (ad 16 j1)), (2, .int y2), (3, .int y3)] → W p l e rm_Checks_allowsRelation s m [.ref (ad 6 j0), .ref (ad 16 j1)].toArray below meth c H locs 0 0 (MQ below (q_Checks_allowsRelation D ad ca N M0 MZ RZ A) [.ref (ad 6 j0), .ref (ad 16 j1)].toArray s rm_Checks_allowsRelation.cells rm_Checks_allowsRelation.slots A) (F0 m 66 ls []) := by
    intro M y2 y3 H locs ls h hwf hkp hP hD hS hl
    unfold f_Checks_allowsRelation_b66 at h
    have hkb := hkp
    refine lv_aload_n hx hb d_Checks_allowsRelation_66 rfl (lv_at hl 0 rfl) ?_
    refine g_Checks_0 hx hb hts hown hK hP hwf hj0 (hts _ u_610) d_Checks_allowsRelation_67 ?_
    obtain ⟨j17, e18, h⟩ := bd_ob h
    have hj17 : j17 < N 2 := (hwf.2.1 6 j0 0 _ e18 (by decide) hj0)
    refine me_opt (j := j17) e18 ?_
    refine g_Code_15 hx hb hts hown hK hP hwf hj17 (hts _ u_274) d_Checks_allowsRelation_70 ?_
    have z19 := (hwf.2.2.2 2 j17 15 rfl)
    refine lv_if_eq (tgt := 88) hx hb d_Checks_allowsRelation_73 (by decide) (fun c20 => ?_) (fun c20 => ?_)
    · have h := if_t c20 h
      refine lv_aload_n hx hb d_Checks_allowsRelation_88 rfl (lv_at hl 0 rfl) ?_
      refine g_Checks_0 hx hb hts hown hK hP hwf hj0 (hts _ u_610) d_Checks_allowsRelation_89 ?_
      refine me_opt (j := j17) e18 ?_
      refine g_Code_9 hx hb hts hown hK hP hwf hj17 (hts _ u_250) d_Checks_allowsRelation_92 ?_
      refine lv_i2l (v := (mI M 2 j17 9).toInt64) hx hb d_Checks_allowsRelation_95 rfl ?_
      exact b_96 M y2 y3 ((mI M 2 j17 9).toInt64) _ _ _ h hwf hkp hP hD hS (lv_sub hl [0, 1, 2, 3] rfl)
    have h := if_f c20 h
    refine lv_aload_n hx hb d_Checks_allowsRelation_76 rfl (lv_at hl 1 rfl) ?_
    refine lv_aload_n hx hb d_Checks_allowsRelation_77 rfl (lv_at hl 0 rfl) ?_
    refine g_Checks_0 hx hb hts hown hK hP hwf hj0 (hts _ u_610) d_Checks_allowsRelation_78 ?_
    refine me_opt (j := j17) e18 ?_
    refine g_Code_7 hx hb hts hown hK hP hwf hj17 (hts _ u_240) d_Checks_allowsRelation_81 ?_
    obtain ⟨g21, h⟩ := gd_ob h
    refine me_lald hx hb hK hP hwf hj1 g21 d_Checks_allowsRelation_84 ?_
    refine lv_goto (tgt := 96) hx hb d_Checks_allowsRelation_85 (by decide) ?_
    exact b_96 M y2 y3 (mL M 16 j1 (mI M 2 j17 7).toNatClampNeg) _ _ _ h hwf hkp hP hD hS (lv_sub hl [0, 1, 2, 3] rfl)
  have b_33 : ∀ (M : me_M) (y2 : Int32) (y3 : Int32) (H : Heap) (locs : List Loc) (ls : Array Slot), f_Checks_allowsRelation_b33 j0 j1 M y2 y3 = (some (MZ, RZ)) → me_wf N M → me_kp M0 M → va_P D classes (me_W ad ca M) H → va_D A (me_W ad ca M) → va_S A s.heap H locs → lv_has ls 6 [(0, .ref (ad 6 j0)), (1, .ref (ad 16 j1)), (2, .int y2), (3, .int y3)] → W p l e rm_Checks_allowsRelation s m [.ref (ad 6 j0), .ref (ad 16 j1)].toArray below meth c H locs 0 0 (MQ below (q_Checks_allowsRelation D ad ca N M0 MZ RZ A) [.ref (ad 6 j0), .ref (ad 16 j1)].toArray s rm_Checks_allowsRelation.cells rm_Checks_allowsRelation.slots A) (F0 m 33 ls []) := by
    intro M y2 y3 H locs ls h hwf hkp hP hD hS hl
    unfold f_Checks_allowsRelation_b33 at h
    have hkb := hkp
    refine lv_aload_n hx hb d_Checks_allowsRelation_33 rfl (lv_at hl 0 rfl) ?_
    refine g_Checks_0 hx hb hts hown hK hP hwf hj0 (hts _ u_610) d_Checks_allowsRelation_34 ?_
    obtain ⟨j22, e23, h⟩ := bd_ob h
    have hj22 : j22 < N 2 := (hwf.2.1 6 j0 0 _ e23 (by decide) hj0)
    refine me_opt (j := j22) e23 ?_
    refine g_Code_13 hx hb hts hown hK hP hwf hj22 (hts _ u_267) d_Checks_allowsRelation_37 ?_
    have z24 := (hwf.2.2.2 2 j22 13 rfl)
    refine lv_if_eq (tgt := 45) hx hb d_Checks_allowsRelation_40 (by decide) (fun c25 => ?_) (fun c25 => ?_)
    · have h := if_t c25 h
      refine lv_aload_n hx hb d_Checks_allowsRelation_45 rfl (lv_at hl 0 rfl) ?_
      refine g_Checks_0 hx hb hts hown hK hP hwf hj0 (hts _ u_610) d_Checks_allowsRelation_46 ?_
      refine me_opt (j := j22) e23 ?_
      refine g_Code_12 hx hb hts hown hK hP hwf hj22 (hts _ u_263) d_Checks_allowsRelation_49 ?_
      refine lv_if_eq (tgt := 66) hx hb d_Checks_allowsRelation_52 (by decide) (fun c26 => ?_) (fun c26 => ?_)
      · have h := if_t c26 h
        exact b_66 M y2 y3 _ _ _ h hwf hkp hP hD hS (lv_sub hl [0, 1, 2, 3] rfl)
      have h := if_f c26 h
      refine lv_aload_n hx hb d_Checks_allowsRelation_55 rfl (lv_at hl 0 rfl) ?_
      refine g_Checks_0 hx hb hts hown hK hP hwf hj0 (hts _ u_610) d_Checks_allowsRelation_56 ?_
      refine me_opt (j := j22) e23 ?_
      refine g_Code_12 hx hb hts hown hK hP hwf hj22 (hts _ u_263) d_Checks_allowsRelation_59 ?_
      refine lv_iconst (v := 4) hx hb d_Checks_allowsRelation_62 (by decide) ?_
      refine lv_icmp_ne (tgt := 147) hx hb d_Checks_allowsRelation_63 (by decide) (fun c27 => ?_) (fun c27 => ?_)
      · have h := if_f c27 h
        refine lv_aload_n hx hb d_Checks_allowsRelation_147 rfl (lv_at hl 0 rfl) ?_
        refine g_Checks_0 hx hb hts hown hK hP hwf hj0 (hts _ u_610) d_Checks_allowsRelation_148 ?_
        refine me_opt (j := j22) e23 ?_
        refine g_Code_12 hx hb hts hown hK hP hwf hj22 (hts _ u_263) d_Checks_allowsRelation_151 ?_
        refine lv_iconst (v := 1) hx hb d_Checks_allowsRelation_154 (by decide) ?_
        refine lv_icmp_eq (tgt := 193) hx hb d_Checks_allowsRelation_155 (by decide) (fun c28 => ?_) (fun c28 => ?_)
        · have h := if_t c28 h
          exact b_193 M y2 y3 _ _ _ h hwf hkp hP hD hS (lv_sub hl [2, 3] rfl)
        have h := if_f c28 h
        refine lv_aload_n hx hb d_Checks_allowsRelation_158 rfl (lv_at hl 0 rfl) ?_
        refine g_Checks_0 hx hb hts hown hK hP hwf hj0 (hts _ u_610) d_Checks_allowsRelation_159 ?_
        refine me_opt (j := j22) e23 ?_
        refine g_Code_12 hx hb hts hown hK hP hwf hj22 (hts _ u_263) d_Checks_allowsRelation_162 ?_
        refine lv_iconst (v := 2) hx hb d_Checks_allowsRelation_165 (by decide) ?_
        refine lv_icmp_eq (tgt := 193) hx hb d_Checks_allowsRelation_166 (by decide) (fun c29 => ?_) (fun c29 => ?_)
        · have h := if_t c29 h
          exact b_193 M y2 y3 _ _ _ h hwf hkp hP hD hS (lv_sub hl [2, 3] rfl)
        have h := if_f c29 h
        refine lv_aload_n hx hb d_Checks_allowsRelation_169 rfl (lv_at hl 0 rfl) ?_
        refine g_Checks_0 hx hb hts hown hK hP hwf hj0 (hts _ u_610) d_Checks_allowsRelation_170 ?_
        refine me_opt (j := j22) e23 ?_
        refine g_Code_12 hx hb hts hown hK hP hwf hj22 (hts _ u_263) d_Checks_allowsRelation_173 ?_
        refine lv_bipush (v := 7) hx hb d_Checks_allowsRelation_176 (by decide) ?_
        refine lv_icmp_eq (tgt := 193) hx hb d_Checks_allowsRelation_178 (by decide) (fun c30 => ?_) (fun c30 => ?_)
        · have h := if_t c30 h
          exact b_193 M y2 y3 _ _ _ h hwf hkp hP hD hS (lv_sub hl [2, 3] rfl)
        have h := if_f c30 h
        refine lv_aload_n hx hb d_Checks_allowsRelation_181 rfl (lv_at hl 0 rfl) ?_
        refine g_Checks_0 hx hb hts hown hK hP hwf hj0 (hts _ u_610) d_Checks_allowsRelation_182 ?_
        refine me_opt (j := j22) e23 ?_
        refine g_Code_12 hx hb hts hown hK hP hwf hj22 (hts _ u_263) d_Checks_allowsRelation_185 ?_
        refine lv_bipush (v := 8) hx hb d_Checks_allowsRelation_188 (by decide) ?_
        refine lv_icmp_ne (tgt := 197) hx hb d_Checks_allowsRelation_190 (by decide) (fun c31 => ?_) (fun c31 => ?_)
        · have h := if_f c31 h
          refine lv_iconst (v := 0) hx hb d_Checks_allowsRelation_197 (by decide) ?_
          exact b_198 M y2 y3 (0 : Int32) _ _ _ h (by decide) hwf hkp hP hD hS (lv_sub hl [2, 3] rfl)
        have h := if_t c31 h
        exact b_193 M y2 y3 _ _ _ h hwf hkp hP hD hS (lv_sub hl [2, 3] rfl)
      have h := if_t c27 h
      exact b_66 M y2 y3 _ _ _ h hwf hkp hP hD hS (lv_sub hl [0, 1, 2, 3] rfl)
    have h := if_f c25 h
    refine lv_iconst (v := 0) hx hb d_Checks_allowsRelation_43 (by decide) ?_
    exact me_retz (me_kp M0) h (by decide) hx hb hr hlocks hwf hkp hP hK hD hS d_Checks_allowsRelation_44
  refine lv_aload_n hx hb d_Checks_allowsRelation_0 rfl (lv_at hl 0 rfl) ?_
  refine g_Checks_3 hx hb hts hown hK hP hwf hj0 (hts _ u_613) d_Checks_allowsRelation_1 ?_
  obtain ⟨j32, e33, h⟩ := bd_ob h
  have hj32 : j32 < N 18 := (hwf.2.1 6 j0 3 _ e33 (by decide) hj0)
  refine me_opt (j := j32) e33 ?_
  refine lv_aload_n hx hb d_Checks_allowsRelation_4 rfl (lv_at hl 0 rfl) ?_
  refine g_Checks_0 hx hb hts hown hK hP hwf hj0 (hts _ u_610) d_Checks_allowsRelation_5 ?_
  obtain ⟨j34, e35, h⟩ := bd_ob h
  have hj34 : j34 < N 2 := (hwf.2.1 6 j0 0 _ e35 (by decide) hj0)
  refine me_opt (j := j34) e35 ?_
  refine g_Code_6 hx hb hts hown hK hP hwf hj34 (hts _ u_234) d_Checks_allowsRelation_8 ?_
  obtain ⟨g36, h⟩ := gd_ob h
  refine me_aald (k := 18) (t := 10) hx hb hK hP hwf hj32 (by decide) (by decide) rfl (fun _ => rfl) g36 d_Checks_allowsRelation_11 ?_
  obtain ⟨j37, e38, h⟩ := bd_ob h
  have hj37 : j37 < N 10 := (hwf.2.1 18 j32 ((mI M0 2 j34 6).toNatClampNeg) _ e38 (by decide) hj32)
  refine me_opt (j := j37) e38 ?_
  refine g_Cell_0 hx hb hts hown hK hP hwf hj37 (hts _ u_421) d_Checks_allowsRelation_12 ?_
  obtain ⟨v39, ev39, h⟩ := st_ob h
  refine fg_topi (y := v39) ev39.symm ?_
  refine lv_istore_n (lv' := [(2, .int v39), (0, .ref (ad 6 j0)), (1, .ref (ad 16 j1))]) hx hb d_Checks_allowsRelation_15 rfl hl (by decide) rfl (fun ls hl => ?_)
  refine lv_aload_n hx hb d_Checks_allowsRelation_16 rfl (lv_at hl 1 rfl) ?_
  obtain ⟨M40, r41, eM40, h⟩ := b2_ob h
  refine me_theni0 (M1 := M40) (me_runV (C := "FilterGuard$Checks") (As := []) (rest := []) ⟨hx, hb, hml, hown, hts⟩ (c_Checks_operandKind l D ad ca N M0 M40 r41 j0 eM40 hwf hj0 _) rfl (by show fg_nm y_Checks_operandKind 0; decide +kernel) u_1605 u_1607 u_65 u_191 u_1608 ⟨Nat.le_of_ble_eq_true rfl, Nat.le_of_ble_eq_true rfl⟩ hX hz hK hP hD hwf hS hA hj0 (by decide) rfl rfl rfl hl.1 (Nat.le_of_ble_eq_true rfl) d_Checks_allowsRelation_17 ⟨Nat.le_of_ble_eq_true rfl, Nat.le_of_ble_eq_true rfl⟩) hP hD hK hS hA rfl rfl (fun H locs hw hP hD hS => ?_)
  obtain ⟨hwf, hk9⟩ := hw
  have hkp := hkp.tr hk9
  refine lv_istore_n (lv' := [(3, .int r41), (2, .int v39), (0, .ref (ad 6 j0)), (1, .ref (ad 16 j1))]) hx hb d_Checks_allowsRelation_20 rfl hl (by decide) rfl (fun ls hl => ?_)
  refine lv_iload_n hx hb d_Checks_allowsRelation_21 rfl (lv_at hl 1 rfl) ?_
  refine lv_iconst (v := 1) hx hb d_Checks_allowsRelation_22 (by decide) ?_
  refine lv_icmp_ne (tgt := 33) hx hb d_Checks_allowsRelation_23 (by decide) (fun c42 => ?_) (fun c42 => ?_)
  · have h := if_f c42 h
    exact b_33 M40 v39 r41 _ _ _ h hwf hkp hP hD hS (lv_sub hl [2, 3, 1, 0] rfl)
  have h := if_t c42 h
  refine lv_iload_n hx hb d_Checks_allowsRelation_26 rfl (lv_at hl 0 rfl) ?_
  refine lv_iconst (v := 1) hx hb d_Checks_allowsRelation_27 (by decide) ?_
  refine lv_icmp_ne (tgt := 33) hx hb d_Checks_allowsRelation_28 (by decide) (fun c43 => ?_) (fun c43 => ?_)
  · have h := if_f c43 h
    exact b_33 M40 v39 r41 _ _ _ h hwf hkp hP hD hS (lv_sub hl [2, 3, 1, 0] rfl)
  have h := if_t c43 h
  refine lv_iconst (v := 1) hx hb d_Checks_allowsRelation_31 (by decide) ?_
  exact me_retz (me_kp M0) h (by decide) hx hb hr hlocks hwf hkp hP hK hD hS d_Checks_allowsRelation_32
theorem d_Checks_canRead_86 : decode prog_3_method_13_code 86 = .ok (.iload 9, 2) := by decide +kernel
theorem d_Checks_canRead_88 : decode prog_3_method_13_code 88 = .ok (.i2l, 1) := by decide +kernel
theorem d_Checks_canRead_89 : decode prog_3_method_13_code 89 = .ok (.lload 7, 2) := by decide +kernel
theorem d_Checks_canRead_91 : decode prog_3_method_13_code 91 = .ok (.lload 4, 2) := by decide +kernel
theorem d_Checks_canRead_93 : decode prog_3_method_13_code 93 = .ok (.ladd, 1) := by decide +kernel
theorem d_Checks_canRead_94 : decode prog_3_method_13_code 94 = .ok (.lcmp, 1) := by decide +kernel
theorem d_Checks_canRead_95 : decode prog_3_method_13_code 95 = .ok (.ifCond .ge 33, 3) := by decide +kernel
theorem d_Checks_canRead_128 : decode prog_3_method_13_code 128 = .ok (.iconst 1, 1) := by decide +kernel
theorem d_Checks_canRead_129 : decode prog_3_method_13_code 129 = .ok (.ireturn, 1) := by decide +kernel
theorem d_Checks_canRead_98 : decode prog_3_method_13_code 98 = .ok (.aload_n 0, 1) := by decide +kernel
theorem d_Checks_canRead_99 : decode prog_3_method_13_code 99 = .ok (.getfield 12, 3) := by decide +kernel
theorem d_Checks_canRead_102 : decode prog_3_method_13_code 102 = .ok (.iload 9, 2) := by decide +kernel
theorem d_Checks_canRead_104 : decode prog_3_method_13_code 104 = .ok (.invokevirtual 114, 3) := by decide +kernel
theorem u_1630 : Cond.methodLink "FilterGuard$Checks" 114 ⟨"FilterGuard$State", "slotAt", "(I)LFilterGuard$Cell;"⟩ ∈ fg_g := fg_in (List.mem_of_getElem? (i := 1630) (by decide +kernel)) rfl
theorem d_Checks_canRead_107 : decode prog_3_method_13_code 107 = .ok (.iconst 1, 1) := by decide +kernel
theorem d_Checks_canRead_108 : decode prog_3_method_13_code 108 = .ok (.iload 9, 2) := by decide +kernel
theorem d_Checks_canRead_110 : decode prog_3_method_13_code 110 = .ok (.bipush 7, 2) := by decide +kernel
theorem d_Checks_canRead_112 : decode prog_3_method_13_code 112 = .ok (.iand, 1) := by decide +kernel
theorem d_Checks_canRead_113 : decode prog_3_method_13_code 113 = .ok (.ishl, 1) := by decide +kernel
theorem d_Checks_canRead_114 : decode prog_3_method_13_code 114 = .ok (.invokevirtual 122, 3) := by decide +kernel
theorem u_1631 : Cond.methodLink "FilterGuard$Checks" 122 ⟨"FilterGuard$Cell", "isReadable", "(I)Z"⟩ ∈ fg_g := fg_in (List.mem_of_getElem? (i := 1631) (by decide +kernel)) rfl
theorem d_Checks_canRead_117 : decode prog_3_method_13_code 117 = .ok (.ifCond .ne 5, 3) := by decide +kernel
theorem d_Checks_canRead_122 : decode prog_3_method_13_code 122 = .ok (.iinc 9 1, 3) := by decide +kernel
theorem d_Checks_canRead_125 : decode prog_3_method_13_code 125 = .ok (.goto (-39), 3) := by decide +kernel
theorem d_Checks_canRead_120 : decode prog_3_method_13_code 120 = .ok (.iconst 0, 1) := by decide +kernel
theorem d_Checks_canRead_121 : decode prog_3_method_13_code 121 = .ok (.ireturn, 1) := by decide +kernel
theorem d_Checks_canRead_0 : decode prog_3_method_13_code 0 = .ok (.aload_n 0, 1) := by decide +kernel
theorem d_Checks_canRead_1 : decode prog_3_method_13_code 1 = .ok (.getfield 22, 3) := by decide +kernel
theorem d_Checks_canRead_4 : decode prog_3_method_13_code 4 = .ok (.iload_n 1, 1) := by decide +kernel
theorem d_Checks_canRead_5 : decode prog_3_method_13_code 5 = .ok (.aaload, 1) := by decide +kernel
theorem d_Checks_canRead_6 : decode prog_3_method_13_code 6 = .ok (.getfield 34, 3) := by decide +kernel
theorem d_Checks_canRead_9 : decode prog_3_method_13_code 9 = .ok (.istore 6, 2) := by decide +kernel
theorem d_Checks_canRead_11 : decode prog_3_method_13_code 11 = .ok (.iload 6, 2) := by decide +kernel
theorem d_Checks_canRead_13 : decode prog_3_method_13_code 13 = .ok (.iconst 3, 1) := by decide +kernel
theorem d_Checks_canRead_14 : decode prog_3_method_13_code 14 = .ok (.if_icmp .eq 22, 3) := by decide +kernel
theorem d_Checks_canRead_36 : decode prog_3_method_13_code 36 = .ok (.lload_n 2, 1) := by decide +kernel
theorem d_Checks_canRead_37 : decode prog_3_method_13_code 37 = .ok (.iconst 2, 1) := by decide +kernel
theorem d_Checks_canRead_38 : decode prog_3_method_13_code 38 = .ok (.invokestatic 94, 3) := by decide +kernel
theorem o_1627 : Cond.methodLinkNest "FilterGuard$Checks" 94 ⟨"FilterGuard", "baseOf", "(I)J"⟩ "FilterGuard" ∈ lw_tbl := List.mem_of_getElem? (i := 1627) (by decide +kernel)
theorem d_Checks_canRead_41 : decode prog_3_method_13_code 41 = .ok (.lsub, 1) := by decide +kernel
theorem d_Checks_canRead_42 : decode prog_3_method_13_code 42 = .ok (.lstore 7, 2) := by decide +kernel
theorem d_Checks_canRead_44 : decode prog_3_method_13_code 44 = .ok (.lload 4, 2) := by decide +kernel
theorem d_Checks_canRead_46 : decode prog_3_method_13_code 46 = .ok (.lconst 0, 1) := by decide +kernel
theorem d_Checks_canRead_47 : decode prog_3_method_13_code 47 = .ok (.lcmp, 1) := by decide +kernel
theorem d_Checks_canRead_48 : decode prog_3_method_13_code 48 = .ok (.ifCond .lt 31, 3) := by decide +kernel
theorem d_Checks_canRead_79 : decode prog_3_method_13_code 79 = .ok (.iconst 0, 1) := by decide +kernel
theorem d_Checks_canRead_80 : decode prog_3_method_13_code 80 = .ok (.ireturn, 1) := by decide +kernel
theorem d_Checks_canRead_51 : decode prog_3_method_13_code 51 = .ok (.lload 4, 2) := by decide +kernel
theorem d_Checks_canRead_53 : decode prog_3_method_13_code 53 = .ok (.ldc2_w 150, 3) := by decide +kernel
theorem u_1628 : Cond.constantLong "FilterGuard$Checks" 150 512 ∈ fg_g := fg_in (List.mem_of_getElem? (i := 1628) (by decide +kernel)) rfl
theorem d_Checks_canRead_56 : decode prog_3_method_13_code 56 = .ok (.lcmp, 1) := by decide +kernel
theorem d_Checks_canRead_57 : decode prog_3_method_13_code 57 = .ok (.ifCond .gt 22, 3) := by decide +kernel
theorem d_Checks_canRead_60 : decode prog_3_method_13_code 60 = .ok (.lload 7, 2) := by decide +kernel
theorem d_Checks_canRead_62 : decode prog_3_method_13_code 62 = .ok (.ldc2_w 112, 3) := by decide +kernel
theorem u_1629 : Cond.constantLong "FilterGuard$Checks" 112 (-512) ∈ fg_g := fg_in (List.mem_of_getElem? (i := 1629) (by decide +kernel)) rfl
theorem d_Checks_canRead_65 : decode prog_3_method_13_code 65 = .ok (.lcmp, 1) := by decide +kernel
theorem d_Checks_canRead_66 : decode prog_3_method_13_code 66 = .ok (.ifCond .lt 13, 3) := by decide +kernel
theorem d_Checks_canRead_69 : decode prog_3_method_13_code 69 = .ok (.lload 7, 2) := by decide +kernel
theorem d_Checks_canRead_71 : decode prog_3_method_13_code 71 = .ok (.lload 4, 2) := by decide +kernel
theorem d_Checks_canRead_73 : decode prog_3_method_13_code 73 = .ok (.ladd, 1) := by decide +kernel
theorem d_Checks_canRead_74 : decode prog_3_method_13_code 74 = .ok (.lconst 0, 1) := by decide +kernel
theorem d_Checks_canRead_75 : decode prog_3_method_13_code 75 = .ok (.lcmp, 1) := by decide +kernel
theorem d_Checks_canRead_76 : decode prog_3_method_13_code 76 = .ok (.ifCond .le 5, 3) := by decide +kernel
theorem d_Checks_canRead_81 : decode prog_3_method_13_code 81 = .ok (.lload 7, 2) := by decide +kernel
theorem d_Checks_canRead_83 : decode prog_3_method_13_code 83 = .ok (.l2i, 1) := by decide +kernel
theorem d_Checks_canRead_84 : decode prog_3_method_13_code 84 = .ok (.istore 9, 2) := by decide +kernel
theorem d_Checks_canRead_17 : decode prog_3_method_13_code 17 = .ok (.iload 6, 2) := by decide +kernel
theorem d_Checks_canRead_19 : decode prog_3_method_13_code 19 = .ok (.iconst 4, 1) := by decide +kernel
theorem d_Checks_canRead_20 : decode prog_3_method_13_code 20 = .ok (.if_icmp .eq 10, 3) := by decide +kernel
theorem d_Checks_canRead_30 : decode prog_3_method_13_code 30 = .ok (.iconst 1, 1) := by decide +kernel
theorem d_Checks_canRead_31 : decode prog_3_method_13_code 31 = .ok (.goto 4, 3) := by decide +kernel
theorem d_Checks_canRead_35 : decode prog_3_method_13_code 35 = .ok (.ireturn, 1) := by decide +kernel
theorem d_Checks_canRead_23 : decode prog_3_method_13_code 23 = .ok (.iload 6, 2) := by decide +kernel
theorem d_Checks_canRead_25 : decode prog_3_method_13_code 25 = .ok (.bipush 7, 2) := by decide +kernel
theorem d_Checks_canRead_27 : decode prog_3_method_13_code 27 = .ok (.if_icmp .ne 7, 3) := by decide +kernel
theorem d_Checks_canRead_34 : decode prog_3_method_13_code 34 = .ok (.iconst 0, 1) := by decide +kernel
abbrev y_Checks_canRead : MethodName := ⟨"FilterGuard$Checks", "canRead", "(IJJ)Z"⟩
def rm_Checks_canRead : Room := { frames := 3, cells := 0, slots := 0, locals := 82 }
abbrev q_Checks_canRead (D : va_G) (ad : Nat → Nat → Nat) (ca : Nat → ClassId) (N : Nat → Nat) (M0 MZ : me_M) (RZ : Int32) (A : Nat → Prop) : Array Value → Jvm.State → Outcome → Jvm.State → Prop := va_Qi (fun r (_ : Unit) => r = RZ ∧ me_wf N MZ ∧ me_kp M0 MZ ∧ (RZ = 1 ∨ RZ = 0)) (fg_B D A (fun _ => me_W ad ca MZ) (fun _ => [])) A
set_option maxHeartbeats 4000000 in
set_option maxRecDepth 100000 in
theorem c_Checks_canRead (l : Launch) (D : va_G) (ad : Nat → Nat → Nat) (ca : Nat → ClassId) (N : Nat → Nat) (M0 MZ : me_M) (RZ : Int32) (j0 : Nat) (x1 : Int32) (x2 : Int64) (x4 : Int64) (h : f_Checks_canRead M0 j0 x1 x2 x4 = (some (MZ, RZ))) (hwf : me_wf N M0) (hj0 : j0 < N 6) (sz : Nat) : Met l y_Checks_canRead (fg_w y_Checks_canRead prog_3_method_13_code 10 (some .boolean)) rm_Checks_canRead (va_Pc [.ref (ad 6 j0), .int x1, .long x2, .long x4] (fz_P D (me_T ca) (me_W ad ca M0) sz)) (q_Checks_canRead D ad ca N M0 MZ RZ (va_A (me_W ad ca M0) sz)) rm_Checks_canRead.cells rm_Checks_canRead.slots (va_A (me_W ad ca M0) sz) := by
  refine fz_enter (fun A => q_Checks_canRead D ad ca N M0 MZ RZ A) (by decide +kernel) (Nat.le_of_ble_eq_true rfl) ?_
  intro p e s m below meth c ls A hx hb hml hown hts hr hlocks hin hP hK hD hS hA hX hl hz
  have hl : lv_has ls 10 [(0, .ref (ad 6 j0)), (1, .int x1), (2, .long x2), (4, .long x4)] := hl
  unfold f_Checks_canRead at h
  have hkp : me_kp M0 M0 := me_kp.rf
  have hkb := hkp
  have b_86 : ∀ (fu : Nat), ∀ (M : me_M) (y7 : Int64) (y9 : Int32) (H : Heap) (locs : List Loc) (ls : Array Slot), f_Checks_canRead_l86 j0 x4 fu M y7 y9 = (some (MZ, RZ)) → me_wf N M → me_kp M0 M → va_P D classes (me_W ad ca M) H → va_D A (me_W ad ca M) → va_S A s.heap H locs → lv_has ls 10 [(0, .ref (ad 6 j0)), (4, .long x4), (7, .long y7), (9, .int y9)] → W p l e rm_Checks_canRead s m [.ref (ad 6 j0), .int x1, .long x2, .long x4].toArray below meth c H locs 0 0 (MQ below (q_Checks_canRead D ad ca N M0 MZ RZ A) [.ref (ad 6 j0), .int x1, .long x2, .long x4].toArray s rm_Checks_canRead.cells rm_Checks_canRead.slots A) (F0 m 86 ls []) := by
    intro fu
    induction fu with
    | zero =>
      intro M y7 y9 H locs ls h hwf hkp hP hD hS hl
      cases h
    | succ fu ih =>
      intro M y7 y9 H locs ls h hwf hkp hP hD hS hl
      unfold f_Checks_canRead_l86 at h
      have hkb := hkp
      refine lv_iload hx hb d_Checks_canRead_86 (lv_at hl 3 rfl) ?_
      refine lv_i2l (v := y9.toInt64) hx hb d_Checks_canRead_88 rfl ?_
      refine lv_lload hx hb d_Checks_canRead_89 (lv_at hl 2 rfl) ?_
      refine lv_lload hx hb d_Checks_canRead_91 (lv_at hl 1 rfl) ?_
      refine lv_ladd hx hb d_Checks_canRead_93 ?_
      refine W.lcmp hx hb d_Checks_canRead_94 ?_
      refine lv_if_ge (tgt := 128) hx hb d_Checks_canRead_95 (by decide) (fun c1 => ?_) (fun c1 => ?_)
      · have h := if_f (Int64.not_lt.mpr ((lg_cmp_ge _ _).mp c1)) h
        refine lv_iconst (v := 1) hx hb d_Checks_canRead_128 (by decide) ?_
        exact me_retz (me_kp M0) h (by decide) hx hb hr hlocks hwf hkp hP hK hD hS d_Checks_canRead_129
      have h := if_t (Int64.not_le.mp (fun z => c1 ((lg_cmp_ge _ _).mpr z))) h
      refine lv_aload_n hx hb d_Checks_canRead_98 rfl (lv_at hl 0 rfl) ?_
      refine g_Checks_2 hx hb hts hown hK hP hwf hj0 (hts _ u_612) d_Checks_canRead_99 ?_
      obtain ⟨j2, e3, h⟩ := bd_ob h
      have hj2 : j2 < N 9 := (hwf.2.1 6 j0 2 _ e3 (by decide) hj0)
      refine me_opt (j := j2) e3 ?_
      refine lv_iload hx hb d_Checks_canRead_102 (lv_at hl 3 rfl) ?_
      obtain ⟨M4, r5, eM4, h⟩ := b2_ob h
      refine me_thenr0 (M1 := M4) (me_runV (C := "FilterGuard$State") (As := [.int y9]) (rest := []) ⟨hx, hb, hml, hown, hts⟩ (c_State_slotAt l D ad ca N M M4 r5 j2 y9 eM4 hwf hj2 _) rfl (by show fg_nm y_State_slotAt 1; decide +kernel) u_1630 u_1356 u_1357 u_189 u_1358 ⟨Nat.le_of_ble_eq_true rfl, Nat.le_of_ble_eq_true rfl⟩ hX hz hK hP hD hwf hS hA hj2 (by decide) rfl rfl rfl hl.1 (Nat.le_of_ble_eq_true rfl) d_Checks_canRead_104 ⟨Nat.le_of_ble_eq_true rfl, Nat.le_of_ble_eq_true rfl⟩) hP hD hK hS hA rfl rfl (fun H locs hw hP hD hS => ?_)
      obtain ⟨hwf, hk9, hr5⟩ := hw
      have hkp := hkp.tr hk9
      refine lv_iconst (v := 1) hx hb d_Checks_canRead_107 (by decide) ?_
      refine lv_iload hx hb d_Checks_canRead_108 (lv_at hl 3 rfl) ?_
      refine lv_bipush (v := 7) hx hb d_Checks_canRead_110 (by decide) ?_
      refine lv_iand hx hb d_Checks_canRead_112 ?_
      refine lv_ishl hx hb d_Checks_canRead_113 ?_
      refine fg_topi (y := jishl 1 (y9 &&& 7)) rfl ?_
      obtain ⟨M6, r7, eM6, h⟩ := b2_ob h
      refine me_theni0 (M1 := M6) (me_runV (C := "FilterGuard$Cell") (As := [.int (jishl 1 (y9 &&& 7))]) (rest := []) ⟨hx, hb, hml, hown, hts⟩ (c_Cell_isReadable l D ad ca N M4 M6 r7 r5 (jishl 1 (y9 &&& 7)) eM6 hwf hr5 _) rfl (by show fg_nm y_Cell_isReadable 1; decide +kernel) u_1631 u_1364 u_1365 u_188 u_1366 ⟨Nat.le_of_ble_eq_true rfl, Nat.le_of_ble_eq_true rfl⟩ hX hz hK hP hD hwf hS hA hr5 (by decide) rfl rfl rfl hl.1 (Nat.le_of_ble_eq_true rfl) d_Checks_canRead_114 ⟨Nat.le_of_ble_eq_true rfl, Nat.le_of_ble_eq_true rfl⟩) hP hD hK hS hA rfl rfl (fun H locs hw hP hD hS => ?_)
      obtain ⟨hwf, hk9, zr7⟩ := hw
      have hkp := hkp.tr hk9
      refine lv_if_ne (tgt := 122) hx hb d_Checks_canRead_117 (by decide) (fun c8 => ?_) (fun c8 => ?_)
      · have h := if_f c8 h
        refine lv_iinc (v := y9 + 1) (lv' := [(9, .int (y9 + 1)), (0, .ref (ad 6 j0)), (4, .long x4), (7, .long y7)]) hx hb d_Checks_canRead_122 hl (k := 3) rfl (by rfl) (by decide) rfl (fun ls hl => ?_)
        refine lv_goto (tgt := 86) hx hb d_Checks_canRead_125 (by decide) ?_
        exact ih M6 y7 (y9 + 1) _ _ _ h hwf hkp hP hD hS (lv_sub hl [1, 2, 3, 0] rfl)
      have h := if_t c8 h
      refine lv_iconst (v := 0) hx hb d_Checks_canRead_120 (by decide) ?_
      exact me_retz (me_kp M0) h (by decide) hx hb hr hlocks hwf hkp hP hK hD hS d_Checks_canRead_121
  refine lv_aload_n hx hb d_Checks_canRead_0 rfl (lv_at hl 0 rfl) ?_
  refine g_Checks_3 hx hb hts hown hK hP hwf hj0 (hts _ u_613) d_Checks_canRead_1 ?_
  obtain ⟨j9, e10, h⟩ := bd_ob h
  have hj9 : j9 < N 18 := (hwf.2.1 6 j0 3 _ e10 (by decide) hj0)
  refine me_opt (j := j9) e10 ?_
  refine lv_iload_n hx hb d_Checks_canRead_4 rfl (lv_at hl 1 rfl) ?_
  obtain ⟨g11, h⟩ := gd_ob h
  refine me_aald (k := 18) (t := 10) hx hb hK hP hwf hj9 (by decide) (by decide) rfl (fun _ => rfl) g11 d_Checks_canRead_5 ?_
  obtain ⟨j12, e13, h⟩ := bd_ob h
  have hj12 : j12 < N 10 := (hwf.2.1 18 j9 x1.toNatClampNeg _ e13 (by decide) hj9)
  refine me_opt (j := j12) e13 ?_
  refine g_Cell_0 hx hb hts hown hK hP hwf hj12 (hts _ u_421) d_Checks_canRead_6 ?_
  obtain ⟨v14, ev14, h⟩ := st_ob h
  refine fg_topi (y := v14) ev14.symm ?_
  refine lv_istore (lv' := [(6, .int v14), (0, .ref (ad 6 j0)), (1, .int x1), (2, .long x2), (4, .long x4)]) hx hb d_Checks_canRead_9 hl (by decide) rfl (fun ls hl => ?_)
  refine lv_iload hx hb d_Checks_canRead_11 (lv_at hl 0 rfl) ?_
  refine lv_iconst (v := 3) hx hb d_Checks_canRead_13 (by decide) ?_
  refine lv_icmp_eq (tgt := 36) hx hb d_Checks_canRead_14 (by decide) (fun c15 => ?_) (fun c15 => ?_)
  · have h := if_t c15 h
    refine lv_lload_n hx hb d_Checks_canRead_36 rfl (lv_at hl 3 rfl) ?_
    refine lv_iconst (v := 2) hx hb d_Checks_canRead_37 (by decide) ?_
    obtain ⟨r16, er16, h⟩ := bd_ob h
    refine me_panl' (r0 := r16) (fg_runSN (wc := []) (tc := []) (A2 := A) (As := [.int 2]) (rest := [.long x2]) ⟨hx, hb, hml, hown, hts⟩ (c_G_baseOf l D r16 (2 : Int32) er16 _) (by show fg_nm y_G_baseOf 1; decide +kernel) o_1627 u_1587 u_181 u_1588 ⟨Nat.le_of_ble_eq_true rfl, Nat.le_of_ble_eq_true rfl⟩ hX me_P0 (hK.sub (tys' := []) [] rfl) me_D0 rfl hl.1 (Nat.le_of_ble_eq_true rfl) d_Checks_canRead_38 ⟨Nat.le_of_ble_eq_true rfl, Nat.le_of_ble_eq_true rfl⟩) hP hD hK hS hA rfl rfl (fun H locs hw hP hD hS => ?_)
    refine lv_lsub hx hb d_Checks_canRead_41 ?_
    obtain ⟨v17, ev17, h⟩ := st_ob h
    refine fg_topl (y := v17) ev17.symm ?_
    refine lv_lstore (lv' := [(7, .long v17), (6, .int v14), (0, .ref (ad 6 j0)), (1, .int x1), (2, .long x2), (4, .long x4)]) hx hb d_Checks_canRead_42 hl (by decide) rfl (fun ls hl => ?_)
    refine lv_lload hx hb d_Checks_canRead_44 (lv_at hl 5 rfl) ?_
    refine lv_lconst (v := 0) hx hb d_Checks_canRead_46 (by decide) ?_
    refine W.lcmp hx hb d_Checks_canRead_47 ?_
    refine lv_if_lt (tgt := 79) hx hb d_Checks_canRead_48 (by decide) (fun c18 => ?_) (fun c18 => ?_)
    · have h := if_t ((lg_cmp_lt _ _).mp c18) h
      refine lv_iconst (v := 0) hx hb d_Checks_canRead_79 (by decide) ?_
      exact me_retz (me_kp M0) h (by decide) hx hb hr hlocks hwf hkp hP hK hD hS d_Checks_canRead_80
    have h := if_f (fun z => c18 ((lg_cmp_lt _ _).mpr z)) h
    refine lv_lload hx hb d_Checks_canRead_51 (lv_at hl 5 rfl) ?_
    refine lv_ldc2 hx hb hown (hts _ u_1628) d_Checks_canRead_53 ?_
    refine W.lcmp hx hb d_Checks_canRead_56 ?_
    refine lv_if_gt (tgt := 79) hx hb d_Checks_canRead_57 (by decide) (fun c19 => ?_) (fun c19 => ?_)
    · have h := if_t ((lg_cmp_gt _ _).mp c19) h
      refine lv_iconst (v := 0) hx hb d_Checks_canRead_79 (by decide) ?_
      exact me_retz (me_kp M0) h (by decide) hx hb hr hlocks hwf hkp hP hK hD hS d_Checks_canRead_80
    have h := if_f (fun z => c19 ((lg_cmp_gt _ _).mpr z)) h
    refine lv_lload hx hb d_Checks_canRead_60 (lv_at hl 0 rfl) ?_
    refine lv_ldc2 hx hb hown (hts _ u_1629) d_Checks_canRead_62 ?_
    refine W.lcmp hx hb d_Checks_canRead_65 ?_
    refine lv_if_lt (tgt := 79) hx hb d_Checks_canRead_66 (by decide) (fun c20 => ?_) (fun c20 => ?_)
    · have h := if_t ((lg_cmp_lt _ _).mp c20) h
      refine lv_iconst (v := 0) hx hb d_Checks_canRead_79 (by decide) ?_
      exact me_retz (me_kp M0) h (by decide) hx hb hr hlocks hwf hkp hP hK hD hS d_Checks_canRead_80
    have h := if_f (fun z => c20 ((lg_cmp_lt _ _).mpr z)) h
    refine lv_lload hx hb d_Checks_canRead_69 (lv_at hl 0 rfl) ?_
    refine lv_lload hx hb d_Checks_canRead_71 (lv_at hl 5 rfl) ?_
    refine lv_ladd hx hb d_Checks_canRead_73 ?_
    refine lv_lconst (v := 0) hx hb d_Checks_canRead_74 (by decide) ?_
    refine W.lcmp hx hb d_Checks_canRead_75 ?_
    refine lv_if_le (tgt := 81) hx hb d_Checks_canRead_76 (by decide) (fun c21 => ?_) (fun c21 => ?_)
    · have h := if_f (Int64.not_lt.mpr ((lg_cmp_le _ _).mp c21)) h
      refine lv_lload hx hb d_Checks_canRead_81 (lv_at hl 0 rfl) ?_
      refine lv_l2i (v := v17.toInt32) hx hb d_Checks_canRead_83 rfl ?_
      obtain ⟨v22, ev22, h⟩ := st_ob h
      refine fg_topi (y := v22) ev22.symm ?_
      refine lv_istore (lv' := [(9, .int v22), (7, .long v17), (6, .int v14), (0, .ref (ad 6 j0)), (1, .int x1), (2, .long x2), (4, .long x4)]) hx hb d_Checks_canRead_84 hl (by decide) rfl (fun ls hl => ?_)
      exact b_86 _ M0 v17 v22 _ _ _ h hwf hkp hP hD hS (lv_sub hl [3, 6, 1, 0] rfl)
    have h := if_t (Int64.not_le.mp (fun z => c21 ((lg_cmp_le _ _).mpr z))) h
    refine lv_iconst (v := 0) hx hb d_Checks_canRead_79 (by decide) ?_
    exact me_retz (me_kp M0) h (by decide) hx hb hr hlocks hwf hkp hP hK hD hS d_Checks_canRead_80
  have h := if_f c15 h
  refine lv_iload hx hb d_Checks_canRead_17 (lv_at hl 0 rfl) ?_
  refine lv_iconst (v := 4) hx hb d_Checks_canRead_19 (by decide) ?_
  refine lv_icmp_eq (tgt := 30) hx hb d_Checks_canRead_20 (by decide) (fun c23 => ?_) (fun c23 => ?_)
  · have h := if_t c23 h
    refine lv_iconst (v := 1) hx hb d_Checks_canRead_30 (by decide) ?_
    refine lv_goto (tgt := 35) hx hb d_Checks_canRead_31 (by decide) ?_
    exact me_retz (me_kp M0) h (by decide) hx hb hr hlocks hwf hkp hP hK hD hS d_Checks_canRead_35
  have h := if_f c23 h
  refine lv_iload hx hb d_Checks_canRead_23 (lv_at hl 0 rfl) ?_
  refine lv_bipush (v := 7) hx hb d_Checks_canRead_25 (by decide) ?_
  refine lv_icmp_ne (tgt := 34) hx hb d_Checks_canRead_27 (by decide) (fun c24 => ?_) (fun c24 => ?_)
  · have h := if_f c24 h
    refine lv_iconst (v := 0) hx hb d_Checks_canRead_34 (by decide) ?_
    exact me_retz (me_kp M0) h (by decide) hx hb hr hlocks hwf hkp hP hK hD hS d_Checks_canRead_35
  have h := if_t c24 h
  refine lv_iconst (v := 1) hx hb d_Checks_canRead_30 (by decide) ?_
  refine lv_goto (tgt := 35) hx hb d_Checks_canRead_31 (by decide) ?_
  exact me_retz (me_kp M0) h (by decide) hx hb hr hlocks hwf hkp hP hK hD hS d_Checks_canRead_35
theorem d_Checks_areArguments_0 : decode prog_3_method_12_code 0 = .ok (.aload_n 0, 1) := by decide +kernel
theorem d_Checks_areArguments_1 : decode prog_3_method_12_code 1 = .ok (.getfield 23, 3) := by decide +kernel
theorem d_Checks_areArguments_4 : decode prog_3_method_12_code 4 = .ok (.getfield 88, 3) := by decide +kernel
theorem d_Checks_areArguments_7 : decode prog_3_method_12_code 7 = .ok (.tableswitch 79 4 6 #[27, 25, 46], 25) := by decide +kernel
theorem d_Checks_areArguments_34 : decode prog_3_method_12_code 34 = .ok (.aload_n 0, 1) := by decide +kernel
theorem d_Checks_areArguments_35 : decode prog_3_method_12_code 35 = .ok (.getfield 22, 3) := by decide +kernel
theorem d_Checks_areArguments_38 : decode prog_3_method_12_code 38 = .ok (.iconst 1, 1) := by decide +kernel
theorem d_Checks_areArguments_39 : decode prog_3_method_12_code 39 = .ok (.aaload, 1) := by decide +kernel
theorem d_Checks_areArguments_40 : decode prog_3_method_12_code 40 = .ok (.getfield 34, 3) := by decide +kernel
theorem d_Checks_areArguments_43 : decode prog_3_method_12_code 43 = .ok (.iconst 1, 1) := by decide +kernel
theorem d_Checks_areArguments_44 : decode prog_3_method_12_code 44 = .ok (.if_icmp .ne 7, 3) := by decide +kernel
theorem d_Checks_areArguments_51 : decode prog_3_method_12_code 51 = .ok (.iconst 0, 1) := by decide +kernel
theorem d_Checks_areArguments_52 : decode prog_3_method_12_code 52 = .ok (.ireturn, 1) := by decide +kernel
theorem d_Checks_areArguments_47 : decode prog_3_method_12_code 47 = .ok (.iconst 1, 1) := by decide +kernel
theorem d_Checks_areArguments_48 : decode prog_3_method_12_code 48 = .ok (.goto 4, 3) := by decide +kernel
theorem d_Checks_areArguments_32 : decode prog_3_method_12_code 32 = .ok (.iconst 1, 1) := by decide +kernel
theorem d_Checks_areArguments_33 : decode prog_3_method_12_code 33 = .ok (.ireturn, 1) := by decide +kernel
theorem d_Checks_areArguments_53 : decode prog_3_method_12_code 53 = .ok (.aload_n 0, 1) := by decide +kernel
theorem d_Checks_areArguments_54 : decode prog_3_method_12_code 54 = .ok (.getfield 22, 3) := by decide +kernel
theorem d_Checks_areArguments_57 : decode prog_3_method_12_code 57 = .ok (.iconst 2, 1) := by decide +kernel
theorem d_Checks_areArguments_58 : decode prog_3_method_12_code 58 = .ok (.aaload, 1) := by decide +kernel
theorem d_Checks_areArguments_59 : decode prog_3_method_12_code 59 = .ok (.getfield 34, 3) := by decide +kernel
theorem d_Checks_areArguments_62 : decode prog_3_method_12_code 62 = .ok (.iconst 1, 1) := by decide +kernel
theorem d_Checks_areArguments_63 : decode prog_3_method_12_code 63 = .ok (.if_icmp .ne 21, 3) := by decide +kernel
theorem d_Checks_areArguments_84 : decode prog_3_method_12_code 84 = .ok (.iconst 0, 1) := by decide +kernel
theorem d_Checks_areArguments_85 : decode prog_3_method_12_code 85 = .ok (.ireturn, 1) := by decide +kernel
theorem d_Checks_areArguments_66 : decode prog_3_method_12_code 66 = .ok (.aload_n 0, 1) := by decide +kernel
theorem d_Checks_areArguments_67 : decode prog_3_method_12_code 67 = .ok (.iconst 1, 1) := by decide +kernel
theorem d_Checks_areArguments_68 : decode prog_3_method_12_code 68 = .ok (.aload_n 1, 1) := by decide +kernel
theorem d_Checks_areArguments_69 : decode prog_3_method_12_code 69 = .ok (.iconst 1, 1) := by decide +kernel
theorem d_Checks_areArguments_70 : decode prog_3_method_12_code 70 = .ok (.laload, 1) := by decide +kernel
theorem d_Checks_areArguments_71 : decode prog_3_method_12_code 71 = .ok (.aload_n 1, 1) := by decide +kernel
theorem d_Checks_areArguments_72 : decode prog_3_method_12_code 72 = .ok (.iconst 2, 1) := by decide +kernel
theorem d_Checks_areArguments_73 : decode prog_3_method_12_code 73 = .ok (.laload, 1) := by decide +kernel
theorem d_Checks_areArguments_74 : decode prog_3_method_12_code 74 = .ok (.invokevirtual 136, 3) := by decide +kernel
theorem u_1623 : Cond.methodLink "FilterGuard$Checks" 136 ⟨"FilterGuard$Checks", "canRead", "(IJJ)Z"⟩ ∈ fg_g := fg_in (List.mem_of_getElem? (i := 1623) (by decide +kernel)) rfl
theorem u_1626 : Cond.code ⟨"FilterGuard$Checks", "canRead", "(IJJ)Z"⟩ prog_3_method_13_code 10 (some .boolean) ∈ fg_g := fg_in (List.mem_of_getElem? (i := 1626) (by decide +kernel)) rfl
theorem u_1625 : Cond.instanceMethod ⟨"FilterGuard$Checks", "canRead", "(IJJ)Z"⟩ ∈ fg_g := fg_in (List.mem_of_getElem? (i := 1625) (by decide +kernel)) rfl
theorem u_69 : Cond.selects "FilterGuard$Checks" ⟨"FilterGuard$Checks", "canRead", "(IJJ)Z"⟩ ⟨"FilterGuard$Checks", "canRead", "(IJJ)Z"⟩ ∈ fg_g := fg_in (List.mem_of_getElem? (i := 69) (by decide +kernel)) rfl
theorem d_Checks_areArguments_77 : decode prog_3_method_12_code 77 = .ok (.ifCond .eq 7, 3) := by decide +kernel
theorem d_Checks_areArguments_80 : decode prog_3_method_12_code 80 = .ok (.iconst 1, 1) := by decide +kernel
theorem d_Checks_areArguments_81 : decode prog_3_method_12_code 81 = .ok (.goto 4, 3) := by decide +kernel
theorem d_Checks_areArguments_86 : decode prog_3_method_12_code 86 = .ok (.aload_n 1, 1) := by decide +kernel
theorem d_Checks_areArguments_87 : decode prog_3_method_12_code 87 = .ok (.iconst 1, 1) := by decide +kernel
theorem d_Checks_areArguments_88 : decode prog_3_method_12_code 88 = .ok (.laload, 1) := by decide +kernel
theorem d_Checks_areArguments_89 : decode prog_3_method_12_code 89 = .ok (.lstore_n 2, 1) := by decide +kernel
theorem d_Checks_areArguments_90 : decode prog_3_method_12_code 90 = .ok (.aload_n 0, 1) := by decide +kernel
theorem d_Checks_areArguments_91 : decode prog_3_method_12_code 91 = .ok (.getfield 22, 3) := by decide +kernel
theorem d_Checks_areArguments_94 : decode prog_3_method_12_code 94 = .ok (.iconst 1, 1) := by decide +kernel
theorem d_Checks_areArguments_95 : decode prog_3_method_12_code 95 = .ok (.aaload, 1) := by decide +kernel
theorem d_Checks_areArguments_96 : decode prog_3_method_12_code 96 = .ok (.getfield 34, 3) := by decide +kernel
theorem d_Checks_areArguments_99 : decode prog_3_method_12_code 99 = .ok (.bipush 6, 2) := by decide +kernel
theorem d_Checks_areArguments_101 : decode prog_3_method_12_code 101 = .ok (.if_icmp .ne 27, 3) := by decide +kernel
theorem d_Checks_areArguments_128 : decode prog_3_method_12_code 128 = .ok (.iconst 0, 1) := by decide +kernel
theorem d_Checks_areArguments_129 : decode prog_3_method_12_code 129 = .ok (.ireturn, 1) := by decide +kernel
theorem d_Checks_areArguments_104 : decode prog_3_method_12_code 104 = .ok (.lload_n 2, 1) := by decide +kernel
theorem d_Checks_areArguments_105 : decode prog_3_method_12_code 105 = .ok (.lconst 0, 1) := by decide +kernel
theorem d_Checks_areArguments_106 : decode prog_3_method_12_code 106 = .ok (.lcmp, 1) := by decide +kernel
theorem d_Checks_areArguments_107 : decode prog_3_method_12_code 107 = .ok (.ifCond .lt 21, 3) := by decide +kernel
theorem d_Checks_areArguments_110 : decode prog_3_method_12_code 110 = .ok (.lload_n 2, 1) := by decide +kernel
theorem d_Checks_areArguments_111 : decode prog_3_method_12_code 111 = .ok (.ldc2_w 140, 3) := by decide +kernel
theorem u_1632 : Cond.constantLong "FilterGuard$Checks" 140 4 ∈ fg_g := fg_in (List.mem_of_getElem? (i := 1632) (by decide +kernel)) rfl
theorem d_Checks_areArguments_114 : decode prog_3_method_12_code 114 = .ok (.lcmp, 1) := by decide +kernel
theorem d_Checks_areArguments_115 : decode prog_3_method_12_code 115 = .ok (.ifCond .ge 13, 3) := by decide +kernel
theorem d_Checks_areArguments_118 : decode prog_3_method_12_code 118 = .ok (.aload_n 0, 1) := by decide +kernel
theorem d_Checks_areArguments_119 : decode prog_3_method_12_code 119 = .ok (.getfield 27, 3) := by decide +kernel
theorem g_Checks_1 {p : Program} {l : Launch} {e : Env} {R : Room} {s : Jvm.State} {m : MethodId} {args : Array Value} {below : List Frame} {meth : Method} {c : Code} {H : Heap} {locs : List Loc} {cells slots : Nat} {Q : Jvm.State → Prop} {cc : ByteArray} {pc : Nat} {ls : Array Slot} {rest : List Value} {D : va_G} {ad : Nat → Nat → Nat} {ca : Nat → ClassId} {M : me_M} {N : Nat → Nat} {own : String} {index j : Nat} (hexec : p.tables.exec = Jvm.exec) (hb : c.code = cc) (hts : ∀ w ∈ fg_g, w.before args s = true) (hown : s.vm.findClass own = some m.cls) (hK : va_K D classes (me_T ca) s) (hP : va_P D classes (me_W ad ca M) H) (hwf : me_wf N M) (hj : j < N 6) (hlink : (Cond.fieldLink own index "FilterGuard$Checks" "stores" "[LFilterGuard$Store;").before args s = true) (hdg : decode cc pc = .ok (.getfield index, 3)) (kk : W p l e R s m args below meth c H locs cells slots Q (F0 m (pc + 3) ls (va_rf ((mR M 6 j 1).map (ad 19)) :: rest))) : W p l e R s m args below meth c H locs cells slots Q (F0 m pc ls (.ref (ad 6 j) :: rest)) := me_get (k := 6) (f := 1) (C := "FilterGuard$Checks") (T := F_Checks) (Nf := 4) hexec hb hts i_Checks hown hK hP hwf hj (by decide) rfl (by decide) (by decide) hlink (fun _ h9 => h9) hdg kk
theorem d_Checks_areArguments_122 : decode prog_3_method_12_code 122 = .ok (.lload_n 2, 1) := by decide +kernel
theorem d_Checks_areArguments_123 : decode prog_3_method_12_code 123 = .ok (.l2i, 1) := by decide +kernel
theorem d_Checks_areArguments_124 : decode prog_3_method_12_code 124 = .ok (.aaload, 1) := by decide +kernel
theorem d_Checks_areArguments_125 : decode prog_3_method_12_code 125 = .ok (.ifnonnull 5, 3) := by decide +kernel
theorem d_Checks_areArguments_130 : decode prog_3_method_12_code 130 = .ok (.aload_n 0, 1) := by decide +kernel
theorem d_Checks_areArguments_131 : decode prog_3_method_12_code 131 = .ok (.getfield 27, 3) := by decide +kernel
theorem d_Checks_areArguments_134 : decode prog_3_method_12_code 134 = .ok (.lload_n 2, 1) := by decide +kernel
theorem d_Checks_areArguments_135 : decode prog_3_method_12_code 135 = .ok (.l2i, 1) := by decide +kernel
theorem d_Checks_areArguments_136 : decode prog_3_method_12_code 136 = .ok (.aaload, 1) := by decide +kernel
theorem d_Checks_areArguments_137 : decode prog_3_method_12_code 137 = .ok (.astore 4, 2) := by decide +kernel
theorem d_Checks_areArguments_139 : decode prog_3_method_12_code 139 = .ok (.aload_n 0, 1) := by decide +kernel
theorem d_Checks_areArguments_140 : decode prog_3_method_12_code 140 = .ok (.iconst 2, 1) := by decide +kernel
theorem d_Checks_areArguments_141 : decode prog_3_method_12_code 141 = .ok (.aload_n 1, 1) := by decide +kernel
theorem d_Checks_areArguments_142 : decode prog_3_method_12_code 142 = .ok (.iconst 2, 1) := by decide +kernel
theorem d_Checks_areArguments_143 : decode prog_3_method_12_code 143 = .ok (.laload, 1) := by decide +kernel
theorem d_Checks_areArguments_144 : decode prog_3_method_12_code 144 = .ok (.aload 4, 2) := by decide +kernel
theorem d_Checks_areArguments_146 : decode prog_3_method_12_code 146 = .ok (.getfield 142, 3) := by decide +kernel
theorem u_903 : Cond.fieldLink "FilterGuard$Checks" 142 "FilterGuard$Store" "keyBytes" "I" ∈ fg_g := fg_in (List.mem_of_getElem? (i := 903) (by decide +kernel)) rfl
theorem d_Checks_areArguments_149 : decode prog_3_method_12_code 149 = .ok (.i2l, 1) := by decide +kernel
theorem d_Checks_areArguments_150 : decode prog_3_method_12_code 150 = .ok (.invokevirtual 136, 3) := by decide +kernel
theorem d_Checks_areArguments_153 : decode prog_3_method_12_code 153 = .ok (.ifCond .eq 35, 3) := by decide +kernel
theorem d_Checks_areArguments_188 : decode prog_3_method_12_code 188 = .ok (.iconst 0, 1) := by decide +kernel
theorem d_Checks_areArguments_189 : decode prog_3_method_12_code 189 = .ok (.ireturn, 1) := by decide +kernel
theorem d_Checks_areArguments_156 : decode prog_3_method_12_code 156 = .ok (.aload_n 0, 1) := by decide +kernel
theorem d_Checks_areArguments_157 : decode prog_3_method_12_code 157 = .ok (.getfield 23, 3) := by decide +kernel
theorem d_Checks_areArguments_160 : decode prog_3_method_12_code 160 = .ok (.getfield 88, 3) := by decide +kernel
theorem d_Checks_areArguments_163 : decode prog_3_method_12_code 163 = .ok (.iconst 2, 1) := by decide +kernel
theorem d_Checks_areArguments_164 : decode prog_3_method_12_code 164 = .ok (.if_icmp .ne 20, 3) := by decide +kernel
theorem d_Checks_areArguments_184 : decode prog_3_method_12_code 184 = .ok (.iconst 1, 1) := by decide +kernel
theorem d_Checks_areArguments_185 : decode prog_3_method_12_code 185 = .ok (.goto 4, 3) := by decide +kernel
theorem d_Checks_areArguments_167 : decode prog_3_method_12_code 167 = .ok (.aload_n 0, 1) := by decide +kernel
theorem d_Checks_areArguments_168 : decode prog_3_method_12_code 168 = .ok (.iconst 3, 1) := by decide +kernel
theorem d_Checks_areArguments_169 : decode prog_3_method_12_code 169 = .ok (.aload_n 1, 1) := by decide +kernel
theorem d_Checks_areArguments_170 : decode prog_3_method_12_code 170 = .ok (.iconst 3, 1) := by decide +kernel
theorem d_Checks_areArguments_171 : decode prog_3_method_12_code 171 = .ok (.laload, 1) := by decide +kernel
theorem d_Checks_areArguments_172 : decode prog_3_method_12_code 172 = .ok (.aload 4, 2) := by decide +kernel
theorem d_Checks_areArguments_174 : decode prog_3_method_12_code 174 = .ok (.getfield 147, 3) := by decide +kernel
theorem u_908 : Cond.fieldLink "FilterGuard$Checks" 147 "FilterGuard$Store" "valueBytes" "I" ∈ fg_g := fg_in (List.mem_of_getElem? (i := 908) (by decide +kernel)) rfl
theorem d_Checks_areArguments_177 : decode prog_3_method_12_code 177 = .ok (.i2l, 1) := by decide +kernel
theorem d_Checks_areArguments_178 : decode prog_3_method_12_code 178 = .ok (.invokevirtual 136, 3) := by decide +kernel
theorem d_Checks_areArguments_181 : decode prog_3_method_12_code 181 = .ok (.ifCond .eq 7, 3) := by decide +kernel
abbrev y_Checks_areArguments : MethodName := ⟨"FilterGuard$Checks", "areArguments", "([J)Z"⟩
def rm_Checks_areArguments : Room := { frames := 4, cells := 0, slots := 0, locals := 111 }
abbrev q_Checks_areArguments (D : va_G) (ad : Nat → Nat → Nat) (ca : Nat → ClassId) (N : Nat → Nat) (M0 MZ : me_M) (RZ : Int32) (A : Nat → Prop) : Array Value → Jvm.State → Outcome → Jvm.State → Prop := va_Qi (fun r (_ : Unit) => r = RZ ∧ me_wf N MZ ∧ me_kp M0 MZ ∧ (RZ = 1 ∨ RZ = 0)) (fg_B D A (fun _ => me_W ad ca MZ) (fun _ => [])) A
set_option maxHeartbeats 4000000 in
set_option maxRecDepth 100000 in
theorem c_Checks_areArguments (l : Launch) (D : va_G) (ad : Nat → Nat → Nat) (ca : Nat → ClassId) (N : Nat → Nat) (M0 MZ : me_M) (RZ : Int32) (j0 : Nat) (j1 : Nat) (h : f_Checks_areArguments M0 j0 j1 = (some (MZ, RZ))) (hwf : me_wf N M0) (hj0 : j0 < N 6) (hj1 : j1 < N 16) (sz : Nat) : Met l y_Checks_areArguments (fg_w y_Checks_areArguments prog_3_method_12_code 5 (some .boolean)) rm_Checks_areArguments (va_Pc [.ref (ad 6 j0), .ref (ad 16 j1)] (fz_P D (me_T ca) (me_W ad ca M0) sz)) (q_Checks_areArguments D ad ca N M0 MZ RZ (va_A (me_W ad ca M0) sz)) rm_Checks_areArguments.cells rm_Checks_areArguments.slots (va_A (me_W ad ca M0) sz) := by
  refine fz_enter (fun A => q_Checks_areArguments D ad ca N M0 MZ RZ A) (by decide +kernel) (Nat.le_of_ble_eq_true rfl) ?_
  intro p e s m below meth c ls A hx hb hml hown hts hr hlocks hin hP hK hD hS hA hX hl hz
  have hl : lv_has ls 5 [(0, .ref (ad 6 j0)), (1, .ref (ad 16 j1))] := hl
  unfold f_Checks_areArguments at h
  have hkp : me_kp M0 M0 := me_kp.rf
  have hkb := hkp
  refine lv_aload_n hx hb d_Checks_areArguments_0 rfl (lv_at hl 0 rfl) ?_
  refine g_Checks_0 hx hb hts hown hK hP hwf hj0 (hts _ u_610) d_Checks_areArguments_1 ?_
  obtain ⟨j2, e3, h⟩ := bd_ob h
  have hj2 : j2 < N 2 := (hwf.2.1 6 j0 0 _ e3 (by decide) hj0)
  refine me_opt (j := j2) e3 ?_
  refine g_Code_9 hx hb hts hown hK hP hwf hj2 (hts _ u_250) d_Checks_areArguments_4 ?_
  refine lv_topi (fun w4 ew4 => ?_)
  by_cases n5 : w4 = 4
  · have h := if_t (ew4.symm.trans n5) h
    subst n5
    refine lv_tableIn (off := 27) (tgt := 34) hx hb d_Checks_areArguments_7 (by decide) (by decide) (by decide) (by decide) ?_
    refine lv_aload_n hx hb d_Checks_areArguments_34 rfl (lv_at hl 0 rfl) ?_
    refine g_Checks_3 hx hb hts hown hK hP hwf hj0 (hts _ u_613) d_Checks_areArguments_35 ?_
    obtain ⟨j6, e7, h⟩ := bd_ob h
    have hj6 : j6 < N 18 := (hwf.2.1 6 j0 3 _ e7 (by decide) hj0)
    refine me_opt (j := j6) e7 ?_
    refine lv_iconst (v := 1) hx hb d_Checks_areArguments_38 (by decide) ?_
    obtain ⟨g8, h⟩ := gd_ob h
    refine me_aald (k := 18) (t := 10) hx hb hK hP hwf hj6 (by decide) (by decide) rfl (fun _ => rfl) (me_in (i := (1 : Int32)) (k := 1) (by decide) (by decide) g8) d_Checks_areArguments_39 ?_
    rw [show (1 : Int32).toNatClampNeg = 1 by decide]
    obtain ⟨j9, e10, h⟩ := bd_ob h
    have hj9 : j9 < N 10 := (hwf.2.1 18 j6 1 _ e10 (by decide) hj6)
    refine me_opt (j := j9) e10 ?_
    refine g_Cell_0 hx hb hts hown hK hP hwf hj9 (hts _ u_421) d_Checks_areArguments_40 ?_
    refine lv_iconst (v := 1) hx hb d_Checks_areArguments_43 (by decide) ?_
    refine lv_icmp_ne (tgt := 51) hx hb d_Checks_areArguments_44 (by decide) (fun c11 => ?_) (fun c11 => ?_)
    · have h := if_f c11 h
      refine lv_iconst (v := 0) hx hb d_Checks_areArguments_51 (by decide) ?_
      exact me_retz (me_kp M0) h (by decide) hx hb hr hlocks hwf hkp hP hK hD hS d_Checks_areArguments_52
    have h := if_t c11 h
    refine lv_iconst (v := 1) hx hb d_Checks_areArguments_47 (by decide) ?_
    refine lv_goto (tgt := 52) hx hb d_Checks_areArguments_48 (by decide) ?_
    exact me_retz (me_kp M0) h (by decide) hx hb hr hlocks hwf hkp hP hK hD hS d_Checks_areArguments_52
  have h := if_f (fun z => n5 (ew4.trans z)) h
  by_cases n12 : w4 = 5
  · have h := if_t (ew4.symm.trans n12) h
    subst n12
    refine lv_tableIn (off := 25) (tgt := 32) hx hb d_Checks_areArguments_7 (by decide) (by decide) (by decide) (by decide) ?_
    refine lv_iconst (v := 1) hx hb d_Checks_areArguments_32 (by decide) ?_
    exact me_retz (me_kp M0) h (by decide) hx hb hr hlocks hwf hkp hP hK hD hS d_Checks_areArguments_33
  have h := if_f (fun z => n12 (ew4.trans z)) h
  by_cases n13 : w4 = 6
  · have h := if_t (ew4.symm.trans n13) h
    subst n13
    refine lv_tableIn (off := 46) (tgt := 53) hx hb d_Checks_areArguments_7 (by decide) (by decide) (by decide) (by decide) ?_
    refine lv_aload_n hx hb d_Checks_areArguments_53 rfl (lv_at hl 0 rfl) ?_
    refine g_Checks_3 hx hb hts hown hK hP hwf hj0 (hts _ u_613) d_Checks_areArguments_54 ?_
    obtain ⟨j14, e15, h⟩ := bd_ob h
    have hj14 : j14 < N 18 := (hwf.2.1 6 j0 3 _ e15 (by decide) hj0)
    refine me_opt (j := j14) e15 ?_
    refine lv_iconst (v := 2) hx hb d_Checks_areArguments_57 (by decide) ?_
    obtain ⟨g16, h⟩ := gd_ob h
    refine me_aald (k := 18) (t := 10) hx hb hK hP hwf hj14 (by decide) (by decide) rfl (fun _ => rfl) (me_in (i := (2 : Int32)) (k := 2) (by decide) (by decide) g16) d_Checks_areArguments_58 ?_
    rw [show (2 : Int32).toNatClampNeg = 2 by decide]
    obtain ⟨j17, e18, h⟩ := bd_ob h
    have hj17 : j17 < N 10 := (hwf.2.1 18 j14 2 _ e18 (by decide) hj14)
    refine me_opt (j := j17) e18 ?_
    refine g_Cell_0 hx hb hts hown hK hP hwf hj17 (hts _ u_421) d_Checks_areArguments_59 ?_
    refine lv_iconst (v := 1) hx hb d_Checks_areArguments_62 (by decide) ?_
    refine lv_icmp_ne (tgt := 84) hx hb d_Checks_areArguments_63 (by decide) (fun c19 => ?_) (fun c19 => ?_)
    · have h := if_f c19 h
      refine lv_iconst (v := 0) hx hb d_Checks_areArguments_84 (by decide) ?_
      exact me_retz (me_kp M0) h (by decide) hx hb hr hlocks hwf hkp hP hK hD hS d_Checks_areArguments_85
    have h := if_t c19 h
    refine lv_aload_n hx hb d_Checks_areArguments_66 rfl (lv_at hl 0 rfl) ?_
    refine lv_iconst (v := 1) hx hb d_Checks_areArguments_67 (by decide) ?_
    refine lv_aload_n hx hb d_Checks_areArguments_68 rfl (lv_at hl 1 rfl) ?_
    refine lv_iconst (v := 1) hx hb d_Checks_areArguments_69 (by decide) ?_
    obtain ⟨g20, h⟩ := gd_ob h
    refine me_lald hx hb hK hP hwf hj1 (me_in (i := (1 : Int32)) (k := 1) (by decide) (by decide) g20) d_Checks_areArguments_70 ?_
    refine fg_topl (y := mL M0 16 j1 1) (congrArg _ (by decide)) ?_
    refine lv_aload_n hx hb d_Checks_areArguments_71 rfl (lv_at hl 1 rfl) ?_
    refine lv_iconst (v := 2) hx hb d_Checks_areArguments_72 (by decide) ?_
    obtain ⟨g21, h⟩ := gd_ob h
    refine me_lald hx hb hK hP hwf hj1 (me_in (i := (2 : Int32)) (k := 2) (by decide) (by decide) g21) d_Checks_areArguments_73 ?_
    refine fg_topl (y := mL M0 16 j1 2) (congrArg _ (by decide)) ?_
    obtain ⟨M22, r23, eM22, h⟩ := b2_ob h
    refine me_theni0 (M1 := M22) (me_runV (C := "FilterGuard$Checks") (As := [.int 1, .long (mL M0 16 j1 1), .long (mL M0 16 j1 2)]) (rest := []) ⟨hx, hb, hml, hown, hts⟩ (c_Checks_canRead l D ad ca N M0 M22 r23 j0 (1 : Int32) (mL M0 16 j1 1) (mL M0 16 j1 2) eM22 hwf hj0 _) rfl (by show fg_nm y_Checks_canRead 3; decide +kernel) u_1623 u_1625 u_69 u_191 u_1626 ⟨Nat.le_of_ble_eq_true rfl, Nat.le_of_ble_eq_true rfl⟩ hX hz hK hP hD hwf hS hA hj0 (by decide) rfl rfl rfl hl.1 (Nat.le_of_ble_eq_true rfl) d_Checks_areArguments_74 ⟨Nat.le_of_ble_eq_true rfl, Nat.le_of_ble_eq_true rfl⟩) hP hD hK hS hA rfl rfl (fun H locs hw hP hD hS => ?_)
    obtain ⟨hwf, hk9, zr23⟩ := hw
    have hkp := hkp.tr hk9
    refine lv_if_eq (tgt := 84) hx hb d_Checks_areArguments_77 (by decide) (fun c24 => ?_) (fun c24 => ?_)
    · have h := if_t c24 h
      refine lv_iconst (v := 0) hx hb d_Checks_areArguments_84 (by decide) ?_
      exact me_retz (me_kp M0) h (by decide) hx hb hr hlocks hwf hkp hP hK hD hS d_Checks_areArguments_85
    have h := if_f c24 h
    refine lv_iconst (v := 1) hx hb d_Checks_areArguments_80 (by decide) ?_
    refine lv_goto (tgt := 85) hx hb d_Checks_areArguments_81 (by decide) ?_
    exact me_retz (me_kp M0) h (by decide) hx hb hr hlocks hwf hkp hP hK hD hS d_Checks_areArguments_85
  have h := if_f (fun z => n13 (ew4.trans z)) h
  have in5 := lv_neT n5 (show (4 : Int32).toInt = 4 from rfl)
  have in12 := lv_neT n12 (show (5 : Int32).toInt = 5 from rfl)
  have in13 := lv_neT n13 (show (6 : Int32).toInt = 6 from rfl)
  refine lv_tableOut (tgt := 86) hx hb d_Checks_areArguments_7 (by omega) (by decide) ?_
  refine lv_aload_n hx hb d_Checks_areArguments_86 rfl (lv_at hl 1 rfl) ?_
  refine lv_iconst (v := 1) hx hb d_Checks_areArguments_87 (by decide) ?_
  obtain ⟨g25, h⟩ := gd_ob h
  refine me_lald hx hb hK hP hwf hj1 (me_in (i := (1 : Int32)) (k := 1) (by decide) (by decide) g25) d_Checks_areArguments_88 ?_
  refine fg_topl (y := mL M0 16 j1 1) (congrArg _ (by decide)) ?_
  obtain ⟨v26, ev26, h⟩ := st_ob h
  refine fg_topl (y := v26) ev26.symm ?_
  refine lv_lstore_n (lv' := [(2, .long v26), (0, .ref (ad 6 j0)), (1, .ref (ad 16 j1))]) hx hb d_Checks_areArguments_89 rfl hl (by decide) rfl (fun ls hl => ?_)
  refine lv_aload_n hx hb d_Checks_areArguments_90 rfl (lv_at hl 1 rfl) ?_
  refine g_Checks_3 hx hb hts hown hK hP hwf hj0 (hts _ u_613) d_Checks_areArguments_91 ?_
  obtain ⟨j27, e28, h⟩ := bd_ob h
  have hj27 : j27 < N 18 := (hwf.2.1 6 j0 3 _ e28 (by decide) hj0)
  refine me_opt (j := j27) e28 ?_
  refine lv_iconst (v := 1) hx hb d_Checks_areArguments_94 (by decide) ?_
  obtain ⟨g29, h⟩ := gd_ob h
  refine me_aald (k := 18) (t := 10) hx hb hK hP hwf hj27 (by decide) (by decide) rfl (fun _ => rfl) (me_in (i := (1 : Int32)) (k := 1) (by decide) (by decide) g29) d_Checks_areArguments_95 ?_
  rw [show (1 : Int32).toNatClampNeg = 1 by decide]
  obtain ⟨j30, e31, h⟩ := bd_ob h
  have hj30 : j30 < N 10 := (hwf.2.1 18 j27 1 _ e31 (by decide) hj27)
  refine me_opt (j := j30) e31 ?_
  refine g_Cell_0 hx hb hts hown hK hP hwf hj30 (hts _ u_421) d_Checks_areArguments_96 ?_
  refine lv_bipush (v := 6) hx hb d_Checks_areArguments_99 (by decide) ?_
  refine lv_icmp_ne (tgt := 128) hx hb d_Checks_areArguments_101 (by decide) (fun c32 => ?_) (fun c32 => ?_)
  · have h := if_f c32 h
    refine lv_iconst (v := 0) hx hb d_Checks_areArguments_128 (by decide) ?_
    exact me_retz (me_kp M0) h (by decide) hx hb hr hlocks hwf hkp hP hK hD hS d_Checks_areArguments_129
  have h := if_t c32 h
  refine lv_lload_n hx hb d_Checks_areArguments_104 rfl (lv_at hl 0 rfl) ?_
  refine lv_lconst (v := 0) hx hb d_Checks_areArguments_105 (by decide) ?_
  refine W.lcmp hx hb d_Checks_areArguments_106 ?_
  refine lv_if_lt (tgt := 128) hx hb d_Checks_areArguments_107 (by decide) (fun c33 => ?_) (fun c33 => ?_)
  · have h := if_t ((lg_cmp_lt _ _).mp c33) h
    refine lv_iconst (v := 0) hx hb d_Checks_areArguments_128 (by decide) ?_
    exact me_retz (me_kp M0) h (by decide) hx hb hr hlocks hwf hkp hP hK hD hS d_Checks_areArguments_129
  have h := if_f (fun z => c33 ((lg_cmp_lt _ _).mpr z)) h
  refine lv_lload_n hx hb d_Checks_areArguments_110 rfl (lv_at hl 0 rfl) ?_
  refine lv_ldc2 hx hb hown (hts _ u_1632) d_Checks_areArguments_111 ?_
  refine W.lcmp hx hb d_Checks_areArguments_114 ?_
  refine lv_if_ge (tgt := 128) hx hb d_Checks_areArguments_115 (by decide) (fun c34 => ?_) (fun c34 => ?_)
  · have h := if_f (Int64.not_lt.mpr ((lg_cmp_ge _ _).mp c34)) h
    refine lv_iconst (v := 0) hx hb d_Checks_areArguments_128 (by decide) ?_
    exact me_retz (me_kp M0) h (by decide) hx hb hr hlocks hwf hkp hP hK hD hS d_Checks_areArguments_129
  have h := if_t (Int64.not_le.mp (fun z => c34 ((lg_cmp_ge _ _).mpr z))) h
  refine lv_aload_n hx hb d_Checks_areArguments_118 rfl (lv_at hl 1 rfl) ?_
  refine g_Checks_1 hx hb hts hown hK hP hwf hj0 (hts _ u_611) d_Checks_areArguments_119 ?_
  obtain ⟨j35, e36, h⟩ := bd_ob h
  have hj35 : j35 < N 19 := (hwf.2.1 6 j0 1 _ e36 (by decide) hj0)
  refine me_opt (j := j35) e36 ?_
  refine lv_lload_n hx hb d_Checks_areArguments_122 rfl (lv_at hl 0 rfl) ?_
  refine lv_l2i (v := v26.toInt32) hx hb d_Checks_areArguments_123 rfl ?_
  obtain ⟨g37, h⟩ := gd_ob h
  refine me_aald (k := 19) (t := 12) hx hb hK hP hwf hj35 (by decide) (by decide) rfl (fun _ => rfl) g37 d_Checks_areArguments_124 ?_
  rcases e39 : (mR M0 19 j35 v26.toInt32.toNatClampNeg) with _ | j38
  · have h := oc_n2 e39 h
    refine lv_ifnonnullN hx hb d_Checks_areArguments_125 ?_
    refine lv_iconst (v := 0) hx hb d_Checks_areArguments_128 (by decide) ?_
    exact me_retz (me_kp M0) h (by decide) hx hb hr hlocks hwf hkp hP hK hD hS d_Checks_areArguments_129
  have h := oc_s2 e39 h
  refine lv_ifnonnull (tgt := 130) hx hb d_Checks_areArguments_125 (by decide) ?_
  refine lv_aload_n hx hb d_Checks_areArguments_130 rfl (lv_at hl 1 rfl) ?_
  refine g_Checks_1 hx hb hts hown hK hP hwf hj0 (hts _ u_611) d_Checks_areArguments_131 ?_
  refine me_opt (j := j35) e36 ?_
  refine lv_lload_n hx hb d_Checks_areArguments_134 rfl (lv_at hl 0 rfl) ?_
  refine lv_l2i (v := v26.toInt32) hx hb d_Checks_areArguments_135 rfl ?_
  refine me_aald (k := 19) (t := 12) hx hb hK hP hwf hj35 (by decide) (by decide) rfl (fun _ => rfl) g37 d_Checks_areArguments_136 ?_
  obtain ⟨j40, e41, h⟩ := bd_ob h
  have hj40 : j40 < N 12 := (hwf.2.1 19 j35 v26.toInt32.toNatClampNeg _ e41 (by decide) hj35)
  refine me_opt (j := j40) e41 ?_
  refine lv_astore (lv' := [(4, .ref (ad 12 j40)), (2, .long v26), (0, .ref (ad 6 j0)), (1, .ref (ad 16 j1))]) hx hb d_Checks_areArguments_137 hl (by decide) rfl (fun ls hl => ?_)
  refine lv_aload_n hx hb d_Checks_areArguments_139 rfl (lv_at hl 2 rfl) ?_
  refine lv_iconst (v := 2) hx hb d_Checks_areArguments_140 (by decide) ?_
  refine lv_aload_n hx hb d_Checks_areArguments_141 rfl (lv_at hl 3 rfl) ?_
  refine lv_iconst (v := 2) hx hb d_Checks_areArguments_142 (by decide) ?_
  obtain ⟨g42, h⟩ := gd_ob h
  refine me_lald hx hb hK hP hwf hj1 (me_in (i := (2 : Int32)) (k := 2) (by decide) (by decide) g42) d_Checks_areArguments_143 ?_
  refine fg_topl (y := mL M0 16 j1 2) (congrArg _ (by decide)) ?_
  refine lv_aload hx hb d_Checks_areArguments_144 (lv_at hl 0 rfl) ?_
  refine g_Store_1 hx hb hts hown hK hP hwf hj40 (hts _ u_903) d_Checks_areArguments_146 ?_
  refine lv_i2l (v := (mI M0 12 j40 1).toInt64) hx hb d_Checks_areArguments_149 rfl ?_
  obtain ⟨M43, r44, eM43, h⟩ := b2_ob h
  refine me_theni0 (M1 := M43) (me_runV (C := "FilterGuard$Checks") (As := [.int 2, .long (mL M0 16 j1 2), .long ((mI M0 12 j40 1).toInt64)]) (rest := []) ⟨hx, hb, hml, hown, hts⟩ (c_Checks_canRead l D ad ca N M0 M43 r44 j0 (2 : Int32) (mL M0 16 j1 2) ((mI M0 12 j40 1).toInt64) eM43 hwf hj0 _) rfl (by show fg_nm y_Checks_canRead 3; decide +kernel) u_1623 u_1625 u_69 u_191 u_1626 ⟨Nat.le_of_ble_eq_true rfl, Nat.le_of_ble_eq_true rfl⟩ hX hz hK hP hD hwf hS hA hj0 (by decide) rfl rfl rfl hl.1 (Nat.le_of_ble_eq_true rfl) d_Checks_areArguments_150 ⟨Nat.le_of_ble_eq_true rfl, Nat.le_of_ble_eq_true rfl⟩) hP hD hK hS hA rfl rfl (fun H locs hw hP hD hS => ?_)
  obtain ⟨hwf, hk9, zr44⟩ := hw
  have hkp := hkp.tr hk9
  refine lv_if_eq (tgt := 188) hx hb d_Checks_areArguments_153 (by decide) (fun c45 => ?_) (fun c45 => ?_)
  · have h := if_t c45 h
    refine lv_iconst (v := 0) hx hb d_Checks_areArguments_188 (by decide) ?_
    exact me_retz (me_kp M0) h (by decide) hx hb hr hlocks hwf hkp hP hK hD hS d_Checks_areArguments_189
  have h := if_f c45 h
  refine lv_aload_n hx hb d_Checks_areArguments_156 rfl (lv_at hl 2 rfl) ?_
  refine g_Checks_0 hx hb hts hown hK hP hwf hj0 (hts _ u_610) d_Checks_areArguments_157 ?_
  refine me_opt (j := j2) (kp_r hkb hkp e3) ?_
  refine g_Code_9 hx hb hts hown hK hP hwf hj2 (hts _ u_250) d_Checks_areArguments_160 ?_
  refine lv_iconst (v := 2) hx hb d_Checks_areArguments_163 (by decide) ?_
  refine lv_icmp_ne (tgt := 184) hx hb d_Checks_areArguments_164 (by decide) (fun c46 => ?_) (fun c46 => ?_)
  · have h := if_f c46 h
    refine lv_iconst (v := 1) hx hb d_Checks_areArguments_184 (by decide) ?_
    refine lv_goto (tgt := 189) hx hb d_Checks_areArguments_185 (by decide) ?_
    exact me_retz (me_kp M0) h (by decide) hx hb hr hlocks hwf hkp hP hK hD hS d_Checks_areArguments_189
  have h := if_t c46 h
  refine lv_aload_n hx hb d_Checks_areArguments_167 rfl (lv_at hl 2 rfl) ?_
  refine lv_iconst (v := 3) hx hb d_Checks_areArguments_168 (by decide) ?_
  refine lv_aload_n hx hb d_Checks_areArguments_169 rfl (lv_at hl 3 rfl) ?_
  refine lv_iconst (v := 3) hx hb d_Checks_areArguments_170 (by decide) ?_
  obtain ⟨g47, h⟩ := gd_ob h
  refine me_lald hx hb hK hP hwf hj1 (me_in (i := (3 : Int32)) (k := 3) (by decide) (by decide) (kp_c hkb.z hkp.z g47)) d_Checks_areArguments_171 ?_
  refine fg_topl (y := mL M43 16 j1 3) (congrArg _ (by decide)) ?_
  refine lv_aload hx hb d_Checks_areArguments_172 (lv_at hl 0 rfl) ?_
  refine g_Store_2 hx hb hts hown hK hP hwf hj40 (hts _ u_908) d_Checks_areArguments_174 ?_
  refine lv_i2l (v := (mI M43 12 j40 2).toInt64) hx hb d_Checks_areArguments_177 rfl ?_
  obtain ⟨M48, r49, eM48, h⟩ := b2_ob h
  refine me_theni0 (M1 := M48) (me_runV (C := "FilterGuard$Checks") (As := [.int 3, .long (mL M43 16 j1 3), .long ((mI M43 12 j40 2).toInt64)]) (rest := []) ⟨hx, hb, hml, hown, hts⟩ (c_Checks_canRead l D ad ca N M43 M48 r49 j0 (3 : Int32) (mL M43 16 j1 3) ((mI M43 12 j40 2).toInt64) eM48 hwf hj0 _) rfl (by show fg_nm y_Checks_canRead 3; decide +kernel) u_1623 u_1625 u_69 u_191 u_1626 ⟨Nat.le_of_ble_eq_true rfl, Nat.le_of_ble_eq_true rfl⟩ hX hz hK hP hD hwf hS hA hj0 (by decide) rfl rfl rfl hl.1 (Nat.le_of_ble_eq_true rfl) d_Checks_areArguments_178 ⟨Nat.le_of_ble_eq_true rfl, Nat.le_of_ble_eq_true rfl⟩) hP hD hK hS hA rfl rfl (fun H locs hw hP hD hS => ?_)
  obtain ⟨hwf, hk9, zr49⟩ := hw
  have hkp := hkp.tr hk9
  refine lv_if_eq (tgt := 188) hx hb d_Checks_areArguments_181 (by decide) (fun c50 => ?_) (fun c50 => ?_)
  · have h := if_t c50 h
    refine lv_iconst (v := 0) hx hb d_Checks_areArguments_188 (by decide) ?_
    exact me_retz (me_kp M0) h (by decide) hx hb hr hlocks hwf hkp hP hK hD hS d_Checks_areArguments_189
  have h := if_f c50 h
  refine lv_iconst (v := 1) hx hb d_Checks_areArguments_184 (by decide) ?_
  refine lv_goto (tgt := 189) hx hb d_Checks_areArguments_185 (by decide) ?_
  exact me_retz (me_kp M0) h (by decide) hx hb hr hlocks hwf hkp hP hK hD hS d_Checks_areArguments_189
