theorem d_M_same_200 : decode prog_14_method_34_code 200 = .ok (.lastore, 1) := by decide +kernel
theorem d_M_same_201 : decode prog_14_method_34_code 201 = .ok (.aload_n 0, 1) := by decide +kernel
theorem d_M_same_202 : decode prog_14_method_34_code 202 = .ok (.getfield 119, 3) := by decide +kernel
theorem d_M_same_205 : decode prog_14_method_34_code 205 = .ok (.sipush 30075, 3) := by decide +kernel
theorem d_M_same_208 : decode prog_14_method_34_code 208 = .ok (.aload_n 0, 1) := by decide +kernel
theorem d_M_same_209 : decode prog_14_method_34_code 209 = .ok (.getfield 119, 3) := by decide +kernel
theorem d_M_same_212 : decode prog_14_method_34_code 212 = .ok (.sipush 30075, 3) := by decide +kernel
theorem d_M_same_215 : decode prog_14_method_34_code 215 = .ok (.laload, 1) := by decide +kernel
theorem d_M_same_216 : decode prog_14_method_34_code 216 = .ok (.aload_n 0, 1) := by decide +kernel
theorem d_M_same_217 : decode prog_14_method_34_code 217 = .ok (.getfield 119, 3) := by decide +kernel
theorem d_M_same_220 : decode prog_14_method_34_code 220 = .ok (.sipush 30076, 3) := by decide +kernel
theorem d_M_same_223 : decode prog_14_method_34_code 223 = .ok (.laload, 1) := by decide +kernel
theorem d_M_same_224 : decode prog_14_method_34_code 224 = .ok (.lcmp, 1) := by decide +kernel
theorem d_M_same_225 : decode prog_14_method_34_code 225 = .ok (.ifCond .ge 14, 3) := by decide +kernel
theorem d_M_same_239 : decode prog_14_method_34_code 239 = .ok (.aload_n 0, 1) := by decide +kernel
theorem d_M_same_240 : decode prog_14_method_34_code 240 = .ok (.getfield 119, 3) := by decide +kernel
theorem d_M_same_243 : decode prog_14_method_34_code 243 = .ok (.sipush 30076, 3) := by decide +kernel
theorem d_M_same_246 : decode prog_14_method_34_code 246 = .ok (.laload, 1) := by decide +kernel
theorem d_M_same_247 : decode prog_14_method_34_code 247 = .ok (.lastore, 1) := by decide +kernel
theorem d_M_same_248 : decode prog_14_method_34_code 248 = .ok (.aload_n 0, 1) := by decide +kernel
theorem d_M_same_249 : decode prog_14_method_34_code 249 = .ok (.sipush 30075, 3) := by decide +kernel
theorem d_M_same_252 : decode prog_14_method_34_code 252 = .ok (.sipush 30076, 3) := by decide +kernel
theorem d_M_same_255 : decode prog_14_method_34_code 255 = .ok (.invokevirtual 208, 3) := by decide +kernel
theorem d_M_same_258 : decode prog_14_method_34_code 258 = .ok (.iconst 1, 1) := by decide +kernel
theorem d_M_same_259 : decode prog_14_method_34_code 259 = .ok (.ireturn, 1) := by decide +kernel
theorem d_M_same_228 : decode prog_14_method_34_code 228 = .ok (.aload_n 0, 1) := by decide +kernel
theorem d_M_same_229 : decode prog_14_method_34_code 229 = .ok (.getfield 119, 3) := by decide +kernel
theorem d_M_same_232 : decode prog_14_method_34_code 232 = .ok (.sipush 30075, 3) := by decide +kernel
theorem d_M_same_235 : decode prog_14_method_34_code 235 = .ok (.laload, 1) := by decide +kernel
theorem d_M_same_236 : decode prog_14_method_34_code 236 = .ok (.goto 11, 3) := by decide +kernel
theorem d_M_same_0 : decode prog_14_method_34_code 0 = .ok (.aload_n 0, 1) := by decide +kernel
theorem d_M_same_1 : decode prog_14_method_34_code 1 = .ok (.getfield 104, 3) := by decide +kernel
theorem d_M_same_4 : decode prog_14_method_34_code 4 = .ok (.sipush 30075, 3) := by decide +kernel
theorem d_M_same_7 : decode prog_14_method_34_code 7 = .ok (.laload, 1) := by decide +kernel
theorem d_M_same_8 : decode prog_14_method_34_code 8 = .ok (.aload_n 0, 1) := by decide +kernel
theorem d_M_same_9 : decode prog_14_method_34_code 9 = .ok (.getfield 104, 3) := by decide +kernel
theorem d_M_same_12 : decode prog_14_method_34_code 12 = .ok (.sipush 30076, 3) := by decide +kernel
theorem d_M_same_15 : decode prog_14_method_34_code 15 = .ok (.laload, 1) := by decide +kernel
theorem d_M_same_16 : decode prog_14_method_34_code 16 = .ok (.lxor, 1) := by decide +kernel
theorem d_M_same_17 : decode prog_14_method_34_code 17 = .ok (.aload_n 0, 1) := by decide +kernel
theorem d_M_same_18 : decode prog_14_method_34_code 18 = .ok (.getfield 107, 3) := by decide +kernel
theorem d_M_same_21 : decode prog_14_method_34_code 21 = .ok (.sipush 30075, 3) := by decide +kernel
theorem d_M_same_24 : decode prog_14_method_34_code 24 = .ok (.laload, 1) := by decide +kernel
theorem d_M_same_25 : decode prog_14_method_34_code 25 = .ok (.ldc2_w 162, 3) := by decide +kernel
theorem d_M_same_28 : decode prog_14_method_34_code 28 = .ok (.lxor, 1) := by decide +kernel
theorem d_M_same_29 : decode prog_14_method_34_code 29 = .ok (.land, 1) := by decide +kernel
theorem d_M_same_30 : decode prog_14_method_34_code 30 = .ok (.aload_n 0, 1) := by decide +kernel
theorem d_M_same_31 : decode prog_14_method_34_code 31 = .ok (.getfield 107, 3) := by decide +kernel
theorem d_M_same_34 : decode prog_14_method_34_code 34 = .ok (.sipush 30076, 3) := by decide +kernel
theorem d_M_same_37 : decode prog_14_method_34_code 37 = .ok (.laload, 1) := by decide +kernel
theorem d_M_same_38 : decode prog_14_method_34_code 38 = .ok (.ldc2_w 162, 3) := by decide +kernel
theorem d_M_same_41 : decode prog_14_method_34_code 41 = .ok (.lxor, 1) := by decide +kernel
theorem d_M_same_42 : decode prog_14_method_34_code 42 = .ok (.land, 1) := by decide +kernel
theorem d_M_same_43 : decode prog_14_method_34_code 43 = .ok (.lconst 0, 1) := by decide +kernel
theorem d_M_same_44 : decode prog_14_method_34_code 44 = .ok (.lcmp, 1) := by decide +kernel
theorem d_M_same_45 : decode prog_14_method_34_code 45 = .ok (.ifCond .eq 5, 3) := by decide +kernel
theorem d_M_same_50 : decode prog_14_method_34_code 50 = .ok (.aload_n 0, 1) := by decide +kernel
theorem d_M_same_51 : decode prog_14_method_34_code 51 = .ok (.getfield 104, 3) := by decide +kernel
theorem d_M_same_54 : decode prog_14_method_34_code 54 = .ok (.sipush 30075, 3) := by decide +kernel
theorem d_M_same_57 : decode prog_14_method_34_code 57 = .ok (.aload_n 0, 1) := by decide +kernel
theorem d_M_same_58 : decode prog_14_method_34_code 58 = .ok (.getfield 104, 3) := by decide +kernel
theorem d_M_same_61 : decode prog_14_method_34_code 61 = .ok (.sipush 30075, 3) := by decide +kernel
theorem d_M_same_64 : decode prog_14_method_34_code 64 = .ok (.laload, 1) := by decide +kernel
theorem d_M_same_65 : decode prog_14_method_34_code 65 = .ok (.aload_n 0, 1) := by decide +kernel
theorem d_M_same_66 : decode prog_14_method_34_code 66 = .ok (.getfield 104, 3) := by decide +kernel
theorem d_M_same_69 : decode prog_14_method_34_code 69 = .ok (.sipush 30076, 3) := by decide +kernel
theorem d_M_same_72 : decode prog_14_method_34_code 72 = .ok (.laload, 1) := by decide +kernel
theorem d_M_same_73 : decode prog_14_method_34_code 73 = .ok (.lor, 1) := by decide +kernel
theorem d_M_same_74 : decode prog_14_method_34_code 74 = .ok (.lastore, 1) := by decide +kernel
theorem d_M_same_75 : decode prog_14_method_34_code 75 = .ok (.aload_n 0, 1) := by decide +kernel
theorem d_M_same_76 : decode prog_14_method_34_code 76 = .ok (.getfield 107, 3) := by decide +kernel
theorem d_M_same_79 : decode prog_14_method_34_code 79 = .ok (.sipush 30075, 3) := by decide +kernel
theorem d_M_same_82 : decode prog_14_method_34_code 82 = .ok (.aload_n 0, 1) := by decide +kernel
theorem d_M_same_83 : decode prog_14_method_34_code 83 = .ok (.getfield 107, 3) := by decide +kernel
theorem d_M_same_86 : decode prog_14_method_34_code 86 = .ok (.sipush 30075, 3) := by decide +kernel
theorem d_M_same_89 : decode prog_14_method_34_code 89 = .ok (.laload, 1) := by decide +kernel
theorem d_M_same_90 : decode prog_14_method_34_code 90 = .ok (.aload_n 0, 1) := by decide +kernel
theorem d_M_same_91 : decode prog_14_method_34_code 91 = .ok (.getfield 107, 3) := by decide +kernel
theorem d_M_same_94 : decode prog_14_method_34_code 94 = .ok (.sipush 30076, 3) := by decide +kernel
theorem d_M_same_97 : decode prog_14_method_34_code 97 = .ok (.laload, 1) := by decide +kernel
theorem d_M_same_98 : decode prog_14_method_34_code 98 = .ok (.land, 1) := by decide +kernel
theorem d_M_same_99 : decode prog_14_method_34_code 99 = .ok (.lastore, 1) := by decide +kernel
theorem d_M_same_100 : decode prog_14_method_34_code 100 = .ok (.aload_n 0, 1) := by decide +kernel
theorem d_M_same_101 : decode prog_14_method_34_code 101 = .ok (.getfield 110, 3) := by decide +kernel
theorem d_M_same_104 : decode prog_14_method_34_code 104 = .ok (.sipush 30075, 3) := by decide +kernel
theorem d_M_same_107 : decode prog_14_method_34_code 107 = .ok (.aload_n 0, 1) := by decide +kernel
theorem d_M_same_108 : decode prog_14_method_34_code 108 = .ok (.getfield 110, 3) := by decide +kernel
theorem d_M_same_111 : decode prog_14_method_34_code 111 = .ok (.sipush 30075, 3) := by decide +kernel
theorem d_M_same_114 : decode prog_14_method_34_code 114 = .ok (.laload, 1) := by decide +kernel
theorem d_M_same_115 : decode prog_14_method_34_code 115 = .ok (.aload_n 0, 1) := by decide +kernel
theorem d_M_same_116 : decode prog_14_method_34_code 116 = .ok (.getfield 110, 3) := by decide +kernel
theorem d_M_same_119 : decode prog_14_method_34_code 119 = .ok (.sipush 30076, 3) := by decide +kernel
theorem d_M_same_122 : decode prog_14_method_34_code 122 = .ok (.laload, 1) := by decide +kernel
theorem d_M_same_123 : decode prog_14_method_34_code 123 = .ok (.invokestatic 166, 3) := by decide +kernel
theorem d_M_same_126 : decode prog_14_method_34_code 126 = .ok (.lastore, 1) := by decide +kernel
theorem d_M_same_127 : decode prog_14_method_34_code 127 = .ok (.aload_n 0, 1) := by decide +kernel
theorem d_M_same_128 : decode prog_14_method_34_code 128 = .ok (.getfield 113, 3) := by decide +kernel
theorem d_M_same_131 : decode prog_14_method_34_code 131 = .ok (.sipush 30075, 3) := by decide +kernel
theorem d_M_same_134 : decode prog_14_method_34_code 134 = .ok (.aload_n 0, 1) := by decide +kernel
theorem d_M_same_135 : decode prog_14_method_34_code 135 = .ok (.getfield 113, 3) := by decide +kernel
theorem d_M_same_138 : decode prog_14_method_34_code 138 = .ok (.sipush 30075, 3) := by decide +kernel
theorem d_M_same_141 : decode prog_14_method_34_code 141 = .ok (.laload, 1) := by decide +kernel
theorem d_M_same_142 : decode prog_14_method_34_code 142 = .ok (.aload_n 0, 1) := by decide +kernel
theorem d_M_same_143 : decode prog_14_method_34_code 143 = .ok (.getfield 113, 3) := by decide +kernel
theorem d_M_same_146 : decode prog_14_method_34_code 146 = .ok (.sipush 30076, 3) := by decide +kernel
theorem d_M_same_149 : decode prog_14_method_34_code 149 = .ok (.laload, 1) := by decide +kernel
theorem d_M_same_150 : decode prog_14_method_34_code 150 = .ok (.invokestatic 170, 3) := by decide +kernel
theorem d_M_same_153 : decode prog_14_method_34_code 153 = .ok (.lastore, 1) := by decide +kernel
theorem d_M_same_154 : decode prog_14_method_34_code 154 = .ok (.aload_n 0, 1) := by decide +kernel
theorem d_M_same_155 : decode prog_14_method_34_code 155 = .ok (.getfield 116, 3) := by decide +kernel
theorem d_M_same_158 : decode prog_14_method_34_code 158 = .ok (.sipush 30075, 3) := by decide +kernel
theorem d_M_same_161 : decode prog_14_method_34_code 161 = .ok (.aload_n 0, 1) := by decide +kernel
theorem d_M_same_162 : decode prog_14_method_34_code 162 = .ok (.getfield 116, 3) := by decide +kernel
theorem d_M_same_165 : decode prog_14_method_34_code 165 = .ok (.sipush 30075, 3) := by decide +kernel
theorem d_M_same_168 : decode prog_14_method_34_code 168 = .ok (.laload, 1) := by decide +kernel
theorem d_M_same_169 : decode prog_14_method_34_code 169 = .ok (.aload_n 0, 1) := by decide +kernel
theorem d_M_same_170 : decode prog_14_method_34_code 170 = .ok (.getfield 116, 3) := by decide +kernel
theorem d_M_same_173 : decode prog_14_method_34_code 173 = .ok (.sipush 30076, 3) := by decide +kernel
theorem d_M_same_176 : decode prog_14_method_34_code 176 = .ok (.laload, 1) := by decide +kernel
theorem d_M_same_177 : decode prog_14_method_34_code 177 = .ok (.lcmp, 1) := by decide +kernel
theorem d_M_same_178 : decode prog_14_method_34_code 178 = .ok (.ifCond .le 14, 3) := by decide +kernel
theorem d_M_same_192 : decode prog_14_method_34_code 192 = .ok (.aload_n 0, 1) := by decide +kernel
theorem d_M_same_193 : decode prog_14_method_34_code 193 = .ok (.getfield 116, 3) := by decide +kernel
theorem d_M_same_196 : decode prog_14_method_34_code 196 = .ok (.sipush 30076, 3) := by decide +kernel
theorem d_M_same_199 : decode prog_14_method_34_code 199 = .ok (.laload, 1) := by decide +kernel
theorem d_M_same_181 : decode prog_14_method_34_code 181 = .ok (.aload_n 0, 1) := by decide +kernel
theorem d_M_same_182 : decode prog_14_method_34_code 182 = .ok (.getfield 116, 3) := by decide +kernel
theorem d_M_same_185 : decode prog_14_method_34_code 185 = .ok (.sipush 30075, 3) := by decide +kernel
theorem d_M_same_188 : decode prog_14_method_34_code 188 = .ok (.laload, 1) := by decide +kernel
theorem d_M_same_189 : decode prog_14_method_34_code 189 = .ok (.goto 11, 3) := by decide +kernel
theorem d_M_same_48 : decode prog_14_method_34_code 48 = .ok (.iconst 0, 1) := by decide +kernel
theorem d_M_same_49 : decode prog_14_method_34_code 49 = .ok (.ireturn, 1) := by decide +kernel
abbrev y_M_same : MethodName := ⟨"FilterGuardModel", "same", "()Z"⟩
def rm_M_same : Room := { frames := 3, cells := 0, slots := 0, locals := 66 }
abbrev q_M_same (D : va_G) (ad : Nat → Nat → Nat) (ca : Nat → ClassId) (N : Nat → Nat) (M0 MZ : me_M) (RZ : Int32) (A : Nat → Prop) : Array Value → Jvm.State → Outcome → Jvm.State → Prop := va_Qi (fun r (_ : Unit) => r = RZ ∧ me_wf N MZ ∧ me_kp M0 MZ ∧ (RZ = 1 ∨ RZ = 0)) (fg_B D A (fun _ => me_W ad ca MZ) (fun _ => [])) A
set_option maxHeartbeats 4000000 in
set_option maxRecDepth 100000 in
theorem c_M_same (l : Launch) (D : va_G) (ad : Nat → Nat → Nat) (ca : Nat → ClassId) (N : Nat → Nat) (M0 MZ : me_M) (RZ : Int32) (j0 : Nat) (h : f_M_same M0 j0 = (some (MZ, RZ))) (hwf : me_wf N M0) (hj0 : j0 < N 1) (sz : Nat) : Met l y_M_same (fg_w y_M_same prog_14_method_34_code 1 (some .boolean)) rm_M_same (va_Pc [.ref (ad 1 j0)] (fz_P D (me_T ca) (me_W ad ca M0) sz)) (q_M_same D ad ca N M0 MZ RZ (va_A (me_W ad ca M0) sz)) rm_M_same.cells rm_M_same.slots (va_A (me_W ad ca M0) sz) := by
  refine fz_enter (fun A => q_M_same D ad ca N M0 MZ RZ A) (by decide +kernel) (Nat.le_of_ble_eq_true rfl) ?_
  intro p e s m below meth c ls A hx hb hml hown hts hr hlocks hin hP hK hD hS hA hX hl hz
  have hl : lv_has ls 1 [(0, .ref (ad 1 j0))] := hl
  unfold f_M_same at h
  have hkp : me_kp M0 M0 := me_kp.rf
  have hkb := hkp
  have b_200 : ∀ (M : me_M) (s0 : Int64) (s1 : Int32) (s2 : Nat) (H : Heap) (locs : List Loc) (ls : Array Slot), f_M_same_b200 j0 M s0 s1 s2 = (some (MZ, RZ)) → (s2 < N 16) → me_wf N M → me_kp M0 M → va_P D classes (me_W ad ca M) H → va_D A (me_W ad ca M) → va_S A s.heap H locs → lv_has ls 1 [(0, .ref (ad 1 j0))] → W p l e rm_M_same s m [.ref (ad 1 j0)].toArray below meth c H locs 0 0 (MQ below (q_M_same D ad ca N M0 MZ RZ A) [.ref (ad 1 j0)].toArray s rm_M_same.cells rm_M_same.slots A) (F0 m 200 ls [.long s0, .int s1, .ref (ad 16 s2)]) := by
    intro M s0 s1 s2 H locs ls h hs2 hwf hkp hP hD hS hl
    unfold f_M_same_b200 at h
    have hkb := hkp
    obtain ⟨g1, h⟩ := gd_ob h
    obtain ⟨M2, eM2, h⟩ := st_ob h
    refine me_last eM2 hx hb hK hP hD hwf hS hs2 g1 d_M_same_200 (fun H locs hP hD hwf hS => ?_)
    have hkp := kp_L eM2 hkp
    refine lv_aload_n hx hb d_M_same_201 rfl (lv_at hl 0 rfl) ?_
    refine g_M_57 hx hb hts hown hK hP hwf hj0 (hts _ u_1798) d_M_same_202 ?_
    obtain ⟨j3, e4, h⟩ := bd_ob h
    have hj3 : j3 < N 16 := (hwf.2.1 1 j0 57 _ (kp_r hkb hkp e4) (by decide) hj0)
    refine me_opt (j := j3) (kp_r hkb hkp e4) ?_
    refine lv_sipush (v := 30075) hx hb d_M_same_205 (by decide) ?_
    refine lv_aload_n hx hb d_M_same_208 rfl (lv_at hl 0 rfl) ?_
    refine g_M_57 hx hb hts hown hK hP hwf hj0 (hts _ u_1798) d_M_same_209 ?_
    refine me_opt (j := j3) (kp_r hkb hkp e4) ?_
    refine lv_sipush (v := 30075) hx hb d_M_same_212 (by decide) ?_
    obtain ⟨g5, h⟩ := gd_ob h
    refine me_lald hx hb hK hP hwf hj3 (me_in (i := (30075 : Int32)) (k := 30075) (by decide) (by decide) (kp_c hkb.z hkp.z g5)) d_M_same_215 ?_
    refine fg_topl (y := mL M2 16 j3 30075) (congrArg _ (by decide)) ?_
    refine lv_aload_n hx hb d_M_same_216 rfl (lv_at hl 0 rfl) ?_
    refine g_M_57 hx hb hts hown hK hP hwf hj0 (hts _ u_1798) d_M_same_217 ?_
    refine me_opt (j := j3) (kp_r hkb hkp e4) ?_
    refine lv_sipush (v := 30076) hx hb d_M_same_220 (by decide) ?_
    obtain ⟨g6, h⟩ := gd_ob h
    refine me_lald hx hb hK hP hwf hj3 (me_in (i := (30076 : Int32)) (k := 30076) (by decide) (by decide) (kp_c hkb.z hkp.z g6)) d_M_same_223 ?_
    refine fg_topl (y := mL M2 16 j3 30076) (congrArg _ (by decide)) ?_
    refine W.lcmp hx hb d_M_same_224 ?_
    refine lv_if_ge (tgt := 239) hx hb d_M_same_225 (by decide) (fun c7 => ?_) (fun c7 => ?_)
    · have h := if_f (Int64.not_lt.mpr ((lg_cmp_ge _ _).mp c7)) h
      refine lv_aload_n hx hb d_M_same_239 rfl (lv_at hl 0 rfl) ?_
      refine g_M_57 hx hb hts hown hK hP hwf hj0 (hts _ u_1798) d_M_same_240 ?_
      refine me_opt (j := j3) (kp_r hkb hkp e4) ?_
      refine lv_sipush (v := 30076) hx hb d_M_same_243 (by decide) ?_
      refine me_lald hx hb hK hP hwf hj3 (me_in (i := (30076 : Int32)) (k := 30076) (by decide) (by decide) (kp_c hkb.z hkp.z g6)) d_M_same_246 ?_
      refine fg_topl (y := mL M2 16 j3 30076) (congrArg _ (by decide)) ?_
      obtain ⟨M8, eM8, h⟩ := st_ob h
      refine me_last (eM8.trans (by rw [show (30075 : Int32).toNatClampNeg = 30075 by decide])) hx hb hK hP hD hwf hS hj3 (me_in (i := (30075 : Int32)) (k := 30075) (by decide) (by decide) (kp_c hkb.z hkp.z g5)) d_M_same_247 (fun H locs hP hD hwf hS => ?_)
      have hkp := kp_L eM8 hkp
      refine lv_aload_n hx hb d_M_same_248 rfl (lv_at hl 0 rfl) ?_
      refine lv_sipush (v := 30075) hx hb d_M_same_249 (by decide) ?_
      refine lv_sipush (v := 30076) hx hb d_M_same_252 (by decide) ?_
      obtain ⟨M9, eM9, h⟩ := bd_ob h
      refine me_thenv0 (M1 := M9) (me_runV (C := "FilterGuardModel") (As := [.int 30075, .int 30076]) (rest := []) ⟨hx, hb, hml, hown, hts⟩ (c_M_copyNumber l D ad ca N M8 M9 j0 (30075 : Int32) (30076 : Int32) eM9 hwf hj0 _) rfl (by show fg_nm y_M_copyNumber 2; decide +kernel) u_2096 u_2098 u_103 u_192 u_2099 ⟨Nat.le_of_ble_eq_true rfl, Nat.le_of_ble_eq_true rfl⟩ hX hz hK hP hD hwf hS hA hj0 (by decide) rfl rfl rfl hl.1 (Nat.le_of_ble_eq_true rfl) d_M_same_255 ⟨Nat.le_of_ble_eq_true rfl, Nat.le_of_ble_eq_true rfl⟩) hP hD hK hS hA rfl rfl (fun H locs hw hP hD hS => ?_)
      obtain ⟨hwf, hk9⟩ := hw
      have hkp := hkp.tr hk9
      refine lv_iconst (v := 1) hx hb d_M_same_258 (by decide) ?_
      exact me_retz (me_kp M0) h (by decide) hx hb hr hlocks hwf hkp hP hK hD hS d_M_same_259
    have h := if_t (Int64.not_le.mp (fun z => c7 ((lg_cmp_ge _ _).mpr z))) h
    refine lv_aload_n hx hb d_M_same_228 rfl (lv_at hl 0 rfl) ?_
    refine g_M_57 hx hb hts hown hK hP hwf hj0 (hts _ u_1798) d_M_same_229 ?_
    refine me_opt (j := j3) (kp_r hkb hkp e4) ?_
    refine lv_sipush (v := 30075) hx hb d_M_same_232 (by decide) ?_
    refine me_lald hx hb hK hP hwf hj3 (me_in (i := (30075 : Int32)) (k := 30075) (by decide) (by decide) (kp_c hkb.z hkp.z g5)) d_M_same_235 ?_
    refine fg_topl (y := mL M2 16 j3 30075) (congrArg _ (by decide)) ?_
    refine lv_goto (tgt := 247) hx hb d_M_same_236 (by decide) ?_
    obtain ⟨M10, eM10, h⟩ := st_ob h
    refine me_last (eM10.trans (by rw [show (30075 : Int32).toNatClampNeg = 30075 by decide])) hx hb hK hP hD hwf hS hj3 (me_in (i := (30075 : Int32)) (k := 30075) (by decide) (by decide) (kp_c hkb.z hkp.z g5)) d_M_same_247 (fun H locs hP hD hwf hS => ?_)
    have hkp := kp_L eM10 hkp
    refine lv_aload_n hx hb d_M_same_248 rfl (lv_at hl 0 rfl) ?_
    refine lv_sipush (v := 30075) hx hb d_M_same_249 (by decide) ?_
    refine lv_sipush (v := 30076) hx hb d_M_same_252 (by decide) ?_
    obtain ⟨M11, eM11, h⟩ := bd_ob h
    refine me_thenv0 (M1 := M11) (me_runV (C := "FilterGuardModel") (As := [.int 30075, .int 30076]) (rest := []) ⟨hx, hb, hml, hown, hts⟩ (c_M_copyNumber l D ad ca N M10 M11 j0 (30075 : Int32) (30076 : Int32) eM11 hwf hj0 _) rfl (by show fg_nm y_M_copyNumber 2; decide +kernel) u_2096 u_2098 u_103 u_192 u_2099 ⟨Nat.le_of_ble_eq_true rfl, Nat.le_of_ble_eq_true rfl⟩ hX hz hK hP hD hwf hS hA hj0 (by decide) rfl rfl rfl hl.1 (Nat.le_of_ble_eq_true rfl) d_M_same_255 ⟨Nat.le_of_ble_eq_true rfl, Nat.le_of_ble_eq_true rfl⟩) hP hD hK hS hA rfl rfl (fun H locs hw hP hD hS => ?_)
    obtain ⟨hwf, hk9⟩ := hw
    have hkp := hkp.tr hk9
    refine lv_iconst (v := 1) hx hb d_M_same_258 (by decide) ?_
    exact me_retz (me_kp M0) h (by decide) hx hb hr hlocks hwf hkp hP hK hD hS d_M_same_259
  refine lv_aload_n hx hb d_M_same_0 rfl (lv_at hl 0 rfl) ?_
  refine g_M_52 hx hb hts hown hK hP hwf hj0 (hts _ u_1793) d_M_same_1 ?_
  obtain ⟨j12, e13, h⟩ := bd_ob h
  have hj12 : j12 < N 16 := (hwf.2.1 1 j0 52 _ e13 (by decide) hj0)
  refine me_opt (j := j12) e13 ?_
  refine lv_sipush (v := 30075) hx hb d_M_same_4 (by decide) ?_
  obtain ⟨g14, h⟩ := gd_ob h
  refine me_lald hx hb hK hP hwf hj12 (me_in (i := (30075 : Int32)) (k := 30075) (by decide) (by decide) g14) d_M_same_7 ?_
  refine fg_topl (y := mL M0 16 j12 30075) (congrArg _ (by decide)) ?_
  refine lv_aload_n hx hb d_M_same_8 rfl (lv_at hl 0 rfl) ?_
  refine g_M_52 hx hb hts hown hK hP hwf hj0 (hts _ u_1793) d_M_same_9 ?_
  refine me_opt (j := j12) e13 ?_
  refine lv_sipush (v := 30076) hx hb d_M_same_12 (by decide) ?_
  obtain ⟨g15, h⟩ := gd_ob h
  refine me_lald hx hb hK hP hwf hj12 (me_in (i := (30076 : Int32)) (k := 30076) (by decide) (by decide) g15) d_M_same_15 ?_
  refine fg_topl (y := mL M0 16 j12 30076) (congrArg _ (by decide)) ?_
  refine lv_lxor hx hb d_M_same_16 ?_
  refine lv_aload_n hx hb d_M_same_17 rfl (lv_at hl 0 rfl) ?_
  refine g_M_53 hx hb hts hown hK hP hwf hj0 (hts _ u_1794) d_M_same_18 ?_
  obtain ⟨j16, e17, h⟩ := bd_ob h
  have hj16 : j16 < N 16 := (hwf.2.1 1 j0 53 _ e17 (by decide) hj0)
  refine me_opt (j := j16) e17 ?_
  refine lv_sipush (v := 30075) hx hb d_M_same_21 (by decide) ?_
  obtain ⟨g18, h⟩ := gd_ob h
  refine me_lald hx hb hK hP hwf hj16 (me_in (i := (30075 : Int32)) (k := 30075) (by decide) (by decide) g18) d_M_same_24 ?_
  refine fg_topl (y := mL M0 16 j16 30075) (congrArg _ (by decide)) ?_
  refine lv_ldc2 hx hb hown (hts _ u_2071) d_M_same_25 ?_
  refine lv_lxor hx hb d_M_same_28 ?_
  refine lv_land hx hb d_M_same_29 ?_
  obtain ⟨v19, ev19, h⟩ := st_ob h
  refine fg_topl (y := v19) ev19.symm ?_
  refine lv_aload_n hx hb d_M_same_30 rfl (lv_at hl 0 rfl) ?_
  refine g_M_53 hx hb hts hown hK hP hwf hj0 (hts _ u_1794) d_M_same_31 ?_
  refine me_opt (j := j16) e17 ?_
  refine lv_sipush (v := 30076) hx hb d_M_same_34 (by decide) ?_
  obtain ⟨g20, h⟩ := gd_ob h
  refine me_lald hx hb hK hP hwf hj16 (me_in (i := (30076 : Int32)) (k := 30076) (by decide) (by decide) g20) d_M_same_37 ?_
  refine fg_topl (y := mL M0 16 j16 30076) (congrArg _ (by decide)) ?_
  refine lv_ldc2 hx hb hown (hts _ u_2071) d_M_same_38 ?_
  refine lv_lxor hx hb d_M_same_41 ?_
  refine lv_land hx hb d_M_same_42 ?_
  refine lv_lconst (v := 0) hx hb d_M_same_43 (by decide) ?_
  refine W.lcmp hx hb d_M_same_44 ?_
  refine lv_if_eq (tgt := 50) hx hb d_M_same_45 (by decide) (fun c21 => ?_) (fun c21 => ?_)
  · have h := if_t ((lg_cmp_eq _ _).mp c21) h
    refine lv_aload_n hx hb d_M_same_50 rfl (lv_at hl 0 rfl) ?_
    refine g_M_52 hx hb hts hown hK hP hwf hj0 (hts _ u_1793) d_M_same_51 ?_
    refine me_opt (j := j12) e13 ?_
    refine lv_sipush (v := 30075) hx hb d_M_same_54 (by decide) ?_
    refine lv_aload_n hx hb d_M_same_57 rfl (lv_at hl 0 rfl) ?_
    refine g_M_52 hx hb hts hown hK hP hwf hj0 (hts _ u_1793) d_M_same_58 ?_
    refine me_opt (j := j12) e13 ?_
    refine lv_sipush (v := 30075) hx hb d_M_same_61 (by decide) ?_
    refine me_lald hx hb hK hP hwf hj12 (me_in (i := (30075 : Int32)) (k := 30075) (by decide) (by decide) g14) d_M_same_64 ?_
    refine fg_topl (y := mL M0 16 j12 30075) (congrArg _ (by decide)) ?_
    refine lv_aload_n hx hb d_M_same_65 rfl (lv_at hl 0 rfl) ?_
    refine g_M_52 hx hb hts hown hK hP hwf hj0 (hts _ u_1793) d_M_same_66 ?_
    refine me_opt (j := j12) e13 ?_
    refine lv_sipush (v := 30076) hx hb d_M_same_69 (by decide) ?_
    refine me_lald hx hb hK hP hwf hj12 (me_in (i := (30076 : Int32)) (k := 30076) (by decide) (by decide) g15) d_M_same_72 ?_
    refine fg_topl (y := mL M0 16 j12 30076) (congrArg _ (by decide)) ?_
    refine lv_lor hx hb d_M_same_73 ?_
    obtain ⟨M22, eM22, h⟩ := st_ob h
    refine me_last (eM22.trans (by rw [show (30075 : Int32).toNatClampNeg = 30075 by decide])) hx hb hK hP hD hwf hS hj12 (me_in (i := (30075 : Int32)) (k := 30075) (by decide) (by decide) g14) d_M_same_74 (fun H locs hP hD hwf hS => ?_)
    have hkp := kp_L eM22 hkp
    refine lv_aload_n hx hb d_M_same_75 rfl (lv_at hl 0 rfl) ?_
    refine g_M_53 hx hb hts hown hK hP hwf hj0 (hts _ u_1794) d_M_same_76 ?_
    refine me_opt (j := j16) (kp_r hkb hkp e17) ?_
    refine lv_sipush (v := 30075) hx hb d_M_same_79 (by decide) ?_
    refine lv_aload_n hx hb d_M_same_82 rfl (lv_at hl 0 rfl) ?_
    refine g_M_53 hx hb hts hown hK hP hwf hj0 (hts _ u_1794) d_M_same_83 ?_
    refine me_opt (j := j16) (kp_r hkb hkp e17) ?_
    refine lv_sipush (v := 30075) hx hb d_M_same_86 (by decide) ?_
    refine me_lald hx hb hK hP hwf hj16 (me_in (i := (30075 : Int32)) (k := 30075) (by decide) (by decide) (kp_c hkb.z hkp.z g18)) d_M_same_89 ?_
    refine fg_topl (y := mL M22 16 j16 30075) (congrArg _ (by decide)) ?_
    refine lv_aload_n hx hb d_M_same_90 rfl (lv_at hl 0 rfl) ?_
    refine g_M_53 hx hb hts hown hK hP hwf hj0 (hts _ u_1794) d_M_same_91 ?_
    refine me_opt (j := j16) (kp_r hkb hkp e17) ?_
    refine lv_sipush (v := 30076) hx hb d_M_same_94 (by decide) ?_
    refine me_lald hx hb hK hP hwf hj16 (me_in (i := (30076 : Int32)) (k := 30076) (by decide) (by decide) (kp_c hkb.z hkp.z g20)) d_M_same_97 ?_
    refine fg_topl (y := mL M22 16 j16 30076) (congrArg _ (by decide)) ?_
    refine lv_land hx hb d_M_same_98 ?_
    obtain ⟨M23, eM23, h⟩ := st_ob h
    refine me_last (eM23.trans (by rw [show (30075 : Int32).toNatClampNeg = 30075 by decide])) hx hb hK hP hD hwf hS hj16 (me_in (i := (30075 : Int32)) (k := 30075) (by decide) (by decide) (kp_c hkb.z hkp.z g18)) d_M_same_99 (fun H locs hP hD hwf hS => ?_)
    have hkp := kp_L eM23 hkp
    refine lv_aload_n hx hb d_M_same_100 rfl (lv_at hl 0 rfl) ?_
    refine g_M_54 hx hb hts hown hK hP hwf hj0 (hts _ u_1795) d_M_same_101 ?_
    obtain ⟨j24, e25, h⟩ := bd_ob h
    have hj24 : j24 < N 16 := (hwf.2.1 1 j0 54 _ (kp_r hkb hkp e25) (by decide) hj0)
    refine me_opt (j := j24) (kp_r hkb hkp e25) ?_
    refine lv_sipush (v := 30075) hx hb d_M_same_104 (by decide) ?_
    refine lv_aload_n hx hb d_M_same_107 rfl (lv_at hl 0 rfl) ?_
    refine g_M_54 hx hb hts hown hK hP hwf hj0 (hts _ u_1795) d_M_same_108 ?_
    refine me_opt (j := j24) (kp_r hkb hkp e25) ?_
    refine lv_sipush (v := 30075) hx hb d_M_same_111 (by decide) ?_
    obtain ⟨g26, h⟩ := gd_ob h
    refine me_lald hx hb hK hP hwf hj24 (me_in (i := (30075 : Int32)) (k := 30075) (by decide) (by decide) (kp_c hkb.z hkp.z g26)) d_M_same_114 ?_
    refine fg_topl (y := mL M23 16 j24 30075) (congrArg _ (by decide)) ?_
    refine lv_aload_n hx hb d_M_same_115 rfl (lv_at hl 0 rfl) ?_
    refine g_M_54 hx hb hts hown hK hP hwf hj0 (hts _ u_1795) d_M_same_116 ?_
    refine me_opt (j := j24) (kp_r hkb hkp e25) ?_
    refine lv_sipush (v := 30076) hx hb d_M_same_119 (by decide) ?_
    obtain ⟨g27, h⟩ := gd_ob h
    refine me_lald hx hb hK hP hwf hj24 (me_in (i := (30076 : Int32)) (k := 30076) (by decide) (by decide) (kp_c hkb.z hkp.z g27)) d_M_same_122 ?_
    refine fg_topl (y := mL M23 16 j24 30076) (congrArg _ (by decide)) ?_
    obtain ⟨r28, er28, h⟩ := bd_ob h
    refine me_panl' (r0 := r28) (fg_runS (wc := []) (tc := []) (A2 := A) (As := [.long (mL M23 16 j24 30075), .long (mL M23 16 j24 30076)]) (rest := [.int 30075, .ref (ad 16 j24)]) ⟨hx, hb, hml, hown, hts⟩ (c_M_greater l D r28 (mL M23 16 j24 30075) (mL M23 16 j24 30076) er28 _) (by show fg_nm y_M_greater 2; decide +kernel) u_2151 u_2152 u_192 u_2153 ⟨Nat.le_of_ble_eq_true rfl, Nat.le_of_ble_eq_true rfl⟩ hX me_P0 (hK.sub (tys' := []) [] rfl) me_D0 rfl hl.1 (Nat.le_of_ble_eq_true rfl) d_M_same_123 ⟨Nat.le_of_ble_eq_true rfl, Nat.le_of_ble_eq_true rfl⟩) hP hD hK hS hA rfl rfl (fun H locs hw hP hD hS => ?_)
    obtain ⟨M29, eM29, h⟩ := st_ob h
    refine me_last (eM29.trans (by rw [show (30075 : Int32).toNatClampNeg = 30075 by decide])) hx hb hK hP hD hwf hS hj24 (me_in (i := (30075 : Int32)) (k := 30075) (by decide) (by decide) (kp_c hkb.z hkp.z g26)) d_M_same_126 (fun H locs hP hD hwf hS => ?_)
    have hkp := kp_L eM29 hkp
    refine lv_aload_n hx hb d_M_same_127 rfl (lv_at hl 0 rfl) ?_
    refine g_M_55 hx hb hts hown hK hP hwf hj0 (hts _ u_1796) d_M_same_128 ?_
    obtain ⟨j30, e31, h⟩ := bd_ob h
    have hj30 : j30 < N 16 := (hwf.2.1 1 j0 55 _ (kp_r hkb hkp e31) (by decide) hj0)
    refine me_opt (j := j30) (kp_r hkb hkp e31) ?_
    refine lv_sipush (v := 30075) hx hb d_M_same_131 (by decide) ?_
    refine lv_aload_n hx hb d_M_same_134 rfl (lv_at hl 0 rfl) ?_
    refine g_M_55 hx hb hts hown hK hP hwf hj0 (hts _ u_1796) d_M_same_135 ?_
    refine me_opt (j := j30) (kp_r hkb hkp e31) ?_
    refine lv_sipush (v := 30075) hx hb d_M_same_138 (by decide) ?_
    obtain ⟨g32, h⟩ := gd_ob h
    refine me_lald hx hb hK hP hwf hj30 (me_in (i := (30075 : Int32)) (k := 30075) (by decide) (by decide) (kp_c hkb.z hkp.z g32)) d_M_same_141 ?_
    refine fg_topl (y := mL M29 16 j30 30075) (congrArg _ (by decide)) ?_
    refine lv_aload_n hx hb d_M_same_142 rfl (lv_at hl 0 rfl) ?_
    refine g_M_55 hx hb hts hown hK hP hwf hj0 (hts _ u_1796) d_M_same_143 ?_
    refine me_opt (j := j30) (kp_r hkb hkp e31) ?_
    refine lv_sipush (v := 30076) hx hb d_M_same_146 (by decide) ?_
    obtain ⟨g33, h⟩ := gd_ob h
    refine me_lald hx hb hK hP hwf hj30 (me_in (i := (30076 : Int32)) (k := 30076) (by decide) (by decide) (kp_c hkb.z hkp.z g33)) d_M_same_149 ?_
    refine fg_topl (y := mL M29 16 j30 30076) (congrArg _ (by decide)) ?_
    obtain ⟨r34, er34, h⟩ := bd_ob h
    refine me_panl' (r0 := r34) (fg_runS (wc := []) (tc := []) (A2 := A) (As := [.long (mL M29 16 j30 30075), .long (mL M29 16 j30 30076)]) (rest := [.int 30075, .ref (ad 16 j30)]) ⟨hx, hb, hml, hown, hts⟩ (c_M_lesser l D r34 (mL M29 16 j30 30075) (mL M29 16 j30 30076) er34 _) (by show fg_nm y_M_lesser 2; decide +kernel) u_2154 u_2155 u_192 u_2156 ⟨Nat.le_of_ble_eq_true rfl, Nat.le_of_ble_eq_true rfl⟩ hX me_P0 (hK.sub (tys' := []) [] rfl) me_D0 rfl hl.1 (Nat.le_of_ble_eq_true rfl) d_M_same_150 ⟨Nat.le_of_ble_eq_true rfl, Nat.le_of_ble_eq_true rfl⟩) hP hD hK hS hA rfl rfl (fun H locs hw hP hD hS => ?_)
    obtain ⟨M35, eM35, h⟩ := st_ob h
    refine me_last (eM35.trans (by rw [show (30075 : Int32).toNatClampNeg = 30075 by decide])) hx hb hK hP hD hwf hS hj30 (me_in (i := (30075 : Int32)) (k := 30075) (by decide) (by decide) (kp_c hkb.z hkp.z g32)) d_M_same_153 (fun H locs hP hD hwf hS => ?_)
    have hkp := kp_L eM35 hkp
    refine lv_aload_n hx hb d_M_same_154 rfl (lv_at hl 0 rfl) ?_
    refine g_M_56 hx hb hts hown hK hP hwf hj0 (hts _ u_1797) d_M_same_155 ?_
    obtain ⟨j36, e37, h⟩ := bd_ob h
    have hj36 : j36 < N 16 := (hwf.2.1 1 j0 56 _ (kp_r hkb hkp e37) (by decide) hj0)
    refine me_opt (j := j36) (kp_r hkb hkp e37) ?_
    refine lv_sipush (v := 30075) hx hb d_M_same_158 (by decide) ?_
    refine lv_aload_n hx hb d_M_same_161 rfl (lv_at hl 0 rfl) ?_
    refine g_M_56 hx hb hts hown hK hP hwf hj0 (hts _ u_1797) d_M_same_162 ?_
    refine me_opt (j := j36) (kp_r hkb hkp e37) ?_
    refine lv_sipush (v := 30075) hx hb d_M_same_165 (by decide) ?_
    obtain ⟨g38, h⟩ := gd_ob h
    refine me_lald hx hb hK hP hwf hj36 (me_in (i := (30075 : Int32)) (k := 30075) (by decide) (by decide) (kp_c hkb.z hkp.z g38)) d_M_same_168 ?_
    refine fg_topl (y := mL M35 16 j36 30075) (congrArg _ (by decide)) ?_
    refine lv_aload_n hx hb d_M_same_169 rfl (lv_at hl 0 rfl) ?_
    refine g_M_56 hx hb hts hown hK hP hwf hj0 (hts _ u_1797) d_M_same_170 ?_
    refine me_opt (j := j36) (kp_r hkb hkp e37) ?_
    refine lv_sipush (v := 30076) hx hb d_M_same_173 (by decide) ?_
    obtain ⟨g39, h⟩ := gd_ob h
    refine me_lald hx hb hK hP hwf hj36 (me_in (i := (30076 : Int32)) (k := 30076) (by decide) (by decide) (kp_c hkb.z hkp.z g39)) d_M_same_176 ?_
    refine fg_topl (y := mL M35 16 j36 30076) (congrArg _ (by decide)) ?_
    refine W.lcmp hx hb d_M_same_177 ?_
    refine lv_if_le (tgt := 192) hx hb d_M_same_178 (by decide) (fun c40 => ?_) (fun c40 => ?_)
    · have h := if_f (Int64.not_lt.mpr ((lg_cmp_le _ _).mp c40)) h
      refine lv_aload_n hx hb d_M_same_192 rfl (lv_at hl 0 rfl) ?_
      refine g_M_56 hx hb hts hown hK hP hwf hj0 (hts _ u_1797) d_M_same_193 ?_
      refine me_opt (j := j36) (kp_r hkb hkp e37) ?_
      refine lv_sipush (v := 30076) hx hb d_M_same_196 (by decide) ?_
      refine me_lald hx hb hK hP hwf hj36 (me_in (i := (30076 : Int32)) (k := 30076) (by decide) (by decide) (kp_c hkb.z hkp.z g39)) d_M_same_199 ?_
      refine fg_topl (y := mL M35 16 j36 30076) (congrArg _ (by decide)) ?_
      exact b_200 M35 (mL M35 16 j36 30076) (30075 : Int32) j36 _ _ _ h hj36 hwf hkp hP hD hS (lv_sub hl [0] rfl)
    have h := if_t (Int64.not_le.mp (fun z => c40 ((lg_cmp_le _ _).mpr z))) h
    refine lv_aload_n hx hb d_M_same_181 rfl (lv_at hl 0 rfl) ?_
    refine g_M_56 hx hb hts hown hK hP hwf hj0 (hts _ u_1797) d_M_same_182 ?_
    refine me_opt (j := j36) (kp_r hkb hkp e37) ?_
    refine lv_sipush (v := 30075) hx hb d_M_same_185 (by decide) ?_
    refine me_lald hx hb hK hP hwf hj36 (me_in (i := (30075 : Int32)) (k := 30075) (by decide) (by decide) (kp_c hkb.z hkp.z g38)) d_M_same_188 ?_
    refine fg_topl (y := mL M35 16 j36 30075) (congrArg _ (by decide)) ?_
    refine lv_goto (tgt := 200) hx hb d_M_same_189 (by decide) ?_
    exact b_200 M35 (mL M35 16 j36 30075) (30075 : Int32) j36 _ _ _ h hj36 hwf hkp hP hD hS (lv_sub hl [0] rfl)
  have h := if_f (fun z => c21 ((lg_cmp_eq _ _).mpr z)) h
  refine lv_iconst (v := 0) hx hb d_M_same_48 (by decide) ?_
  exact me_retz (me_kp M0) h (by decide) hx hb hr hlocks hwf hkp hP hK hD hS d_M_same_49
theorem d_M_without_101 : decode prog_14_method_35_code 101 = .ok (.lastore, 1) := by decide +kernel
theorem d_M_without_102 : decode prog_14_method_35_code 102 = .ok (.aload_n 0, 1) := by decide +kernel
theorem d_M_without_103 : decode prog_14_method_35_code 103 = .ok (.getfield 119, 3) := by decide +kernel
theorem d_M_without_106 : decode prog_14_method_35_code 106 = .ok (.iload_n 1, 1) := by decide +kernel
theorem d_M_without_107 : decode prog_14_method_35_code 107 = .ok (.aload_n 0, 1) := by decide +kernel
theorem d_M_without_108 : decode prog_14_method_35_code 108 = .ok (.getfield 119, 3) := by decide +kernel
theorem d_M_without_111 : decode prog_14_method_35_code 111 = .ok (.iload_n 1, 1) := by decide +kernel
theorem d_M_without_112 : decode prog_14_method_35_code 112 = .ok (.laload, 1) := by decide +kernel
theorem d_M_without_113 : decode prog_14_method_35_code 113 = .ok (.lload_n 2, 1) := by decide +kernel
theorem d_M_without_114 : decode prog_14_method_35_code 114 = .ok (.lcmp, 1) := by decide +kernel
theorem d_M_without_115 : decode prog_14_method_35_code 115 = .ok (.ifCond .ne 14, 3) := by decide +kernel
theorem d_M_without_129 : decode prog_14_method_35_code 129 = .ok (.aload_n 0, 1) := by decide +kernel
theorem d_M_without_130 : decode prog_14_method_35_code 130 = .ok (.getfield 119, 3) := by decide +kernel
theorem d_M_without_133 : decode prog_14_method_35_code 133 = .ok (.iload_n 1, 1) := by decide +kernel
theorem d_M_without_134 : decode prog_14_method_35_code 134 = .ok (.laload, 1) := by decide +kernel
theorem d_M_without_135 : decode prog_14_method_35_code 135 = .ok (.lastore, 1) := by decide +kernel
theorem d_M_without_136 : decode prog_14_method_35_code 136 = .ok (.return_, 1) := by decide +kernel
theorem d_M_without_118 : decode prog_14_method_35_code 118 = .ok (.aload_n 0, 1) := by decide +kernel
theorem d_M_without_119 : decode prog_14_method_35_code 119 = .ok (.getfield 119, 3) := by decide +kernel
theorem d_M_without_122 : decode prog_14_method_35_code 122 = .ok (.iload_n 1, 1) := by decide +kernel
theorem d_M_without_123 : decode prog_14_method_35_code 123 = .ok (.laload, 1) := by decide +kernel
theorem d_M_without_124 : decode prog_14_method_35_code 124 = .ok (.lconst 1, 1) := by decide +kernel
theorem d_M_without_125 : decode prog_14_method_35_code 125 = .ok (.lsub, 1) := by decide +kernel
theorem d_M_without_126 : decode prog_14_method_35_code 126 = .ok (.goto 9, 3) := by decide +kernel
theorem d_M_without_67 : decode prog_14_method_35_code 67 = .ok (.lastore, 1) := by decide +kernel
theorem d_M_without_68 : decode prog_14_method_35_code 68 = .ok (.aload_n 0, 1) := by decide +kernel
theorem d_M_without_69 : decode prog_14_method_35_code 69 = .ok (.getfield 116, 3) := by decide +kernel
theorem d_M_without_72 : decode prog_14_method_35_code 72 = .ok (.iload_n 1, 1) := by decide +kernel
theorem d_M_without_73 : decode prog_14_method_35_code 73 = .ok (.aload_n 0, 1) := by decide +kernel
theorem d_M_without_74 : decode prog_14_method_35_code 74 = .ok (.getfield 116, 3) := by decide +kernel
theorem d_M_without_77 : decode prog_14_method_35_code 77 = .ok (.iload_n 1, 1) := by decide +kernel
theorem d_M_without_78 : decode prog_14_method_35_code 78 = .ok (.laload, 1) := by decide +kernel
theorem d_M_without_79 : decode prog_14_method_35_code 79 = .ok (.lload_n 2, 1) := by decide +kernel
theorem d_M_without_80 : decode prog_14_method_35_code 80 = .ok (.lcmp, 1) := by decide +kernel
theorem d_M_without_81 : decode prog_14_method_35_code 81 = .ok (.ifCond .ne 14, 3) := by decide +kernel
theorem d_M_without_95 : decode prog_14_method_35_code 95 = .ok (.aload_n 0, 1) := by decide +kernel
theorem d_M_without_96 : decode prog_14_method_35_code 96 = .ok (.getfield 116, 3) := by decide +kernel
theorem d_M_without_99 : decode prog_14_method_35_code 99 = .ok (.iload_n 1, 1) := by decide +kernel
theorem d_M_without_100 : decode prog_14_method_35_code 100 = .ok (.laload, 1) := by decide +kernel
theorem d_M_without_84 : decode prog_14_method_35_code 84 = .ok (.aload_n 0, 1) := by decide +kernel
theorem d_M_without_85 : decode prog_14_method_35_code 85 = .ok (.getfield 116, 3) := by decide +kernel
theorem d_M_without_88 : decode prog_14_method_35_code 88 = .ok (.iload_n 1, 1) := by decide +kernel
theorem d_M_without_89 : decode prog_14_method_35_code 89 = .ok (.laload, 1) := by decide +kernel
theorem d_M_without_90 : decode prog_14_method_35_code 90 = .ok (.lconst 1, 1) := by decide +kernel
theorem d_M_without_91 : decode prog_14_method_35_code 91 = .ok (.ladd, 1) := by decide +kernel
theorem d_M_without_92 : decode prog_14_method_35_code 92 = .ok (.goto 9, 3) := by decide +kernel
theorem d_M_without_33 : decode prog_14_method_35_code 33 = .ok (.lastore, 1) := by decide +kernel
theorem d_M_without_34 : decode prog_14_method_35_code 34 = .ok (.aload_n 0, 1) := by decide +kernel
theorem d_M_without_35 : decode prog_14_method_35_code 35 = .ok (.getfield 113, 3) := by decide +kernel
theorem d_M_without_38 : decode prog_14_method_35_code 38 = .ok (.iload_n 1, 1) := by decide +kernel
theorem d_M_without_39 : decode prog_14_method_35_code 39 = .ok (.aload_n 0, 1) := by decide +kernel
theorem d_M_without_40 : decode prog_14_method_35_code 40 = .ok (.getfield 113, 3) := by decide +kernel
theorem d_M_without_43 : decode prog_14_method_35_code 43 = .ok (.iload_n 1, 1) := by decide +kernel
theorem d_M_without_44 : decode prog_14_method_35_code 44 = .ok (.laload, 1) := by decide +kernel
theorem d_M_without_45 : decode prog_14_method_35_code 45 = .ok (.lload_n 2, 1) := by decide +kernel
theorem d_M_without_46 : decode prog_14_method_35_code 46 = .ok (.lcmp, 1) := by decide +kernel
theorem d_M_without_47 : decode prog_14_method_35_code 47 = .ok (.ifCond .ne 14, 3) := by decide +kernel
theorem d_M_without_61 : decode prog_14_method_35_code 61 = .ok (.aload_n 0, 1) := by decide +kernel
theorem d_M_without_62 : decode prog_14_method_35_code 62 = .ok (.getfield 113, 3) := by decide +kernel
theorem d_M_without_65 : decode prog_14_method_35_code 65 = .ok (.iload_n 1, 1) := by decide +kernel
theorem d_M_without_66 : decode prog_14_method_35_code 66 = .ok (.laload, 1) := by decide +kernel
theorem d_M_without_50 : decode prog_14_method_35_code 50 = .ok (.aload_n 0, 1) := by decide +kernel
theorem d_M_without_51 : decode prog_14_method_35_code 51 = .ok (.getfield 113, 3) := by decide +kernel
theorem d_M_without_54 : decode prog_14_method_35_code 54 = .ok (.iload_n 1, 1) := by decide +kernel
theorem d_M_without_55 : decode prog_14_method_35_code 55 = .ok (.laload, 1) := by decide +kernel
theorem d_M_without_56 : decode prog_14_method_35_code 56 = .ok (.lconst 1, 1) := by decide +kernel
theorem d_M_without_57 : decode prog_14_method_35_code 57 = .ok (.lsub, 1) := by decide +kernel
theorem d_M_without_58 : decode prog_14_method_35_code 58 = .ok (.goto 9, 3) := by decide +kernel
theorem d_M_without_0 : decode prog_14_method_35_code 0 = .ok (.aload_n 0, 1) := by decide +kernel
theorem d_M_without_1 : decode prog_14_method_35_code 1 = .ok (.getfield 110, 3) := by decide +kernel
theorem d_M_without_4 : decode prog_14_method_35_code 4 = .ok (.iload_n 1, 1) := by decide +kernel
theorem d_M_without_5 : decode prog_14_method_35_code 5 = .ok (.aload_n 0, 1) := by decide +kernel
theorem d_M_without_6 : decode prog_14_method_35_code 6 = .ok (.getfield 110, 3) := by decide +kernel
theorem d_M_without_9 : decode prog_14_method_35_code 9 = .ok (.iload_n 1, 1) := by decide +kernel
theorem d_M_without_10 : decode prog_14_method_35_code 10 = .ok (.laload, 1) := by decide +kernel
theorem d_M_without_11 : decode prog_14_method_35_code 11 = .ok (.lload_n 2, 1) := by decide +kernel
theorem d_M_without_12 : decode prog_14_method_35_code 12 = .ok (.lcmp, 1) := by decide +kernel
theorem d_M_without_13 : decode prog_14_method_35_code 13 = .ok (.ifCond .ne 14, 3) := by decide +kernel
theorem d_M_without_27 : decode prog_14_method_35_code 27 = .ok (.aload_n 0, 1) := by decide +kernel
theorem d_M_without_28 : decode prog_14_method_35_code 28 = .ok (.getfield 110, 3) := by decide +kernel
theorem d_M_without_31 : decode prog_14_method_35_code 31 = .ok (.iload_n 1, 1) := by decide +kernel
theorem d_M_without_32 : decode prog_14_method_35_code 32 = .ok (.laload, 1) := by decide +kernel
theorem d_M_without_16 : decode prog_14_method_35_code 16 = .ok (.aload_n 0, 1) := by decide +kernel
theorem d_M_without_17 : decode prog_14_method_35_code 17 = .ok (.getfield 110, 3) := by decide +kernel
theorem d_M_without_20 : decode prog_14_method_35_code 20 = .ok (.iload_n 1, 1) := by decide +kernel
theorem d_M_without_21 : decode prog_14_method_35_code 21 = .ok (.laload, 1) := by decide +kernel
theorem d_M_without_22 : decode prog_14_method_35_code 22 = .ok (.lconst 1, 1) := by decide +kernel
theorem d_M_without_23 : decode prog_14_method_35_code 23 = .ok (.ladd, 1) := by decide +kernel
theorem d_M_without_24 : decode prog_14_method_35_code 24 = .ok (.goto 9, 3) := by decide +kernel
abbrev y_M_without : MethodName := ⟨"FilterGuardModel", "without", "(IJ)V"⟩
def rm_M_without : Room := { frames := 1, cells := 0, slots := 0, locals := 20 }
abbrev q_M_without (D : va_G) (ad : Nat → Nat → Nat) (ca : Nat → ClassId) (N : Nat → Nat) (M0 MZ : me_M) (A : Nat → Prop) : Array Value → Jvm.State → Outcome → Jvm.State → Prop := va_Qv (fun (_ : Unit) => me_wf N MZ ∧ me_kp M0 MZ) (fg_B D A (fun _ => me_W ad ca MZ) (fun _ => [])) A
set_option maxHeartbeats 4000000 in
set_option maxRecDepth 100000 in
theorem c_M_without (l : Launch) (D : va_G) (ad : Nat → Nat → Nat) (ca : Nat → ClassId) (N : Nat → Nat) (M0 MZ : me_M) (j0 : Nat) (x1 : Int32) (x2 : Int64) (h : f_M_without M0 j0 x1 x2 = (some MZ)) (hwf : me_wf N M0) (hj0 : j0 < N 1) (sz : Nat) : Met l y_M_without (fg_w y_M_without prog_14_method_35_code 4 none) rm_M_without (va_Pc [.ref (ad 1 j0), .int x1, .long x2] (fz_P D (me_T ca) (me_W ad ca M0) sz)) (q_M_without D ad ca N M0 MZ (va_A (me_W ad ca M0) sz)) rm_M_without.cells rm_M_without.slots (va_A (me_W ad ca M0) sz) := by
  refine fz_enter (fun A => q_M_without D ad ca N M0 MZ A) (by decide +kernel) (Nat.le_of_ble_eq_true rfl) ?_
  intro p e s m below meth c ls A hx hb hml hown hts hr hlocks hin hP hK hD hS hA hX hl hz
  have hl : lv_has ls 4 [(0, .ref (ad 1 j0)), (1, .int x1), (2, .long x2)] := hl
  unfold f_M_without at h
  have hkp : me_kp M0 M0 := me_kp.rf
  have hkb := hkp
  have b_101 : ∀ (M : me_M) (s0 : Int64) (s1 : Int32) (s2 : Nat) (H : Heap) (locs : List Loc) (ls : Array Slot), f_M_without_b101 j0 x1 x2 M s0 s1 s2 = (some MZ) → (s2 < N 16) → me_wf N M → me_kp M0 M → va_P D classes (me_W ad ca M) H → va_D A (me_W ad ca M) → va_S A s.heap H locs → lv_has ls 4 [(0, .ref (ad 1 j0)), (1, .int x1), (2, .long x2)] → W p l e rm_M_without s m [.ref (ad 1 j0), .int x1, .long x2].toArray below meth c H locs 0 0 (MQ below (q_M_without D ad ca N M0 MZ A) [.ref (ad 1 j0), .int x1, .long x2].toArray s rm_M_without.cells rm_M_without.slots A) (F0 m 101 ls [.long s0, .int s1, .ref (ad 16 s2)]) := by
    intro M s0 s1 s2 H locs ls h hs2 hwf hkp hP hD hS hl
    unfold f_M_without_b101 at h
    have hkb := hkp
    obtain ⟨g1, h⟩ := gd_ob h
    obtain ⟨M2, eM2, h⟩ := st_ob h
    refine me_last eM2 hx hb hK hP hD hwf hS hs2 g1 d_M_without_101 (fun H locs hP hD hwf hS => ?_)
    have hkp := kp_L eM2 hkp
    refine lv_aload_n hx hb d_M_without_102 rfl (lv_at hl 0 rfl) ?_
    refine g_M_57 hx hb hts hown hK hP hwf hj0 (hts _ u_1798) d_M_without_103 ?_
    obtain ⟨j3, e4, h⟩ := bd_ob h
    have hj3 : j3 < N 16 := (hwf.2.1 1 j0 57 _ (kp_r hkb hkp e4) (by decide) hj0)
    refine me_opt (j := j3) (kp_r hkb hkp e4) ?_
    refine lv_iload_n hx hb d_M_without_106 rfl (lv_at hl 1 rfl) ?_
    refine lv_aload_n hx hb d_M_without_107 rfl (lv_at hl 0 rfl) ?_
    refine g_M_57 hx hb hts hown hK hP hwf hj0 (hts _ u_1798) d_M_without_108 ?_
    refine me_opt (j := j3) (kp_r hkb hkp e4) ?_
    refine lv_iload_n hx hb d_M_without_111 rfl (lv_at hl 1 rfl) ?_
    obtain ⟨g5, h⟩ := gd_ob h
    refine me_lald hx hb hK hP hwf hj3 (kp_z hkb.z hkp.z g5) d_M_without_112 ?_
    refine lv_lload_n hx hb d_M_without_113 rfl (lv_at hl 2 rfl) ?_
    refine W.lcmp hx hb d_M_without_114 ?_
    refine lv_if_ne (tgt := 129) hx hb d_M_without_115 (by decide) (fun c6 => ?_) (fun c6 => ?_)
    · have h := if_f (fun z => c6 ((lg_cmp_eq _ _).mpr z)) h
      refine lv_aload_n hx hb d_M_without_129 rfl (lv_at hl 0 rfl) ?_
      refine g_M_57 hx hb hts hown hK hP hwf hj0 (hts _ u_1798) d_M_without_130 ?_
      refine me_opt (j := j3) (kp_r hkb hkp e4) ?_
      refine lv_iload_n hx hb d_M_without_133 rfl (lv_at hl 1 rfl) ?_
      refine me_lald hx hb hK hP hwf hj3 (kp_z hkb.z hkp.z g5) d_M_without_134 ?_
      obtain ⟨M7, eM7, h⟩ := st_ob h
      refine me_last eM7 hx hb hK hP hD hwf hS hj3 (kp_z hkb.z hkp.z g5) d_M_without_135 (fun H locs hP hD hwf hS => ?_)
      have hkp := kp_L eM7 hkp
      exact me_retv (me_kp M0) h hx hb hr hlocks hwf hkp hP hK hD hS d_M_without_136
    have h := if_t ((lg_cmp_eq _ _).mp c6) h
    refine lv_aload_n hx hb d_M_without_118 rfl (lv_at hl 0 rfl) ?_
    refine g_M_57 hx hb hts hown hK hP hwf hj0 (hts _ u_1798) d_M_without_119 ?_
    refine me_opt (j := j3) (kp_r hkb hkp e4) ?_
    refine lv_iload_n hx hb d_M_without_122 rfl (lv_at hl 1 rfl) ?_
    refine me_lald hx hb hK hP hwf hj3 (kp_z hkb.z hkp.z g5) d_M_without_123 ?_
    refine lv_lconst (v := 1) hx hb d_M_without_124 (by decide) ?_
    refine lv_lsub hx hb d_M_without_125 ?_
    refine lv_goto (tgt := 135) hx hb d_M_without_126 (by decide) ?_
    obtain ⟨M8, eM8, h⟩ := st_ob h
    refine me_last eM8 hx hb hK hP hD hwf hS hj3 (kp_z hkb.z hkp.z g5) d_M_without_135 (fun H locs hP hD hwf hS => ?_)
    have hkp := kp_L eM8 hkp
    exact me_retv (me_kp M0) h hx hb hr hlocks hwf hkp hP hK hD hS d_M_without_136
  have b_67 : ∀ (M : me_M) (s0 : Int64) (s1 : Int32) (s2 : Nat) (H : Heap) (locs : List Loc) (ls : Array Slot), f_M_without_b67 j0 x1 x2 M s0 s1 s2 = (some MZ) → (s2 < N 16) → me_wf N M → me_kp M0 M → va_P D classes (me_W ad ca M) H → va_D A (me_W ad ca M) → va_S A s.heap H locs → lv_has ls 4 [(0, .ref (ad 1 j0)), (1, .int x1), (2, .long x2)] → W p l e rm_M_without s m [.ref (ad 1 j0), .int x1, .long x2].toArray below meth c H locs 0 0 (MQ below (q_M_without D ad ca N M0 MZ A) [.ref (ad 1 j0), .int x1, .long x2].toArray s rm_M_without.cells rm_M_without.slots A) (F0 m 67 ls [.long s0, .int s1, .ref (ad 16 s2)]) := by
    intro M s0 s1 s2 H locs ls h hs2 hwf hkp hP hD hS hl
    unfold f_M_without_b67 at h
    have hkb := hkp
    obtain ⟨g9, h⟩ := gd_ob h
    obtain ⟨M10, eM10, h⟩ := st_ob h
    refine me_last eM10 hx hb hK hP hD hwf hS hs2 g9 d_M_without_67 (fun H locs hP hD hwf hS => ?_)
    have hkp := kp_L eM10 hkp
    refine lv_aload_n hx hb d_M_without_68 rfl (lv_at hl 0 rfl) ?_
    refine g_M_56 hx hb hts hown hK hP hwf hj0 (hts _ u_1797) d_M_without_69 ?_
    obtain ⟨j11, e12, h⟩ := bd_ob h
    have hj11 : j11 < N 16 := (hwf.2.1 1 j0 56 _ (kp_r hkb hkp e12) (by decide) hj0)
    refine me_opt (j := j11) (kp_r hkb hkp e12) ?_
    refine lv_iload_n hx hb d_M_without_72 rfl (lv_at hl 1 rfl) ?_
    refine lv_aload_n hx hb d_M_without_73 rfl (lv_at hl 0 rfl) ?_
    refine g_M_56 hx hb hts hown hK hP hwf hj0 (hts _ u_1797) d_M_without_74 ?_
    refine me_opt (j := j11) (kp_r hkb hkp e12) ?_
    refine lv_iload_n hx hb d_M_without_77 rfl (lv_at hl 1 rfl) ?_
    obtain ⟨g13, h⟩ := gd_ob h
    refine me_lald hx hb hK hP hwf hj11 (kp_z hkb.z hkp.z g13) d_M_without_78 ?_
    refine lv_lload_n hx hb d_M_without_79 rfl (lv_at hl 2 rfl) ?_
    refine W.lcmp hx hb d_M_without_80 ?_
    refine lv_if_ne (tgt := 95) hx hb d_M_without_81 (by decide) (fun c14 => ?_) (fun c14 => ?_)
    · have h := if_f (fun z => c14 ((lg_cmp_eq _ _).mpr z)) h
      refine lv_aload_n hx hb d_M_without_95 rfl (lv_at hl 0 rfl) ?_
      refine g_M_56 hx hb hts hown hK hP hwf hj0 (hts _ u_1797) d_M_without_96 ?_
      refine me_opt (j := j11) (kp_r hkb hkp e12) ?_
      refine lv_iload_n hx hb d_M_without_99 rfl (lv_at hl 1 rfl) ?_
      refine me_lald hx hb hK hP hwf hj11 (kp_z hkb.z hkp.z g13) d_M_without_100 ?_
      exact b_101 M10 (mL M10 16 j11 x1.toNatClampNeg) x1 j11 _ _ _ h hj11 hwf hkp hP hD hS (lv_sub hl [0, 1, 2] rfl)
    have h := if_t ((lg_cmp_eq _ _).mp c14) h
    refine lv_aload_n hx hb d_M_without_84 rfl (lv_at hl 0 rfl) ?_
    refine g_M_56 hx hb hts hown hK hP hwf hj0 (hts _ u_1797) d_M_without_85 ?_
    refine me_opt (j := j11) (kp_r hkb hkp e12) ?_
    refine lv_iload_n hx hb d_M_without_88 rfl (lv_at hl 1 rfl) ?_
    refine me_lald hx hb hK hP hwf hj11 (kp_z hkb.z hkp.z g13) d_M_without_89 ?_
    refine lv_lconst (v := 1) hx hb d_M_without_90 (by decide) ?_
    refine lv_ladd hx hb d_M_without_91 ?_
    refine lv_goto (tgt := 101) hx hb d_M_without_92 (by decide) ?_
    exact b_101 M10 ((mL M10 16 j11 x1.toNatClampNeg) + 1) x1 j11 _ _ _ h hj11 hwf hkp hP hD hS (lv_sub hl [0, 1, 2] rfl)
  have b_33 : ∀ (M : me_M) (s0 : Int64) (s1 : Int32) (s2 : Nat) (H : Heap) (locs : List Loc) (ls : Array Slot), f_M_without_b33 j0 x1 x2 M s0 s1 s2 = (some MZ) → (s2 < N 16) → me_wf N M → me_kp M0 M → va_P D classes (me_W ad ca M) H → va_D A (me_W ad ca M) → va_S A s.heap H locs → lv_has ls 4 [(0, .ref (ad 1 j0)), (1, .int x1), (2, .long x2)] → W p l e rm_M_without s m [.ref (ad 1 j0), .int x1, .long x2].toArray below meth c H locs 0 0 (MQ below (q_M_without D ad ca N M0 MZ A) [.ref (ad 1 j0), .int x1, .long x2].toArray s rm_M_without.cells rm_M_without.slots A) (F0 m 33 ls [.long s0, .int s1, .ref (ad 16 s2)]) := by
    intro M s0 s1 s2 H locs ls h hs2 hwf hkp hP hD hS hl
    unfold f_M_without_b33 at h
    have hkb := hkp
    obtain ⟨g15, h⟩ := gd_ob h
    obtain ⟨M16, eM16, h⟩ := st_ob h
    refine me_last eM16 hx hb hK hP hD hwf hS hs2 g15 d_M_without_33 (fun H locs hP hD hwf hS => ?_)
    have hkp := kp_L eM16 hkp
    refine lv_aload_n hx hb d_M_without_34 rfl (lv_at hl 0 rfl) ?_
    refine g_M_55 hx hb hts hown hK hP hwf hj0 (hts _ u_1796) d_M_without_35 ?_
    obtain ⟨j17, e18, h⟩ := bd_ob h
    have hj17 : j17 < N 16 := (hwf.2.1 1 j0 55 _ (kp_r hkb hkp e18) (by decide) hj0)
    refine me_opt (j := j17) (kp_r hkb hkp e18) ?_
    refine lv_iload_n hx hb d_M_without_38 rfl (lv_at hl 1 rfl) ?_
    refine lv_aload_n hx hb d_M_without_39 rfl (lv_at hl 0 rfl) ?_
    refine g_M_55 hx hb hts hown hK hP hwf hj0 (hts _ u_1796) d_M_without_40 ?_
    refine me_opt (j := j17) (kp_r hkb hkp e18) ?_
    refine lv_iload_n hx hb d_M_without_43 rfl (lv_at hl 1 rfl) ?_
    obtain ⟨g19, h⟩ := gd_ob h
    refine me_lald hx hb hK hP hwf hj17 (kp_z hkb.z hkp.z g19) d_M_without_44 ?_
    refine lv_lload_n hx hb d_M_without_45 rfl (lv_at hl 2 rfl) ?_
    refine W.lcmp hx hb d_M_without_46 ?_
    refine lv_if_ne (tgt := 61) hx hb d_M_without_47 (by decide) (fun c20 => ?_) (fun c20 => ?_)
    · have h := if_f (fun z => c20 ((lg_cmp_eq _ _).mpr z)) h
      refine lv_aload_n hx hb d_M_without_61 rfl (lv_at hl 0 rfl) ?_
      refine g_M_55 hx hb hts hown hK hP hwf hj0 (hts _ u_1796) d_M_without_62 ?_
      refine me_opt (j := j17) (kp_r hkb hkp e18) ?_
      refine lv_iload_n hx hb d_M_without_65 rfl (lv_at hl 1 rfl) ?_
      refine me_lald hx hb hK hP hwf hj17 (kp_z hkb.z hkp.z g19) d_M_without_66 ?_
      exact b_67 M16 (mL M16 16 j17 x1.toNatClampNeg) x1 j17 _ _ _ h hj17 hwf hkp hP hD hS (lv_sub hl [0, 1, 2] rfl)
    have h := if_t ((lg_cmp_eq _ _).mp c20) h
    refine lv_aload_n hx hb d_M_without_50 rfl (lv_at hl 0 rfl) ?_
    refine g_M_55 hx hb hts hown hK hP hwf hj0 (hts _ u_1796) d_M_without_51 ?_
    refine me_opt (j := j17) (kp_r hkb hkp e18) ?_
    refine lv_iload_n hx hb d_M_without_54 rfl (lv_at hl 1 rfl) ?_
    refine me_lald hx hb hK hP hwf hj17 (kp_z hkb.z hkp.z g19) d_M_without_55 ?_
    refine lv_lconst (v := 1) hx hb d_M_without_56 (by decide) ?_
    refine lv_lsub hx hb d_M_without_57 ?_
    refine lv_goto (tgt := 67) hx hb d_M_without_58 (by decide) ?_
    exact b_67 M16 ((mL M16 16 j17 x1.toNatClampNeg) - 1) x1 j17 _ _ _ h hj17 hwf hkp hP hD hS (lv_sub hl [0, 1, 2] rfl)
  refine lv_aload_n hx hb d_M_without_0 rfl (lv_at hl 0 rfl) ?_
  refine g_M_54 hx hb hts hown hK hP hwf hj0 (hts _ u_1795) d_M_without_1 ?_
  obtain ⟨j21, e22, h⟩ := bd_ob h
  have hj21 : j21 < N 16 := (hwf.2.1 1 j0 54 _ e22 (by decide) hj0)
  refine me_opt (j := j21) e22 ?_
  refine lv_iload_n hx hb d_M_without_4 rfl (lv_at hl 1 rfl) ?_
  refine lv_aload_n hx hb d_M_without_5 rfl (lv_at hl 0 rfl) ?_
  refine g_M_54 hx hb hts hown hK hP hwf hj0 (hts _ u_1795) d_M_without_6 ?_
  refine me_opt (j := j21) e22 ?_
  refine lv_iload_n hx hb d_M_without_9 rfl (lv_at hl 1 rfl) ?_
  obtain ⟨g23, h⟩ := gd_ob h
  refine me_lald hx hb hK hP hwf hj21 g23 d_M_without_10 ?_
  refine lv_lload_n hx hb d_M_without_11 rfl (lv_at hl 2 rfl) ?_
  refine W.lcmp hx hb d_M_without_12 ?_
  refine lv_if_ne (tgt := 27) hx hb d_M_without_13 (by decide) (fun c24 => ?_) (fun c24 => ?_)
  · have h := if_f (fun z => c24 ((lg_cmp_eq _ _).mpr z)) h
    refine lv_aload_n hx hb d_M_without_27 rfl (lv_at hl 0 rfl) ?_
    refine g_M_54 hx hb hts hown hK hP hwf hj0 (hts _ u_1795) d_M_without_28 ?_
    refine me_opt (j := j21) e22 ?_
    refine lv_iload_n hx hb d_M_without_31 rfl (lv_at hl 1 rfl) ?_
    refine me_lald hx hb hK hP hwf hj21 g23 d_M_without_32 ?_
    exact b_33 M0 (mL M0 16 j21 x1.toNatClampNeg) x1 j21 _ _ _ h hj21 hwf hkp hP hD hS (lv_sub hl [0, 1, 2] rfl)
  have h := if_t ((lg_cmp_eq _ _).mp c24) h
  refine lv_aload_n hx hb d_M_without_16 rfl (lv_at hl 0 rfl) ?_
  refine g_M_54 hx hb hts hown hK hP hwf hj0 (hts _ u_1795) d_M_without_17 ?_
  refine me_opt (j := j21) e22 ?_
  refine lv_iload_n hx hb d_M_without_20 rfl (lv_at hl 1 rfl) ?_
  refine me_lald hx hb hK hP hwf hj21 g23 d_M_without_21 ?_
  refine lv_lconst (v := 1) hx hb d_M_without_22 (by decide) ?_
  refine lv_ladd hx hb d_M_without_23 ?_
  refine lv_goto (tgt := 33) hx hb d_M_without_24 (by decide) ?_
  exact b_33 M0 ((mL M0 16 j21 x1.toNatClampNeg) + 1) x1 j21 _ _ _ h hj21 hwf hkp hP hD hS (lv_sub hl [0, 1, 2] rfl)
theorem d_M_notSame_46 : decode prog_14_method_36_code 46 = .ok (.aload_n 0, 1) := by decide +kernel
theorem d_M_notSame_47 : decode prog_14_method_36_code 47 = .ok (.getfield 104, 3) := by decide +kernel
theorem d_M_notSame_50 : decode prog_14_method_36_code 50 = .ok (.sipush 30075, 3) := by decide +kernel
theorem d_M_notSame_53 : decode prog_14_method_36_code 53 = .ok (.laload, 1) := by decide +kernel
theorem d_M_notSame_54 : decode prog_14_method_36_code 54 = .ok (.lstore_n 3, 1) := by decide +kernel
theorem d_M_notSame_55 : decode prog_14_method_36_code 55 = .ok (.iload_n 2, 1) := by decide +kernel
theorem d_M_notSame_56 : decode prog_14_method_36_code 56 = .ok (.ifCond .eq 18, 3) := by decide +kernel
theorem d_M_notSame_74 : decode prog_14_method_36_code 74 = .ok (.iload_n 1, 1) := by decide +kernel
theorem d_M_notSame_75 : decode prog_14_method_36_code 75 = .ok (.ifCond .eq 11, 3) := by decide +kernel
theorem d_M_notSame_86 : decode prog_14_method_36_code 86 = .ok (.iconst 1, 1) := by decide +kernel
theorem d_M_notSame_87 : decode prog_14_method_36_code 87 = .ok (.ireturn, 1) := by decide +kernel
theorem d_M_notSame_78 : decode prog_14_method_36_code 78 = .ok (.aload_n 0, 1) := by decide +kernel
theorem d_M_notSame_79 : decode prog_14_method_36_code 79 = .ok (.sipush 30076, 3) := by decide +kernel
theorem d_M_notSame_82 : decode prog_14_method_36_code 82 = .ok (.lload_n 3, 1) := by decide +kernel
theorem d_M_notSame_83 : decode prog_14_method_36_code 83 = .ok (.invokevirtual 267, 3) := by decide +kernel
theorem u_2262 : Cond.methodLink "FilterGuardModel" 267 ⟨"FilterGuardModel", "without", "(IJ)V"⟩ ∈ fg_g := fg_in (List.mem_of_getElem? (i := 2262) (by decide +kernel)) rfl
theorem u_2265 : Cond.code ⟨"FilterGuardModel", "without", "(IJ)V"⟩ prog_14_method_35_code 4 none ∈ fg_g := fg_in (List.mem_of_getElem? (i := 2265) (by decide +kernel)) rfl
theorem u_2264 : Cond.instanceMethod ⟨"FilterGuardModel", "without", "(IJ)V"⟩ ∈ fg_g := fg_in (List.mem_of_getElem? (i := 2264) (by decide +kernel)) rfl
theorem u_138 : Cond.selects "FilterGuardModel" ⟨"FilterGuardModel", "without", "(IJ)V"⟩ ⟨"FilterGuardModel", "without", "(IJ)V"⟩ ∈ fg_g := fg_in (List.mem_of_getElem? (i := 138) (by decide +kernel)) rfl
theorem d_M_notSame_59 : decode prog_14_method_36_code 59 = .ok (.aload_n 0, 1) := by decide +kernel
theorem d_M_notSame_60 : decode prog_14_method_36_code 60 = .ok (.sipush 30075, 3) := by decide +kernel
theorem d_M_notSame_63 : decode prog_14_method_36_code 63 = .ok (.aload_n 0, 1) := by decide +kernel
theorem d_M_notSame_64 : decode prog_14_method_36_code 64 = .ok (.getfield 104, 3) := by decide +kernel
theorem d_M_notSame_67 : decode prog_14_method_36_code 67 = .ok (.sipush 30076, 3) := by decide +kernel
theorem d_M_notSame_70 : decode prog_14_method_36_code 70 = .ok (.laload, 1) := by decide +kernel
theorem d_M_notSame_71 : decode prog_14_method_36_code 71 = .ok (.invokevirtual 267, 3) := by decide +kernel
theorem d_M_notSame_0 : decode prog_14_method_36_code 0 = .ok (.aload_n 0, 1) := by decide +kernel
theorem d_M_notSame_1 : decode prog_14_method_36_code 1 = .ok (.sipush 30075, 3) := by decide +kernel
theorem d_M_notSame_4 : decode prog_14_method_36_code 4 = .ok (.invokevirtual 192, 3) := by decide +kernel
theorem d_M_notSame_7 : decode prog_14_method_36_code 7 = .ok (.istore_n 1, 1) := by decide +kernel
theorem d_M_notSame_8 : decode prog_14_method_36_code 8 = .ok (.aload_n 0, 1) := by decide +kernel
theorem d_M_notSame_9 : decode prog_14_method_36_code 9 = .ok (.sipush 30076, 3) := by decide +kernel
theorem d_M_notSame_12 : decode prog_14_method_36_code 12 = .ok (.invokevirtual 192, 3) := by decide +kernel
theorem d_M_notSame_15 : decode prog_14_method_36_code 15 = .ok (.istore_n 2, 1) := by decide +kernel
theorem d_M_notSame_16 : decode prog_14_method_36_code 16 = .ok (.iload_n 1, 1) := by decide +kernel
theorem d_M_notSame_17 : decode prog_14_method_36_code 17 = .ok (.ifCond .eq 29, 3) := by decide +kernel
theorem d_M_notSame_20 : decode prog_14_method_36_code 20 = .ok (.iload_n 2, 1) := by decide +kernel
theorem d_M_notSame_21 : decode prog_14_method_36_code 21 = .ok (.ifCond .eq 25, 3) := by decide +kernel
theorem d_M_notSame_24 : decode prog_14_method_36_code 24 = .ok (.aload_n 0, 1) := by decide +kernel
theorem d_M_notSame_25 : decode prog_14_method_36_code 25 = .ok (.getfield 104, 3) := by decide +kernel
theorem d_M_notSame_28 : decode prog_14_method_36_code 28 = .ok (.sipush 30075, 3) := by decide +kernel
theorem d_M_notSame_31 : decode prog_14_method_36_code 31 = .ok (.laload, 1) := by decide +kernel
theorem d_M_notSame_32 : decode prog_14_method_36_code 32 = .ok (.aload_n 0, 1) := by decide +kernel
theorem d_M_notSame_33 : decode prog_14_method_36_code 33 = .ok (.getfield 104, 3) := by decide +kernel
theorem d_M_notSame_36 : decode prog_14_method_36_code 36 = .ok (.sipush 30076, 3) := by decide +kernel
theorem d_M_notSame_39 : decode prog_14_method_36_code 39 = .ok (.laload, 1) := by decide +kernel
theorem d_M_notSame_40 : decode prog_14_method_36_code 40 = .ok (.lcmp, 1) := by decide +kernel
theorem d_M_notSame_41 : decode prog_14_method_36_code 41 = .ok (.ifCond .ne 5, 3) := by decide +kernel
theorem d_M_notSame_44 : decode prog_14_method_36_code 44 = .ok (.iconst 0, 1) := by decide +kernel
theorem d_M_notSame_45 : decode prog_14_method_36_code 45 = .ok (.ireturn, 1) := by decide +kernel
abbrev y_M_notSame : MethodName := ⟨"FilterGuardModel", "notSame", "()Z"⟩
def rm_M_notSame : Room := { frames := 2, cells := 0, slots := 0, locals := 43 }
abbrev q_M_notSame (D : va_G) (ad : Nat → Nat → Nat) (ca : Nat → ClassId) (N : Nat → Nat) (M0 MZ : me_M) (RZ : Int32) (A : Nat → Prop) : Array Value → Jvm.State → Outcome → Jvm.State → Prop := va_Qi (fun r (_ : Unit) => r = RZ ∧ me_wf N MZ ∧ me_kp M0 MZ ∧ (RZ = 1 ∨ RZ = 0)) (fg_B D A (fun _ => me_W ad ca MZ) (fun _ => [])) A
set_option maxHeartbeats 4000000 in
set_option maxRecDepth 100000 in
theorem c_M_notSame (l : Launch) (D : va_G) (ad : Nat → Nat → Nat) (ca : Nat → ClassId) (N : Nat → Nat) (M0 MZ : me_M) (RZ : Int32) (j0 : Nat) (h : f_M_notSame M0 j0 = (some (MZ, RZ))) (hwf : me_wf N M0) (hj0 : j0 < N 1) (sz : Nat) : Met l y_M_notSame (fg_w y_M_notSame prog_14_method_36_code 5 (some .boolean)) rm_M_notSame (va_Pc [.ref (ad 1 j0)] (fz_P D (me_T ca) (me_W ad ca M0) sz)) (q_M_notSame D ad ca N M0 MZ RZ (va_A (me_W ad ca M0) sz)) rm_M_notSame.cells rm_M_notSame.slots (va_A (me_W ad ca M0) sz) := by
  refine fz_enter (fun A => q_M_notSame D ad ca N M0 MZ RZ A) (by decide +kernel) (Nat.le_of_ble_eq_true rfl) ?_
  intro p e s m below meth c ls A hx hb hml hown hts hr hlocks hin hP hK hD hS hA hX hl hz
  have hl : lv_has ls 5 [(0, .ref (ad 1 j0))] := hl
  unfold f_M_notSame at h
  have hkp : me_kp M0 M0 := me_kp.rf
  have hkb := hkp
  have b_46 : ∀ (M : me_M) (y1 : Int32) (y2 : Int32) (H : Heap) (locs : List Loc) (ls : Array Slot), f_M_notSame_b46 j0 M y1 y2 = (some (MZ, RZ)) → (y1 = 1 ∨ y1 = 0) → (y2 = 1 ∨ y2 = 0) → me_wf N M → me_kp M0 M → va_P D classes (me_W ad ca M) H → va_D A (me_W ad ca M) → va_S A s.heap H locs → lv_has ls 5 [(0, .ref (ad 1 j0)), (1, .int y1), (2, .int y2)] → W p l e rm_M_notSame s m [.ref (ad 1 j0)].toArray below meth c H locs 0 0 (MQ below (q_M_notSame D ad ca N M0 MZ RZ A) [.ref (ad 1 j0)].toArray s rm_M_notSame.cells rm_M_notSame.slots A) (F0 m 46 ls []) := by
    intro M y1 y2 H locs ls h zy1 zy2 hwf hkp hP hD hS hl
    unfold f_M_notSame_b46 at h
    have hkb := hkp
    refine lv_aload_n hx hb d_M_notSame_46 rfl (lv_at hl 0 rfl) ?_
    refine g_M_52 hx hb hts hown hK hP hwf hj0 (hts _ u_1793) d_M_notSame_47 ?_
    obtain ⟨j1, e2, h⟩ := bd_ob h
    have hj1 : j1 < N 16 := (hwf.2.1 1 j0 52 _ e2 (by decide) hj0)
    refine me_opt (j := j1) e2 ?_
    refine lv_sipush (v := 30075) hx hb d_M_notSame_50 (by decide) ?_
    obtain ⟨g3, h⟩ := gd_ob h
    refine me_lald hx hb hK hP hwf hj1 (me_in (i := (30075 : Int32)) (k := 30075) (by decide) (by decide) g3) d_M_notSame_53 ?_
    refine fg_topl (y := mL M 16 j1 30075) (congrArg _ (by decide)) ?_
    obtain ⟨v4, ev4, h⟩ := st_ob h
    refine fg_topl (y := v4) ev4.symm ?_
    refine lv_lstore_n (lv' := [(3, .long v4), (0, .ref (ad 1 j0)), (1, .int y1), (2, .int y2)]) hx hb d_M_notSame_54 rfl hl (by decide) rfl (fun ls hl => ?_)
    refine lv_iload_n hx hb d_M_notSame_55 rfl (lv_at hl 3 rfl) ?_
    refine lv_if_eq (tgt := 74) hx hb d_M_notSame_56 (by decide) (fun c5 => ?_) (fun c5 => ?_)
    · have h := if_t c5 h
      refine lv_iload_n hx hb d_M_notSame_74 rfl (lv_at hl 2 rfl) ?_
      refine lv_if_eq (tgt := 86) hx hb d_M_notSame_75 (by decide) (fun c6 => ?_) (fun c6 => ?_)
      · have h := if_t c6 h
        refine lv_iconst (v := 1) hx hb d_M_notSame_86 (by decide) ?_
        exact me_retz (me_kp M0) h (by decide) hx hb hr hlocks hwf hkp hP hK hD hS d_M_notSame_87
      have h := if_f c6 h
      refine lv_aload_n hx hb d_M_notSame_78 rfl (lv_at hl 1 rfl) ?_
      refine lv_sipush (v := 30076) hx hb d_M_notSame_79 (by decide) ?_
      refine lv_lload_n hx hb d_M_notSame_82 rfl (lv_at hl 0 rfl) ?_
      obtain ⟨M7, eM7, h⟩ := bd_ob h
      refine me_thenv0 (M1 := M7) (me_runV (C := "FilterGuardModel") (As := [.int 30076, .long v4]) (rest := []) ⟨hx, hb, hml, hown, hts⟩ (c_M_without l D ad ca N M M7 j0 (30076 : Int32) v4 eM7 hwf hj0 _) rfl (by show fg_nm y_M_without 2; decide +kernel) u_2262 u_2264 u_138 u_192 u_2265 ⟨Nat.le_of_ble_eq_true rfl, Nat.le_of_ble_eq_true rfl⟩ hX hz hK hP hD hwf hS hA hj0 (by decide) rfl rfl rfl hl.1 (Nat.le_of_ble_eq_true rfl) d_M_notSame_83 ⟨Nat.le_of_ble_eq_true rfl, Nat.le_of_ble_eq_true rfl⟩) hP hD hK hS hA rfl rfl (fun H locs hw hP hD hS => ?_)
      obtain ⟨hwf, hk9⟩ := hw
      have hkp := hkp.tr hk9
      refine lv_iconst (v := 1) hx hb d_M_notSame_86 (by decide) ?_
      exact me_retz (me_kp M0) h (by decide) hx hb hr hlocks hwf hkp hP hK hD hS d_M_notSame_87
    have h := if_f c5 h
    refine lv_aload_n hx hb d_M_notSame_59 rfl (lv_at hl 1 rfl) ?_
    refine lv_sipush (v := 30075) hx hb d_M_notSame_60 (by decide) ?_
    refine lv_aload_n hx hb d_M_notSame_63 rfl (lv_at hl 1 rfl) ?_
    refine g_M_52 hx hb hts hown hK hP hwf hj0 (hts _ u_1793) d_M_notSame_64 ?_
    refine me_opt (j := j1) e2 ?_
    refine lv_sipush (v := 30076) hx hb d_M_notSame_67 (by decide) ?_
    obtain ⟨g8, h⟩ := gd_ob h
    refine me_lald hx hb hK hP hwf hj1 (me_in (i := (30076 : Int32)) (k := 30076) (by decide) (by decide) g8) d_M_notSame_70 ?_
    refine fg_topl (y := mL M 16 j1 30076) (congrArg _ (by decide)) ?_
    obtain ⟨M9, eM9, h⟩ := bd_ob h
    refine me_thenv0 (M1 := M9) (me_runV (C := "FilterGuardModel") (As := [.int 30075, .long (mL M 16 j1 30076)]) (rest := []) ⟨hx, hb, hml, hown, hts⟩ (c_M_without l D ad ca N M M9 j0 (30075 : Int32) (mL M 16 j1 30076) eM9 hwf hj0 _) rfl (by show fg_nm y_M_without 2; decide +kernel) u_2262 u_2264 u_138 u_192 u_2265 ⟨Nat.le_of_ble_eq_true rfl, Nat.le_of_ble_eq_true rfl⟩ hX hz hK hP hD hwf hS hA hj0 (by decide) rfl rfl rfl hl.1 (Nat.le_of_ble_eq_true rfl) d_M_notSame_71 ⟨Nat.le_of_ble_eq_true rfl, Nat.le_of_ble_eq_true rfl⟩) hP hD hK hS hA rfl rfl (fun H locs hw hP hD hS => ?_)
    obtain ⟨hwf, hk9⟩ := hw
    have hkp := hkp.tr hk9
    refine lv_iload_n hx hb d_M_notSame_74 rfl (lv_at hl 2 rfl) ?_
    refine lv_if_eq (tgt := 86) hx hb d_M_notSame_75 (by decide) (fun c10 => ?_) (fun c10 => ?_)
    · have h := if_t c10 h
      refine lv_iconst (v := 1) hx hb d_M_notSame_86 (by decide) ?_
      exact me_retz (me_kp M0) h (by decide) hx hb hr hlocks hwf hkp hP hK hD hS d_M_notSame_87
    have h := if_f c10 h
    refine lv_aload_n hx hb d_M_notSame_78 rfl (lv_at hl 1 rfl) ?_
    refine lv_sipush (v := 30076) hx hb d_M_notSame_79 (by decide) ?_
    refine lv_lload_n hx hb d_M_notSame_82 rfl (lv_at hl 0 rfl) ?_
    obtain ⟨M11, eM11, h⟩ := bd_ob h
    refine me_thenv0 (M1 := M11) (me_runV (C := "FilterGuardModel") (As := [.int 30076, .long v4]) (rest := []) ⟨hx, hb, hml, hown, hts⟩ (c_M_without l D ad ca N M9 M11 j0 (30076 : Int32) v4 eM11 hwf hj0 _) rfl (by show fg_nm y_M_without 2; decide +kernel) u_2262 u_2264 u_138 u_192 u_2265 ⟨Nat.le_of_ble_eq_true rfl, Nat.le_of_ble_eq_true rfl⟩ hX hz hK hP hD hwf hS hA hj0 (by decide) rfl rfl rfl hl.1 (Nat.le_of_ble_eq_true rfl) d_M_notSame_83 ⟨Nat.le_of_ble_eq_true rfl, Nat.le_of_ble_eq_true rfl⟩) hP hD hK hS hA rfl rfl (fun H locs hw hP hD hS => ?_)
    obtain ⟨hwf, hk9⟩ := hw
    have hkp := hkp.tr hk9
    refine lv_iconst (v := 1) hx hb d_M_notSame_86 (by decide) ?_
    exact me_retz (me_kp M0) h (by decide) hx hb hr hlocks hwf hkp hP hK hD hS d_M_notSame_87
  refine lv_aload_n hx hb d_M_notSame_0 rfl (lv_at hl 0 rfl) ?_
  refine lv_sipush (v := 30075) hx hb d_M_notSame_1 (by decide) ?_
  obtain ⟨M12, r13, eM12, h⟩ := b2_ob h
  refine me_theni0 (M1 := M12) (me_runV (C := "FilterGuardModel") (As := [.int 30075]) (rest := []) ⟨hx, hb, hml, hown, hts⟩ (c_M_isExact l D ad ca N M0 M12 r13 j0 (30075 : Int32) eM12 hwf hj0 _) rfl (by show fg_nm y_M_isExact 1; decide +kernel) u_2251 u_2253 u_136 u_192 u_2254 ⟨Nat.le_of_ble_eq_true rfl, Nat.le_of_ble_eq_true rfl⟩ hX hz hK hP hD hwf hS hA hj0 (by decide) rfl rfl rfl hl.1 (Nat.le_of_ble_eq_true rfl) d_M_notSame_4 ⟨Nat.le_of_ble_eq_true rfl, Nat.le_of_ble_eq_true rfl⟩) hP hD hK hS hA rfl rfl (fun H locs hw hP hD hS => ?_)
  obtain ⟨hwf, hk9, zr13⟩ := hw
  have hkp := hkp.tr hk9
  refine lv_istore_n (lv' := [(1, .int r13), (0, .ref (ad 1 j0))]) hx hb d_M_notSame_7 rfl hl (by decide) rfl (fun ls hl => ?_)
  refine lv_aload_n hx hb d_M_notSame_8 rfl (lv_at hl 1 rfl) ?_
  refine lv_sipush (v := 30076) hx hb d_M_notSame_9 (by decide) ?_
  obtain ⟨M14, r15, eM14, h⟩ := b2_ob h
  refine me_theni0 (M1 := M14) (me_runV (C := "FilterGuardModel") (As := [.int 30076]) (rest := []) ⟨hx, hb, hml, hown, hts⟩ (c_M_isExact l D ad ca N M12 M14 r15 j0 (30076 : Int32) eM14 hwf hj0 _) rfl (by show fg_nm y_M_isExact 1; decide +kernel) u_2251 u_2253 u_136 u_192 u_2254 ⟨Nat.le_of_ble_eq_true rfl, Nat.le_of_ble_eq_true rfl⟩ hX hz hK hP hD hwf hS hA hj0 (by decide) rfl rfl rfl hl.1 (Nat.le_of_ble_eq_true rfl) d_M_notSame_12 ⟨Nat.le_of_ble_eq_true rfl, Nat.le_of_ble_eq_true rfl⟩) hP hD hK hS hA rfl rfl (fun H locs hw hP hD hS => ?_)
  obtain ⟨hwf, hk9, zr15⟩ := hw
  have hkp := hkp.tr hk9
  refine lv_istore_n (lv' := [(2, .int r15), (1, .int r13), (0, .ref (ad 1 j0))]) hx hb d_M_notSame_15 rfl hl (by decide) rfl (fun ls hl => ?_)
  refine lv_iload_n hx hb d_M_notSame_16 rfl (lv_at hl 1 rfl) ?_
  refine lv_if_eq (tgt := 46) hx hb d_M_notSame_17 (by decide) (fun c16 => ?_) (fun c16 => ?_)
  · have h := if_t c16 h
    exact b_46 M14 r13 r15 _ _ _ h zr13 zr15 hwf hkp hP hD hS (lv_sub hl [2, 1, 0] rfl)
  have h := if_f c16 h
  refine lv_iload_n hx hb d_M_notSame_20 rfl (lv_at hl 0 rfl) ?_
  refine lv_if_eq (tgt := 46) hx hb d_M_notSame_21 (by decide) (fun c17 => ?_) (fun c17 => ?_)
  · have h := if_t c17 h
    exact b_46 M14 r13 r15 _ _ _ h zr13 zr15 hwf hkp hP hD hS (lv_sub hl [2, 1, 0] rfl)
  have h := if_f c17 h
  refine lv_aload_n hx hb d_M_notSame_24 rfl (lv_at hl 2 rfl) ?_
  refine g_M_52 hx hb hts hown hK hP hwf hj0 (hts _ u_1793) d_M_notSame_25 ?_
  obtain ⟨j18, e19, h⟩ := bd_ob h
  have hj18 : j18 < N 16 := (hwf.2.1 1 j0 52 _ (kp_r hkb hkp e19) (by decide) hj0)
  refine me_opt (j := j18) (kp_r hkb hkp e19) ?_
  refine lv_sipush (v := 30075) hx hb d_M_notSame_28 (by decide) ?_
  obtain ⟨g20, h⟩ := gd_ob h
  refine me_lald hx hb hK hP hwf hj18 (me_in (i := (30075 : Int32)) (k := 30075) (by decide) (by decide) (kp_c hkb.z hkp.z g20)) d_M_notSame_31 ?_
  refine fg_topl (y := mL M14 16 j18 30075) (congrArg _ (by decide)) ?_
  refine lv_aload_n hx hb d_M_notSame_32 rfl (lv_at hl 2 rfl) ?_
  refine g_M_52 hx hb hts hown hK hP hwf hj0 (hts _ u_1793) d_M_notSame_33 ?_
  refine me_opt (j := j18) (kp_r hkb hkp e19) ?_
  refine lv_sipush (v := 30076) hx hb d_M_notSame_36 (by decide) ?_
  obtain ⟨g21, h⟩ := gd_ob h
  refine me_lald hx hb hK hP hwf hj18 (me_in (i := (30076 : Int32)) (k := 30076) (by decide) (by decide) (kp_c hkb.z hkp.z g21)) d_M_notSame_39 ?_
  refine fg_topl (y := mL M14 16 j18 30076) (congrArg _ (by decide)) ?_
  refine W.lcmp hx hb d_M_notSame_40 ?_
  refine lv_if_ne (tgt := 46) hx hb d_M_notSame_41 (by decide) (fun c22 => ?_) (fun c22 => ?_)
  · have h := if_f (fun z => c22 ((lg_cmp_eq _ _).mpr z)) h
    exact b_46 M14 r13 r15 _ _ _ h zr13 zr15 hwf hkp hP hD hS (lv_sub hl [2, 1, 0] rfl)
  have h := if_t ((lg_cmp_eq _ _).mp c22) h
  refine lv_iconst (v := 0) hx hb d_M_notSame_44 (by decide) ?_
  exact me_retz (me_kp M0) h (by decide) hx hb hr hlocks hwf hkp hP hK hD hS d_M_notSame_45
