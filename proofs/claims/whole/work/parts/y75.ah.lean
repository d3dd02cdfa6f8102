theorem d_M_narrow_178 : decode prog_14_method_32_code 178 = .ok (.lastore, 1) := by decide +kernel
theorem d_M_narrow_179 : decode prog_14_method_32_code 179 = .ok (.aload_n 0, 1) := by decide +kernel
theorem d_M_narrow_180 : decode prog_14_method_32_code 180 = .ok (.getfield 116, 3) := by decide +kernel
theorem d_M_narrow_183 : decode prog_14_method_32_code 183 = .ok (.iload_n 1, 1) := by decide +kernel
theorem d_M_narrow_184 : decode prog_14_method_32_code 184 = .ok (.lconst 0, 1) := by decide +kernel
theorem d_M_narrow_185 : decode prog_14_method_32_code 185 = .ok (.lastore, 1) := by decide +kernel
theorem d_M_narrow_186 : decode prog_14_method_32_code 186 = .ok (.aload_n 0, 1) := by decide +kernel
theorem d_M_narrow_187 : decode prog_14_method_32_code 187 = .ok (.getfield 119, 3) := by decide +kernel
theorem d_M_narrow_190 : decode prog_14_method_32_code 190 = .ok (.iload_n 1, 1) := by decide +kernel
theorem d_M_narrow_191 : decode prog_14_method_32_code 191 = .ok (.ldc2_w 203, 3) := by decide +kernel
theorem d_M_narrow_194 : decode prog_14_method_32_code 194 = .ok (.lastore, 1) := by decide +kernel
theorem d_M_narrow_195 : decode prog_14_method_32_code 195 = .ok (.aload_n 0, 1) := by decide +kernel
theorem d_M_narrow_196 : decode prog_14_method_32_code 196 = .ok (.iload_n 1, 1) := by decide +kernel
theorem d_M_narrow_197 : decode prog_14_method_32_code 197 = .ok (.invokevirtual 264, 3) := by decide +kernel
theorem d_M_narrow_200 : decode prog_14_method_32_code 200 = .ok (.ifCond .eq 4, 3) := by decide +kernel
theorem d_M_narrow_204 : decode prog_14_method_32_code 204 = .ok (.iinc 11 1, 3) := by decide +kernel
theorem d_M_narrow_207 : decode prog_14_method_32_code 207 = .ok (.goto (-121), 3) := by decide +kernel
theorem d_M_narrow_203 : decode prog_14_method_32_code 203 = .ok (.return_, 1) := by decide +kernel
theorem d_M_narrow_175 : decode prog_14_method_32_code 175 = .ok (.ldc2_w 203, 3) := by decide +kernel
theorem d_M_narrow_151 : decode prog_14_method_32_code 151 = .ok (.lastore, 1) := by decide +kernel
theorem d_M_narrow_152 : decode prog_14_method_32_code 152 = .ok (.aload_n 0, 1) := by decide +kernel
theorem d_M_narrow_153 : decode prog_14_method_32_code 153 = .ok (.getfield 113, 3) := by decide +kernel
theorem d_M_narrow_156 : decode prog_14_method_32_code 156 = .ok (.iload_n 1, 1) := by decide +kernel
theorem d_M_narrow_157 : decode prog_14_method_32_code 157 = .ok (.iload 11, 2) := by decide +kernel
theorem d_M_narrow_159 : decode prog_14_method_32_code 159 = .ok (.ifCond .ne 16, 3) := by decide +kernel
theorem d_M_narrow_162 : decode prog_14_method_32_code 162 = .ok (.iload_n 2, 1) := by decide +kernel
theorem d_M_narrow_163 : decode prog_14_method_32_code 163 = .ok (.ifCond .eq 12, 3) := by decide +kernel
theorem d_M_narrow_166 : decode prog_14_method_32_code 166 = .ok (.lload 5, 2) := by decide +kernel
theorem d_M_narrow_168 : decode prog_14_method_32_code 168 = .ok (.ldc2_w 203, 3) := by decide +kernel
theorem d_M_narrow_171 : decode prog_14_method_32_code 171 = .ok (.land, 1) := by decide +kernel
theorem d_M_narrow_172 : decode prog_14_method_32_code 172 = .ok (.goto 6, 3) := by decide +kernel
theorem d_M_narrow_150 : decode prog_14_method_32_code 150 = .ok (.lconst 0, 1) := by decide +kernel
theorem d_M_narrow_127 : decode prog_14_method_32_code 127 = .ok (.lastore, 1) := by decide +kernel
theorem d_M_narrow_128 : decode prog_14_method_32_code 128 = .ok (.aload_n 0, 1) := by decide +kernel
theorem d_M_narrow_129 : decode prog_14_method_32_code 129 = .ok (.getfield 110, 3) := by decide +kernel
theorem d_M_narrow_132 : decode prog_14_method_32_code 132 = .ok (.iload_n 1, 1) := by decide +kernel
theorem d_M_narrow_133 : decode prog_14_method_32_code 133 = .ok (.iload 11, 2) := by decide +kernel
theorem d_M_narrow_135 : decode prog_14_method_32_code 135 = .ok (.ifCond .ne 15, 3) := by decide +kernel
theorem d_M_narrow_138 : decode prog_14_method_32_code 138 = .ok (.iload_n 2, 1) := by decide +kernel
theorem d_M_narrow_139 : decode prog_14_method_32_code 139 = .ok (.ifCond .eq 11, 3) := by decide +kernel
theorem d_M_narrow_142 : decode prog_14_method_32_code 142 = .ok (.lload_n 3, 1) := by decide +kernel
theorem d_M_narrow_143 : decode prog_14_method_32_code 143 = .ok (.ldc2_w 203, 3) := by decide +kernel
theorem d_M_narrow_146 : decode prog_14_method_32_code 146 = .ok (.land, 1) := by decide +kernel
theorem d_M_narrow_147 : decode prog_14_method_32_code 147 = .ok (.goto 4, 3) := by decide +kernel
theorem d_M_narrow_108 : decode prog_14_method_32_code 108 = .ok (.lastore, 1) := by decide +kernel
theorem d_M_narrow_109 : decode prog_14_method_32_code 109 = .ok (.aload_n 0, 1) := by decide +kernel
theorem d_M_narrow_110 : decode prog_14_method_32_code 110 = .ok (.getfield 107, 3) := by decide +kernel
theorem d_M_narrow_113 : decode prog_14_method_32_code 113 = .ok (.iload_n 1, 1) := by decide +kernel
theorem d_M_narrow_114 : decode prog_14_method_32_code 114 = .ok (.iload 11, 2) := by decide +kernel
theorem d_M_narrow_116 : decode prog_14_method_32_code 116 = .ok (.ifCond .ne 8, 3) := by decide +kernel
theorem d_M_narrow_124 : decode prog_14_method_32_code 124 = .ok (.ldc2_w 203, 3) := by decide +kernel
theorem d_M_narrow_119 : decode prog_14_method_32_code 119 = .ok (.lload 9, 2) := by decide +kernel
theorem d_M_narrow_121 : decode prog_14_method_32_code 121 = .ok (.goto 6, 3) := by decide +kernel
theorem d_M_narrow_86 : decode prog_14_method_32_code 86 = .ok (.iload 11, 2) := by decide +kernel
theorem d_M_narrow_88 : decode prog_14_method_32_code 88 = .ok (.iconst 2, 1) := by decide +kernel
theorem d_M_narrow_89 : decode prog_14_method_32_code 89 = .ok (.if_icmp .ge 121, 3) := by decide +kernel
theorem d_M_narrow_210 : decode prog_14_method_32_code 210 = .ok (.return_, 1) := by decide +kernel
theorem d_M_narrow_92 : decode prog_14_method_32_code 92 = .ok (.aload_n 0, 1) := by decide +kernel
theorem d_M_narrow_93 : decode prog_14_method_32_code 93 = .ok (.getfield 104, 3) := by decide +kernel
theorem d_M_narrow_96 : decode prog_14_method_32_code 96 = .ok (.iload_n 1, 1) := by decide +kernel
theorem d_M_narrow_97 : decode prog_14_method_32_code 97 = .ok (.iload 11, 2) := by decide +kernel
theorem d_M_narrow_99 : decode prog_14_method_32_code 99 = .ok (.ifCond .ne 8, 3) := by decide +kernel
theorem d_M_narrow_107 : decode prog_14_method_32_code 107 = .ok (.lconst 0, 1) := by decide +kernel
theorem d_M_narrow_102 : decode prog_14_method_32_code 102 = .ok (.lload 7, 2) := by decide +kernel
theorem d_M_narrow_104 : decode prog_14_method_32_code 104 = .ok (.goto 4, 3) := by decide +kernel
theorem d_M_narrow_43 : decode prog_14_method_32_code 43 = .ok (.istore_n 2, 1) := by decide +kernel
theorem d_M_narrow_44 : decode prog_14_method_32_code 44 = .ok (.aload_n 0, 1) := by decide +kernel
theorem d_M_narrow_45 : decode prog_14_method_32_code 45 = .ok (.getfield 110, 3) := by decide +kernel
theorem d_M_narrow_48 : decode prog_14_method_32_code 48 = .ok (.iload_n 1, 1) := by decide +kernel
theorem d_M_narrow_49 : decode prog_14_method_32_code 49 = .ok (.laload, 1) := by decide +kernel
theorem d_M_narrow_50 : decode prog_14_method_32_code 50 = .ok (.lstore_n 3, 1) := by decide +kernel
theorem d_M_narrow_51 : decode prog_14_method_32_code 51 = .ok (.aload_n 0, 1) := by decide +kernel
theorem d_M_narrow_52 : decode prog_14_method_32_code 52 = .ok (.getfield 113, 3) := by decide +kernel
theorem d_M_narrow_55 : decode prog_14_method_32_code 55 = .ok (.iload_n 1, 1) := by decide +kernel
theorem d_M_narrow_56 : decode prog_14_method_32_code 56 = .ok (.laload, 1) := by decide +kernel
theorem d_M_narrow_57 : decode prog_14_method_32_code 57 = .ok (.lstore 5, 2) := by decide +kernel
theorem d_M_narrow_59 : decode prog_14_method_32_code 59 = .ok (.aload_n 0, 1) := by decide +kernel
theorem d_M_narrow_60 : decode prog_14_method_32_code 60 = .ok (.getfield 104, 3) := by decide +kernel
theorem d_M_narrow_63 : decode prog_14_method_32_code 63 = .ok (.iload_n 1, 1) := by decide +kernel
theorem d_M_narrow_64 : decode prog_14_method_32_code 64 = .ok (.laload, 1) := by decide +kernel
theorem d_M_narrow_65 : decode prog_14_method_32_code 65 = .ok (.ldc2_w 203, 3) := by decide +kernel
theorem d_M_narrow_68 : decode prog_14_method_32_code 68 = .ok (.land, 1) := by decide +kernel
theorem d_M_narrow_69 : decode prog_14_method_32_code 69 = .ok (.lstore 7, 2) := by decide +kernel
theorem d_M_narrow_71 : decode prog_14_method_32_code 71 = .ok (.aload_n 0, 1) := by decide +kernel
theorem d_M_narrow_72 : decode prog_14_method_32_code 72 = .ok (.getfield 107, 3) := by decide +kernel
theorem d_M_narrow_75 : decode prog_14_method_32_code 75 = .ok (.iload_n 1, 1) := by decide +kernel
theorem d_M_narrow_76 : decode prog_14_method_32_code 76 = .ok (.laload, 1) := by decide +kernel
theorem d_M_narrow_77 : decode prog_14_method_32_code 77 = .ok (.ldc2_w 203, 3) := by decide +kernel
theorem d_M_narrow_80 : decode prog_14_method_32_code 80 = .ok (.land, 1) := by decide +kernel
theorem d_M_narrow_81 : decode prog_14_method_32_code 81 = .ok (.lstore 9, 2) := by decide +kernel
theorem d_M_narrow_83 : decode prog_14_method_32_code 83 = .ok (.iconst 0, 1) := by decide +kernel
theorem d_M_narrow_84 : decode prog_14_method_32_code 84 = .ok (.istore 11, 2) := by decide +kernel
theorem d_M_narrow_0 : decode prog_14_method_32_code 0 = .ok (.ldc2_w 203, 3) := by decide +kernel
theorem d_M_narrow_3 : decode prog_14_method_32_code 3 = .ok (.aload_n 0, 1) := by decide +kernel
theorem d_M_narrow_4 : decode prog_14_method_32_code 4 = .ok (.getfield 113, 3) := by decide +kernel
theorem d_M_narrow_7 : decode prog_14_method_32_code 7 = .ok (.iload_n 1, 1) := by decide +kernel
theorem d_M_narrow_8 : decode prog_14_method_32_code 8 = .ok (.laload, 1) := by decide +kernel
theorem d_M_narrow_9 : decode prog_14_method_32_code 9 = .ok (.invokestatic 158, 3) := by decide +kernel
theorem d_M_narrow_12 : decode prog_14_method_32_code 12 = .ok (.ifCond .ne 4, 3) := by decide +kernel
theorem d_M_narrow_16 : decode prog_14_method_32_code 16 = .ok (.aload_n 0, 1) := by decide +kernel
theorem d_M_narrow_17 : decode prog_14_method_32_code 17 = .ok (.getfield 110, 3) := by decide +kernel
theorem d_M_narrow_20 : decode prog_14_method_32_code 20 = .ok (.iload_n 1, 1) := by decide +kernel
theorem d_M_narrow_21 : decode prog_14_method_32_code 21 = .ok (.laload, 1) := by decide +kernel
theorem d_M_narrow_22 : decode prog_14_method_32_code 22 = .ok (.bipush 32, 2) := by decide +kernel
theorem d_M_narrow_24 : decode prog_14_method_32_code 24 = .ok (.lushr, 1) := by decide +kernel
theorem d_M_narrow_25 : decode prog_14_method_32_code 25 = .ok (.aload_n 0, 1) := by decide +kernel
theorem d_M_narrow_26 : decode prog_14_method_32_code 26 = .ok (.getfield 113, 3) := by decide +kernel
theorem d_M_narrow_29 : decode prog_14_method_32_code 29 = .ok (.iload_n 1, 1) := by decide +kernel
theorem d_M_narrow_30 : decode prog_14_method_32_code 30 = .ok (.laload, 1) := by decide +kernel
theorem d_M_narrow_31 : decode prog_14_method_32_code 31 = .ok (.bipush 32, 2) := by decide +kernel
theorem d_M_narrow_33 : decode prog_14_method_32_code 33 = .ok (.lushr, 1) := by decide +kernel
theorem d_M_narrow_34 : decode prog_14_method_32_code 34 = .ok (.lcmp, 1) := by decide +kernel
theorem d_M_narrow_35 : decode prog_14_method_32_code 35 = .ok (.ifCond .ne 7, 3) := by decide +kernel
theorem d_M_narrow_42 : decode prog_14_method_32_code 42 = .ok (.iconst 0, 1) := by decide +kernel
theorem d_M_narrow_38 : decode prog_14_method_32_code 38 = .ok (.iconst 1, 1) := by decide +kernel
theorem d_M_narrow_39 : decode prog_14_method_32_code 39 = .ok (.goto 4, 3) := by decide +kernel
theorem d_M_narrow_15 : decode prog_14_method_32_code 15 = .ok (.return_, 1) := by decide +kernel
abbrev y_M_narrow : MethodName := ⟨"FilterGuardModel", "narrow", "(I)V"⟩
def rm_M_narrow : Room := { frames := 5, cells := 0, slots := 0, locals := 110 }
abbrev q_M_narrow (D : va_G) (ad : Nat → Nat → Nat) (ca : Nat → ClassId) (N : Nat → Nat) (M0 MZ : me_M) (A : Nat → Prop) : Array Value → Jvm.State → Outcome → Jvm.State → Prop := va_Qv (fun (_ : Unit) => me_wf N MZ ∧ me_kp M0 MZ) (fg_B D A (fun _ => me_W ad ca MZ) (fun _ => [])) A
set_option maxHeartbeats 4000000 in
set_option maxRecDepth 100000 in
theorem c_M_narrow (l : Launch) (D : va_G) (ad : Nat → Nat → Nat) (ca : Nat → ClassId) (N : Nat → Nat) (M0 MZ : me_M) (j0 : Nat) (x1 : Int32) (h : f_M_narrow M0 j0 x1 = (some MZ)) (hwf : me_wf N M0) (hj0 : j0 < N 1) (sz : Nat) : Met l y_M_narrow (fg_w y_M_narrow prog_14_method_32_code 12 none) rm_M_narrow (va_Pc [.ref (ad 1 j0), .int x1] (fz_P D (me_T ca) (me_W ad ca M0) sz)) (q_M_narrow D ad ca N M0 MZ (va_A (me_W ad ca M0) sz)) rm_M_narrow.cells rm_M_narrow.slots (va_A (me_W ad ca M0) sz) := by
  refine fz_enter (fun A => q_M_narrow D ad ca N M0 MZ A) (by decide +kernel) (Nat.le_of_ble_eq_true rfl) ?_
  intro p e s m below meth c ls A hx hb hml hown hts hr hlocks hin hP hK hD hS hA hX hl hz
  have hl : lv_has ls 12 [(0, .ref (ad 1 j0)), (1, .int x1)] := hl
  unfold f_M_narrow at h
  have hkp : me_kp M0 M0 := me_kp.rf
  have hkb := hkp
  have b_178 : ∀ (k86 : me_M → Int32 → Int64 → Int64 → Int64 → Int64 → Int32 → Option me_M) (hk86 : ∀ (M : me_M) (y2 : Int32) (y3 : Int64) (y5 : Int64) (y7 : Int64) (y9 : Int64) (y11 : Int32) (H : Heap) (locs : List Loc) (ls : Array Slot), k86 M y2 y3 y5 y7 y9 y11 = (some MZ) → (y2 = 1 ∨ y2 = 0) → me_wf N M → me_kp M0 M → va_P D classes (me_W ad ca M) H → va_D A (me_W ad ca M) → va_S A s.heap H locs → lv_has ls 12 [(0, .ref (ad 1 j0)), (1, .int x1), (2, .int y2), (3, .long y3), (5, .long y5), (7, .long y7), (9, .long y9), (11, .int y11)] → W p l e rm_M_narrow s m [.ref (ad 1 j0), .int x1].toArray below meth c H locs 0 0 (MQ below (q_M_narrow D ad ca N M0 MZ A) [.ref (ad 1 j0), .int x1].toArray s rm_M_narrow.cells rm_M_narrow.slots A) (F0 m 86 ls [])), ∀ (M : me_M) (y2 : Int32) (y3 : Int64) (y5 : Int64) (y7 : Int64) (y9 : Int64) (y11 : Int32) (s0 : Int64) (s1 : Int32) (s2 : Nat) (H : Heap) (locs : List Loc) (ls : Array Slot), f_M_narrow_b178 k86 j0 x1 M y2 y3 y5 y7 y9 y11 s0 s1 s2 = (some MZ) → (y2 = 1 ∨ y2 = 0) → (s2 < N 16) → me_wf N M → me_kp M0 M → va_P D classes (me_W ad ca M) H → va_D A (me_W ad ca M) → va_S A s.heap H locs → lv_has ls 12 [(0, .ref (ad 1 j0)), (1, .int x1), (2, .int y2), (3, .long y3), (5, .long y5), (7, .long y7), (9, .long y9), (11, .int y11)] → W p l e rm_M_narrow s m [.ref (ad 1 j0), .int x1].toArray below meth c H locs 0 0 (MQ below (q_M_narrow D ad ca N M0 MZ A) [.ref (ad 1 j0), .int x1].toArray s rm_M_narrow.cells rm_M_narrow.slots A) (F0 m 178 ls [.long s0, .int s1, .ref (ad 16 s2)]) := by
    intro k86 hk86 M y2 y3 y5 y7 y9 y11 s0 s1 s2 H locs ls h zy2 hs2 hwf hkp hP hD hS hl
    unfold f_M_narrow_b178 at h
    have hkb := hkp
    obtain ⟨g1, h⟩ := gd_ob h
    obtain ⟨M2, eM2, h⟩ := st_ob h
    refine me_last eM2 hx hb hK hP hD hwf hS hs2 g1 d_M_narrow_178 (fun H locs hP hD hwf hS => ?_)
    have hkp := kp_L eM2 hkp
    refine lv_aload_n hx hb d_M_narrow_179 rfl (lv_at hl 0 rfl) ?_
    refine g_M_56 hx hb hts hown hK hP hwf hj0 (hts _ u_1797) d_M_narrow_180 ?_
    obtain ⟨j3, e4, h⟩ := bd_ob h
    have hj3 : j3 < N 16 := (hwf.2.1 1 j0 56 _ (kp_r hkb hkp e4) (by decide) hj0)
    refine me_opt (j := j3) (kp_r hkb hkp e4) ?_
    refine lv_iload_n hx hb d_M_narrow_183 rfl (lv_at hl 1 rfl) ?_
    refine lv_lconst (v := 0) hx hb d_M_narrow_184 (by decide) ?_
    obtain ⟨g5, h⟩ := gd_ob h
    obtain ⟨M6, eM6, h⟩ := st_ob h
    refine me_last eM6 hx hb hK hP hD hwf hS hj3 (kp_z hkb.z hkp.z g5) d_M_narrow_185 (fun H locs hP hD hwf hS => ?_)
    have hkp := kp_L eM6 hkp
    refine lv_aload_n hx hb d_M_narrow_186 rfl (lv_at hl 0 rfl) ?_
    refine g_M_57 hx hb hts hown hK hP hwf hj0 (hts _ u_1798) d_M_narrow_187 ?_
    obtain ⟨j7, e8, h⟩ := bd_ob h
    have hj7 : j7 < N 16 := (hwf.2.1 1 j0 57 _ (kp_r hkb hkp e8) (by decide) hj0)
    refine me_opt (j := j7) (kp_r hkb hkp e8) ?_
    refine lv_iload_n hx hb d_M_narrow_190 rfl (lv_at hl 1 rfl) ?_
    refine lv_ldc2 hx hb hown (hts _ u_2019) d_M_narrow_191 ?_
    obtain ⟨g9, h⟩ := gd_ob h
    obtain ⟨M10, eM10, h⟩ := st_ob h
    refine me_last eM10 hx hb hK hP hD hwf hS hj7 (kp_z hkb.z hkp.z g9) d_M_narrow_194 (fun H locs hP hD hwf hS => ?_)
    have hkp := kp_L eM10 hkp
    refine lv_aload_n hx hb d_M_narrow_195 rfl (lv_at hl 0 rfl) ?_
    refine lv_iload_n hx hb d_M_narrow_196 rfl (lv_at hl 1 rfl) ?_
    obtain ⟨M11, r12, eM11, h⟩ := b2_ob h
    refine me_theni0 (M1 := M11) (me_runV (C := "FilterGuardModel") (As := [.int x1]) (rest := []) ⟨hx, hb, hml, hown, hts⟩ (c_M_settle l D ad ca N M10 M11 r12 j0 x1 eM11 hwf hj0 _) rfl (by show fg_nm y_M_settle 1; decide +kernel) u_2143 u_2145 u_113 u_192 u_2146 ⟨Nat.le_of_ble_eq_true rfl, Nat.le_of_ble_eq_true rfl⟩ hX hz hK hP hD hwf hS hA hj0 (by decide) rfl rfl rfl hl.1 (Nat.le_of_ble_eq_true rfl) d_M_narrow_197 ⟨Nat.le_of_ble_eq_true rfl, Nat.le_of_ble_eq_true rfl⟩) hP hD hK hS hA rfl rfl (fun H locs hw hP hD hS => ?_)
    obtain ⟨hwf, hk9, zr12⟩ := hw
    have hkp := hkp.tr hk9
    refine lv_if_eq (tgt := 204) hx hb d_M_narrow_200 (by decide) (fun c13 => ?_) (fun c13 => ?_)
    · have h := if_t c13 h
      refine lv_iinc (v := y11 + 1) (lv' := [(11, .int (y11 + 1)), (0, .ref (ad 1 j0)), (1, .int x1), (2, .int y2), (3, .long y3), (5, .long y5), (7, .long y7), (9, .long y9)]) hx hb d_M_narrow_204 hl (k := 7) rfl (by rfl) (by decide) rfl (fun ls hl => ?_)
      refine lv_goto (tgt := 86) hx hb d_M_narrow_207 (by decide) ?_
      exact hk86 M11 y2 y3 y5 y7 y9 (y11 + 1) _ _ _ h zy2 hwf hkp hP hD hS (lv_sub hl [1, 2, 3, 4, 5, 6, 7, 0] rfl)
    have h := if_f c13 h
    exact me_retv (me_kp M0) h hx hb hr hlocks hwf hkp hP hK hD hS d_M_narrow_203
  have b_175 : ∀ (k86 : me_M → Int32 → Int64 → Int64 → Int64 → Int64 → Int32 → Option me_M) (hk86 : ∀ (M : me_M) (y2 : Int32) (y3 : Int64) (y5 : Int64) (y7 : Int64) (y9 : Int64) (y11 : Int32) (H : Heap) (locs : List Loc) (ls : Array Slot), k86 M y2 y3 y5 y7 y9 y11 = (some MZ) → (y2 = 1 ∨ y2 = 0) → me_wf N M → me_kp M0 M → va_P D classes (me_W ad ca M) H → va_D A (me_W ad ca M) → va_S A s.heap H locs → lv_has ls 12 [(0, .ref (ad 1 j0)), (1, .int x1), (2, .int y2), (3, .long y3), (5, .long y5), (7, .long y7), (9, .long y9), (11, .int y11)] → W p l e rm_M_narrow s m [.ref (ad 1 j0), .int x1].toArray below meth c H locs 0 0 (MQ below (q_M_narrow D ad ca N M0 MZ A) [.ref (ad 1 j0), .int x1].toArray s rm_M_narrow.cells rm_M_narrow.slots A) (F0 m 86 ls [])), ∀ (M : me_M) (y2 : Int32) (y3 : Int64) (y5 : Int64) (y7 : Int64) (y9 : Int64) (y11 : Int32) (s0 : Int32) (s1 : Nat) (H : Heap) (locs : List Loc) (ls : Array Slot), f_M_narrow_b175 k86 j0 x1 M y2 y3 y5 y7 y9 y11 s0 s1 = (some MZ) → (y2 = 1 ∨ y2 = 0) → (s1 < N 16) → me_wf N M → me_kp M0 M → va_P D classes (me_W ad ca M) H → va_D A (me_W ad ca M) → va_S A s.heap H locs → lv_has ls 12 [(0, .ref (ad 1 j0)), (1, .int x1), (2, .int y2), (3, .long y3), (5, .long y5), (7, .long y7), (9, .long y9), (11, .int y11)] → W p l e rm_M_narrow s m [.ref (ad 1 j0), .int x1].toArray below meth c H locs 0 0 (MQ below (q_M_narrow D ad ca N M0 MZ A) [.ref (ad 1 j0), .int x1].toArray s rm_M_narrow.cells rm_M_narrow.slots A) (F0 m 175 ls [.int s0, .ref (ad 16 s1)]) := by
    intro k86 hk86 M y2 y3 y5 y7 y9 y11 s0 s1 H locs ls h zy2 hs1 hwf hkp hP hD hS hl
    unfold f_M_narrow_b175 at h
    have hkb := hkp
    refine lv_ldc2 hx hb hown (hts _ u_2019) d_M_narrow_175 ?_
    exact b_178 _ hk86 M y2 y3 y5 y7 y9 y11 (4294967295 : Int64) s0 s1 _ _ _ h zy2 hs1 hwf hkp hP hD hS (lv_sub hl [0, 1, 2, 3, 4, 5, 6, 7] rfl)
  have b_151 : ∀ (k86 : me_M → Int32 → Int64 → Int64 → Int64 → Int64 → Int32 → Option me_M) (hk86 : ∀ (M : me_M) (y2 : Int32) (y3 : Int64) (y5 : Int64) (y7 : Int64) (y9 : Int64) (y11 : Int32) (H : Heap) (locs : List Loc) (ls : Array Slot), k86 M y2 y3 y5 y7 y9 y11 = (some MZ) → (y2 = 1 ∨ y2 = 0) → me_wf N M → me_kp M0 M → va_P D classes (me_W ad ca M) H → va_D A (me_W ad ca M) → va_S A s.heap H locs → lv_has ls 12 [(0, .ref (ad 1 j0)), (1, .int x1), (2, .int y2), (3, .long y3), (5, .long y5), (7, .long y7), (9, .long y9), (11, .int y11)] → W p l e rm_M_narrow s m [.ref (ad 1 j0), .int x1].toArray below meth c H locs 0 0 (MQ below (q_M_narrow D ad ca N M0 MZ A) [.ref (ad 1 j0), .int x1].toArray s rm_M_narrow.cells rm_M_narrow.slots A) (F0 m 86 ls [])), ∀ (M : me_M) (y2 : Int32) (y3 : Int64) (y5 : Int64) (y7 : Int64) (y9 : Int64) (y11 : Int32) (s0 : Int64) (s1 : Int32) (s2 : Nat) (H : Heap) (locs : List Loc) (ls : Array Slot), f_M_narrow_b151 k86 j0 x1 M y2 y3 y5 y7 y9 y11 s0 s1 s2 = (some MZ) → (y2 = 1 ∨ y2 = 0) → (s2 < N 16) → me_wf N M → me_kp M0 M → va_P D classes (me_W ad ca M) H → va_D A (me_W ad ca M) → va_S A s.heap H locs → lv_has ls 12 [(0, .ref (ad 1 j0)), (1, .int x1), (2, .int y2), (3, .long y3), (5, .long y5), (7, .long y7), (9, .long y9), (11, .int y11)] → W p l e rm_M_narrow s m [.ref (ad 1 j0), .int x1].toArray below meth c H locs 0 0 (MQ below (q_M_narrow D ad ca N M0 MZ A) [.ref (ad 1 j0), .int x1].toArray s rm_M_narrow.cells rm_M_narrow.slots A) (F0 m 151 ls [.long s0, .int s1, .ref (ad 16 s2)]) := by
    intro k86 hk86 M y2 y3 y5 y7 y9 y11 s0 s1 s2 H locs ls h zy2 hs2 hwf hkp hP hD hS hl
    unfold f_M_narrow_b151 at h
    have hkb := hkp
    obtain ⟨g14, h⟩ := gd_ob h
    obtain ⟨M15, eM15, h⟩ := st_ob h
    refine me_last eM15 hx hb hK hP hD hwf hS hs2 g14 d_M_narrow_151 (fun H locs hP hD hwf hS => ?_)
    have hkp := kp_L eM15 hkp
    refine lv_aload_n hx hb d_M_narrow_152 rfl (lv_at hl 0 rfl) ?_
    refine g_M_55 hx hb hts hown hK hP hwf hj0 (hts _ u_1796) d_M_narrow_153 ?_
    obtain ⟨j16, e17, h⟩ := bd_ob h
    have hj16 : j16 < N 16 := (hwf.2.1 1 j0 55 _ (kp_r hkb hkp e17) (by decide) hj0)
    refine me_opt (j := j16) (kp_r hkb hkp e17) ?_
    refine lv_iload_n hx hb d_M_narrow_156 rfl (lv_at hl 1 rfl) ?_
    refine lv_iload hx hb d_M_narrow_157 (lv_at hl 7 rfl) ?_
    refine lv_if_ne (tgt := 175) hx hb d_M_narrow_159 (by decide) (fun c18 => ?_) (fun c18 => ?_)
    · have h := if_f c18 h
      exact b_175 _ hk86 M15 y2 y3 y5 y7 y9 y11 x1 j16 _ _ _ h zy2 hj16 hwf hkp hP hD hS (lv_sub hl [0, 1, 2, 3, 4, 5, 6, 7] rfl)
    have h := if_t c18 h
    refine lv_iload_n hx hb d_M_narrow_162 rfl (lv_at hl 2 rfl) ?_
    refine lv_if_eq (tgt := 175) hx hb d_M_narrow_163 (by decide) (fun c19 => ?_) (fun c19 => ?_)
    · have h := if_t c19 h
      exact b_175 _ hk86 M15 y2 y3 y5 y7 y9 y11 x1 j16 _ _ _ h zy2 hj16 hwf hkp hP hD hS (lv_sub hl [0, 1, 2, 3, 4, 5, 6, 7] rfl)
    have h := if_f c19 h
    refine lv_lload hx hb d_M_narrow_166 (lv_at hl 4 rfl) ?_
    refine lv_ldc2 hx hb hown (hts _ u_2019) d_M_narrow_168 ?_
    refine lv_land hx hb d_M_narrow_171 ?_
    refine lv_goto (tgt := 178) hx hb d_M_narrow_172 (by decide) ?_
    exact b_178 _ hk86 M15 y2 y3 y5 y7 y9 y11 (y5 &&& 4294967295) x1 j16 _ _ _ h zy2 hj16 hwf hkp hP hD hS (lv_sub hl [0, 1, 2, 3, 4, 5, 6, 7] rfl)
  have b_150 : ∀ (k86 : me_M → Int32 → Int64 → Int64 → Int64 → Int64 → Int32 → Option me_M) (hk86 : ∀ (M : me_M) (y2 : Int32) (y3 : Int64) (y5 : Int64) (y7 : Int64) (y9 : Int64) (y11 : Int32) (H : Heap) (locs : List Loc) (ls : Array Slot), k86 M y2 y3 y5 y7 y9 y11 = (some MZ) → (y2 = 1 ∨ y2 = 0) → me_wf N M → me_kp M0 M → va_P D classes (me_W ad ca M) H → va_D A (me_W ad ca M) → va_S A s.heap H locs → lv_has ls 12 [(0, .ref (ad 1 j0)), (1, .int x1), (2, .int y2), (3, .long y3), (5, .long y5), (7, .long y7), (9, .long y9), (11, .int y11)] → W p l e rm_M_narrow s m [.ref (ad 1 j0), .int x1].toArray below meth c H locs 0 0 (MQ below (q_M_narrow D ad ca N M0 MZ A) [.ref (ad 1 j0), .int x1].toArray s rm_M_narrow.cells rm_M_narrow.slots A) (F0 m 86 ls [])), ∀ (M : me_M) (y2 : Int32) (y3 : Int64) (y5 : Int64) (y7 : Int64) (y9 : Int64) (y11 : Int32) (s0 : Int32) (s1 : Nat) (H : Heap) (locs : List Loc) (ls : Array Slot), f_M_narrow_b150 k86 j0 x1 M y2 y3 y5 y7 y9 y11 s0 s1 = (some MZ) → (y2 = 1 ∨ y2 = 0) → (s1 < N 16) → me_wf N M → me_kp M0 M → va_P D classes (me_W ad ca M) H → va_D A (me_W ad ca M) → va_S A s.heap H locs → lv_has ls 12 [(0, .ref (ad 1 j0)), (1, .int x1), (2, .int y2), (3, .long y3), (5, .long y5), (7, .long y7), (9, .long y9), (11, .int y11)] → W p l e rm_M_narrow s m [.ref (ad 1 j0), .int x1].toArray below meth c H locs 0 0 (MQ below (q_M_narrow D ad ca N M0 MZ A) [.ref (ad 1 j0), .int x1].toArray s rm_M_narrow.cells rm_M_narrow.slots A) (F0 m 150 ls [.int s0, .ref (ad 16 s1)]) := by
    intro k86 hk86 M y2 y3 y5 y7 y9 y11 s0 s1 H locs ls h zy2 hs1 hwf hkp hP hD hS hl
    unfold f_M_narrow_b150 at h
    have hkb := hkp
    refine lv_lconst (v := 0) hx hb d_M_narrow_150 (by decide) ?_
    exact b_151 _ hk86 M y2 y3 y5 y7 y9 y11 (0 : Int64) s0 s1 _ _ _ h zy2 hs1 hwf hkp hP hD hS (lv_sub hl [0, 1, 2, 3, 4, 5, 6, 7] rfl)
  have b_127 : ∀ (k86 : me_M → Int32 → Int64 → Int64 → Int64 → Int64 → Int32 → Option me_M) (hk86 : ∀ (M : me_M) (y2 : Int32) (y3 : Int64) (y5 : Int64) (y7 : Int64) (y9 : Int64) (y11 : Int32) (H : Heap) (locs : List Loc) (ls : Array Slot), k86 M y2 y3 y5 y7 y9 y11 = (some MZ) → (y2 = 1 ∨ y2 = 0) → me_wf N M → me_kp M0 M → va_P D classes (me_W ad ca M) H → va_D A (me_W ad ca M) → va_S A s.heap H locs → lv_has ls 12 [(0, .ref (ad 1 j0)), (1, .int x1), (2, .int y2), (3, .long y3), (5, .long y5), (7, .long y7), (9, .long y9), (11, .int y11)] → W p l e rm_M_narrow s m [.ref (ad 1 j0), .int x1].toArray below meth c H locs 0 0 (MQ below (q_M_narrow D ad ca N M0 MZ A) [.ref (ad 1 j0), .int x1].toArray s rm_M_narrow.cells rm_M_narrow.slots A) (F0 m 86 ls [])), ∀ (M : me_M) (y2 : Int32) (y3 : Int64) (y5 : Int64) (y7 : Int64) (y9 : Int64) (y11 : Int32) (s0 : Int64) (s1 : Int32) (s2 : Nat) (H : Heap) (locs : List Loc) (ls : Array Slot), f_M_narrow_b127 k86 j0 x1 M y2 y3 y5 y7 y9 y11 s0 s1 s2 = (some MZ) → (y2 = 1 ∨ y2 = 0) → (s2 < N 16) → me_wf N M → me_kp M0 M → va_P D classes (me_W ad ca M) H → va_D A (me_W ad ca M) → va_S A s.heap H locs → lv_has ls 12 [(0, .ref (ad 1 j0)), (1, .int x1), (2, .int y2), (3, .long y3), (5, .long y5), (7, .long y7), (9, .long y9), (11, .int y11)] → W p l e rm_M_narrow s m [.ref (ad 1 j0), .int x1].toArray below meth c H locs 0 0 (MQ below (q_M_narrow D ad ca N M0 MZ A) [.ref (ad 1 j0), .int x1].toArray s rm_M_narrow.cells rm_M_narrow.slots A) (F0 m 127 ls [.long s0, .int s1, .ref (ad 16 s2)]) := by
    intro k86 hk86 M y2 y3 y5 y7 y9 y11 s0 s1 s2 H locs ls h zy2 hs2 hwf hkp hP hD hS hl
    unfold f_M_narrow_b127 at h
    have hkb := hkp
    obtain ⟨g20, h⟩ := gd_ob h
    obtain ⟨M21, eM21, h⟩ := st_ob h
    refine me_last eM21 hx hb hK hP hD hwf hS hs2 g20 d_M_narrow_127 (fun H locs hP hD hwf hS => ?_)
    have hkp := kp_L eM21 hkp
    refine lv_aload_n hx hb d_M_narrow_128 rfl (lv_at hl 0 rfl) ?_
    refine g_M_54 hx hb hts hown hK hP hwf hj0 (hts _ u_1795) d_M_narrow_129 ?_
    obtain ⟨j22, e23, h⟩ := bd_ob h
    have hj22 : j22 < N 16 := (hwf.2.1 1 j0 54 _ (kp_r hkb hkp e23) (by decide) hj0)
    refine me_opt (j := j22) (kp_r hkb hkp e23) ?_
    refine lv_iload_n hx hb d_M_narrow_132 rfl (lv_at hl 1 rfl) ?_
    refine lv_iload hx hb d_M_narrow_133 (lv_at hl 7 rfl) ?_
    refine lv_if_ne (tgt := 150) hx hb d_M_narrow_135 (by decide) (fun c24 => ?_) (fun c24 => ?_)
    · have h := if_f c24 h
      exact b_150 _ hk86 M21 y2 y3 y5 y7 y9 y11 x1 j22 _ _ _ h zy2 hj22 hwf hkp hP hD hS (lv_sub hl [0, 1, 2, 3, 4, 5, 6, 7] rfl)
    have h := if_t c24 h
    refine lv_iload_n hx hb d_M_narrow_138 rfl (lv_at hl 2 rfl) ?_
    refine lv_if_eq (tgt := 150) hx hb d_M_narrow_139 (by decide) (fun c25 => ?_) (fun c25 => ?_)
    · have h := if_t c25 h
      exact b_150 _ hk86 M21 y2 y3 y5 y7 y9 y11 x1 j22 _ _ _ h zy2 hj22 hwf hkp hP hD hS (lv_sub hl [0, 1, 2, 3, 4, 5, 6, 7] rfl)
    have h := if_f c25 h
    refine lv_lload_n hx hb d_M_narrow_142 rfl (lv_at hl 3 rfl) ?_
    refine lv_ldc2 hx hb hown (hts _ u_2019) d_M_narrow_143 ?_
    refine lv_land hx hb d_M_narrow_146 ?_
    refine lv_goto (tgt := 151) hx hb d_M_narrow_147 (by decide) ?_
    exact b_151 _ hk86 M21 y2 y3 y5 y7 y9 y11 (y3 &&& 4294967295) x1 j22 _ _ _ h zy2 hj22 hwf hkp hP hD hS (lv_sub hl [0, 1, 2, 3, 4, 5, 6, 7] rfl)
  have b_108 : ∀ (k86 : me_M → Int32 → Int64 → Int64 → Int64 → Int64 → Int32 → Option me_M) (hk86 : ∀ (M : me_M) (y2 : Int32) (y3 : Int64) (y5 : Int64) (y7 : Int64) (y9 : Int64) (y11 : Int32) (H : Heap) (locs : List Loc) (ls : Array Slot), k86 M y2 y3 y5 y7 y9 y11 = (some MZ) → (y2 = 1 ∨ y2 = 0) → me_wf N M → me_kp M0 M → va_P D classes (me_W ad ca M) H → va_D A (me_W ad ca M) → va_S A s.heap H locs → lv_has ls 12 [(0, .ref (ad 1 j0)), (1, .int x1), (2, .int y2), (3, .long y3), (5, .long y5), (7, .long y7), (9, .long y9), (11, .int y11)] → W p l e rm_M_narrow s m [.ref (ad 1 j0), .int x1].toArray below meth c H locs 0 0 (MQ below (q_M_narrow D ad ca N M0 MZ A) [.ref (ad 1 j0), .int x1].toArray s rm_M_narrow.cells rm_M_narrow.slots A) (F0 m 86 ls [])), ∀ (M : me_M) (y2 : Int32) (y3 : Int64) (y5 : Int64) (y7 : Int64) (y9 : Int64) (y11 : Int32) (s0 : Int64) (s1 : Int32) (s2 : Nat) (H : Heap) (locs : List Loc) (ls : Array Slot), f_M_narrow_b108 k86 j0 x1 M y2 y3 y5 y7 y9 y11 s0 s1 s2 = (some MZ) → (y2 = 1 ∨ y2 = 0) → (s2 < N 16) → me_wf N M → me_kp M0 M → va_P D classes (me_W ad ca M) H → va_D A (me_W ad ca M) → va_S A s.heap H locs → lv_has ls 12 [(0, .ref (ad 1 j0)), (1, .int x1), (2, .int y2), (3, .long y3), (5, .long y5), (7, .long y7), (9, .long y9), (11, .int y11)] → W p l e rm_M_narrow s m [.ref (ad 1 j0), .int x1].toArray below meth c H locs 0 0 (MQ below (q_M_narrow D ad ca N M0 MZ A) [.ref (ad 1 j0), .int x1].toArray s rm_M_narrow.cells rm_M_narrow.slots A) (F0 m 108 ls [.long s0, .int s1, .ref (ad 16 s2)]) := by
    intro k86 hk86 M y2 y3 y5 y7 y9 y11 s0 s1 s2 H locs ls h zy2 hs2 hwf hkp hP hD hS hl
    unfold f_M_narrow_b108 at h
    have hkb := hkp
    obtain ⟨g26, h⟩ := gd_ob h
    obtain ⟨M27, eM27, h⟩ := st_ob h
    refine me_last eM27 hx hb hK hP hD hwf hS hs2 g26 d_M_narrow_108 (fun H locs hP hD hwf hS => ?_)
    have hkp := kp_L eM27 hkp
    refine lv_aload_n hx hb d_M_narrow_109 rfl (lv_at hl 0 rfl) ?_
    refine g_M_53 hx hb hts hown hK hP hwf hj0 (hts _ u_1794) d_M_narrow_110 ?_
    obtain ⟨j28, e29, h⟩ := bd_ob h
    have hj28 : j28 < N 16 := (hwf.2.1 1 j0 53 _ (kp_r hkb hkp e29) (by decide) hj0)
    refine me_opt (j := j28) (kp_r hkb hkp e29) ?_
    refine lv_iload_n hx hb d_M_narrow_113 rfl (lv_at hl 1 rfl) ?_
    refine lv_iload hx hb d_M_narrow_114 (lv_at hl 7 rfl) ?_
    refine lv_if_ne (tgt := 124) hx hb d_M_narrow_116 (by decide) (fun c30 => ?_) (fun c30 => ?_)
    · have h := if_f c30 h
      refine lv_ldc2 hx hb hown (hts _ u_2019) d_M_narrow_124 ?_
      exact b_127 _ hk86 M27 y2 y3 y5 y7 y9 y11 (4294967295 : Int64) x1 j28 _ _ _ h zy2 hj28 hwf hkp hP hD hS (lv_sub hl [0, 1, 2, 3, 4, 5, 6, 7] rfl)
    have h := if_t c30 h
    refine lv_lload hx hb d_M_narrow_119 (lv_at hl 6 rfl) ?_
    refine lv_goto (tgt := 127) hx hb d_M_narrow_121 (by decide) ?_
    exact b_127 _ hk86 M27 y2 y3 y5 y7 y9 y11 y9 x1 j28 _ _ _ h zy2 hj28 hwf hkp hP hD hS (lv_sub hl [0, 1, 2, 3, 4, 5, 6, 7] rfl)
  have b_86 : ∀ (fu : Nat), ∀ (M : me_M) (y2 : Int32) (y3 : Int64) (y5 : Int64) (y7 : Int64) (y9 : Int64) (y11 : Int32) (H : Heap) (locs : List Loc) (ls : Array Slot), f_M_narrow_l86 j0 x1 fu M y2 y3 y5 y7 y9 y11 = (some MZ) → (y2 = 1 ∨ y2 = 0) → me_wf N M → me_kp M0 M → va_P D classes (me_W ad ca M) H → va_D A (me_W ad ca M) → va_S A s.heap H locs → lv_has ls 12 [(0, .ref (ad 1 j0)), (1, .int x1), (2, .int y2), (3, .long y3), (5, .long y5), (7, .long y7), (9, .long y9), (11, .int y11)] → W p l e rm_M_narrow s m [.ref (ad 1 j0), .int x1].toArray below meth c H locs 0 0 (MQ below (q_M_narrow D ad ca N M0 MZ A) [.ref (ad 1 j0), .int x1].toArray s rm_M_narrow.cells rm_M_narrow.slots A) (F0 m 86 ls []) := by
    intro fu
    induction fu with
    | zero =>
      intro M y2 y3 y5 y7 y9 y11 H locs ls h zy2 hwf hkp hP hD hS hl
      cases h
    | succ fu ih =>
      intro M y2 y3 y5 y7 y9 y11 H locs ls h zy2 hwf hkp hP hD hS hl
      unfold f_M_narrow_l86 at h
      have hkb := hkp
      refine lv_iload hx hb d_M_narrow_86 (lv_at hl 7 rfl) ?_
      refine lv_iconst (v := 2) hx hb d_M_narrow_88 (by decide) ?_
      refine lv_icmp_ge (tgt := 210) hx hb d_M_narrow_89 (by decide) (fun c31 => ?_) (fun c31 => ?_)
      · have h := if_t c31 h
        exact me_retv (me_kp M0) h hx hb hr hlocks hwf hkp hP hK hD hS d_M_narrow_210
      have h := if_f c31 h
      refine lv_aload_n hx hb d_M_narrow_92 rfl (lv_at hl 0 rfl) ?_
      refine g_M_52 hx hb hts hown hK hP hwf hj0 (hts _ u_1793) d_M_narrow_93 ?_
      obtain ⟨j32, e33, h⟩ := bd_ob h
      have hj32 : j32 < N 16 := (hwf.2.1 1 j0 52 _ e33 (by decide) hj0)
      refine me_opt (j := j32) e33 ?_
      refine lv_iload_n hx hb d_M_narrow_96 rfl (lv_at hl 1 rfl) ?_
      refine lv_iload hx hb d_M_narrow_97 (lv_at hl 7 rfl) ?_
      refine lv_if_ne (tgt := 107) hx hb d_M_narrow_99 (by decide) (fun c34 => ?_) (fun c34 => ?_)
      · have h := if_f c34 h
        refine lv_lconst (v := 0) hx hb d_M_narrow_107 (by decide) ?_
        exact b_108 _ ih M y2 y3 y5 y7 y9 y11 (0 : Int64) x1 j32 _ _ _ h zy2 hj32 hwf hkp hP hD hS (lv_sub hl [0, 1, 2, 3, 4, 5, 6, 7] rfl)
      have h := if_t c34 h
      refine lv_lload hx hb d_M_narrow_102 (lv_at hl 5 rfl) ?_
      refine lv_goto (tgt := 108) hx hb d_M_narrow_104 (by decide) ?_
      exact b_108 _ ih M y2 y3 y5 y7 y9 y11 y7 x1 j32 _ _ _ h zy2 hj32 hwf hkp hP hD hS (lv_sub hl [0, 1, 2, 3, 4, 5, 6, 7] rfl)
  have b_43 : ∀ (M : me_M) (s0 : Int32) (H : Heap) (locs : List Loc) (ls : Array Slot), f_M_narrow_b43 j0 x1 M s0 = (some MZ) → (s0 = 1 ∨ s0 = 0) → me_wf N M → me_kp M0 M → va_P D classes (me_W ad ca M) H → va_D A (me_W ad ca M) → va_S A s.heap H locs → lv_has ls 12 [(0, .ref (ad 1 j0)), (1, .int x1)] → W p l e rm_M_narrow s m [.ref (ad 1 j0), .int x1].toArray below meth c H locs 0 0 (MQ below (q_M_narrow D ad ca N M0 MZ A) [.ref (ad 1 j0), .int x1].toArray s rm_M_narrow.cells rm_M_narrow.slots A) (F0 m 43 ls [.int s0]) := by
    intro M s0 H locs ls h zs0 hwf hkp hP hD hS hl
    unfold f_M_narrow_b43 at h
    have hkb := hkp
    refine lv_istore_n (lv' := [(2, .int s0), (0, .ref (ad 1 j0)), (1, .int x1)]) hx hb d_M_narrow_43 rfl hl (by decide) rfl (fun ls hl => ?_)
    refine lv_aload_n hx hb d_M_narrow_44 rfl (lv_at hl 1 rfl) ?_
    refine g_M_54 hx hb hts hown hK hP hwf hj0 (hts _ u_1795) d_M_narrow_45 ?_
    obtain ⟨j35, e36, h⟩ := bd_ob h
    have hj35 : j35 < N 16 := (hwf.2.1 1 j0 54 _ e36 (by decide) hj0)
    refine me_opt (j := j35) e36 ?_
    refine lv_iload_n hx hb d_M_narrow_48 rfl (lv_at hl 2 rfl) ?_
    obtain ⟨g37, h⟩ := gd_ob h
    refine me_lald hx hb hK hP hwf hj35 g37 d_M_narrow_49 ?_
    obtain ⟨v38, ev38, h⟩ := st_ob h
    refine fg_topl (y := v38) ev38.symm ?_
    refine lv_lstore_n (lv' := [(3, .long v38), (2, .int s0), (0, .ref (ad 1 j0)), (1, .int x1)]) hx hb d_M_narrow_50 rfl hl (by decide) rfl (fun ls hl => ?_)
    refine lv_aload_n hx hb d_M_narrow_51 rfl (lv_at hl 2 rfl) ?_
    refine g_M_55 hx hb hts hown hK hP hwf hj0 (hts _ u_1796) d_M_narrow_52 ?_
    obtain ⟨j39, e40, h⟩ := bd_ob h
    have hj39 : j39 < N 16 := (hwf.2.1 1 j0 55 _ e40 (by decide) hj0)
    refine me_opt (j := j39) e40 ?_
    refine lv_iload_n hx hb d_M_narrow_55 rfl (lv_at hl 3 rfl) ?_
    obtain ⟨g41, h⟩ := gd_ob h
    refine me_lald hx hb hK hP hwf hj39 g41 d_M_narrow_56 ?_
    obtain ⟨v42, ev42, h⟩ := st_ob h
    refine fg_topl (y := v42) ev42.symm ?_
    refine lv_lstore (lv' := [(5, .long v42), (3, .long v38), (2, .int s0), (0, .ref (ad 1 j0)), (1, .int x1)]) hx hb d_M_narrow_57 hl (by decide) rfl (fun ls hl => ?_)
    refine lv_aload_n hx hb d_M_narrow_59 rfl (lv_at hl 3 rfl) ?_
    refine g_M_52 hx hb hts hown hK hP hwf hj0 (hts _ u_1793) d_M_narrow_60 ?_
    obtain ⟨j43, e44, h⟩ := bd_ob h
    have hj43 : j43 < N 16 := (hwf.2.1 1 j0 52 _ e44 (by decide) hj0)
    refine me_opt (j := j43) e44 ?_
    refine lv_iload_n hx hb d_M_narrow_63 rfl (lv_at hl 4 rfl) ?_
    obtain ⟨g45, h⟩ := gd_ob h
    refine me_lald hx hb hK hP hwf hj43 g45 d_M_narrow_64 ?_
    refine lv_ldc2 hx hb hown (hts _ u_2019) d_M_narrow_65 ?_
    refine lv_land hx hb d_M_narrow_68 ?_
    obtain ⟨v46, ev46, h⟩ := st_ob h
    refine fg_topl (y := v46) ev46.symm ?_
    refine lv_lstore (lv' := [(7, .long v46), (5, .long v42), (3, .long v38), (2, .int s0), (0, .ref (ad 1 j0)), (1, .int x1)]) hx hb d_M_narrow_69 hl (by decide) rfl (fun ls hl => ?_)
    refine lv_aload_n hx hb d_M_narrow_71 rfl (lv_at hl 4 rfl) ?_
    refine g_M_53 hx hb hts hown hK hP hwf hj0 (hts _ u_1794) d_M_narrow_72 ?_
    obtain ⟨j47, e48, h⟩ := bd_ob h
    have hj47 : j47 < N 16 := (hwf.2.1 1 j0 53 _ e48 (by decide) hj0)
    refine me_opt (j := j47) e48 ?_
    refine lv_iload_n hx hb d_M_narrow_75 rfl (lv_at hl 5 rfl) ?_
    obtain ⟨g49, h⟩ := gd_ob h
    refine me_lald hx hb hK hP hwf hj47 g49 d_M_narrow_76 ?_
    refine lv_ldc2 hx hb hown (hts _ u_2019) d_M_narrow_77 ?_
    refine lv_land hx hb d_M_narrow_80 ?_
    obtain ⟨v50, ev50, h⟩ := st_ob h
    refine fg_topl (y := v50) ev50.symm ?_
    refine lv_lstore (lv' := [(9, .long v50), (7, .long v46), (5, .long v42), (3, .long v38), (2, .int s0), (0, .ref (ad 1 j0)), (1, .int x1)]) hx hb d_M_narrow_81 hl (by decide) rfl (fun ls hl => ?_)
    refine lv_iconst (v := 0) hx hb d_M_narrow_83 (by decide) ?_
    refine lv_istore (lv' := [(11, .int 0), (9, .long v50), (7, .long v46), (5, .long v42), (3, .long v38), (2, .int s0), (0, .ref (ad 1 j0)), (1, .int x1)]) hx hb d_M_narrow_84 hl (by decide) rfl (fun ls hl => ?_)
    exact b_86 _ M s0 v38 v42 v46 v50 (0 : Int32) _ _ _ h zs0 hwf hkp hP hD hS (lv_sub hl [6, 7, 5, 4, 3, 2, 1, 0] rfl)
  refine lv_ldc2 hx hb hown (hts _ u_2019) d_M_narrow_0 ?_
  refine lv_aload_n hx hb d_M_narrow_3 rfl (lv_at hl 0 rfl) ?_
  refine g_M_55 hx hb hts hown hK hP hwf hj0 (hts _ u_1796) d_M_narrow_4 ?_
  obtain ⟨j51, e52, h⟩ := bd_ob h
  have hj51 : j51 < N 16 := (hwf.2.1 1 j0 55 _ e52 (by decide) hj0)
  refine me_opt (j := j51) e52 ?_
  refine lv_iload_n hx hb d_M_narrow_7 rfl (lv_at hl 1 rfl) ?_
  obtain ⟨g53, h⟩ := gd_ob h
  refine me_lald hx hb hK hP hwf hj51 g53 d_M_narrow_8 ?_
  obtain ⟨r54, er54, h⟩ := bd_ob h
  refine me_pani' (r0 := r54) (fg_runS (wc := []) (tc := []) (A2 := A) (As := [.long 4294967295, .long (mL M0 16 j51 x1.toNatClampNeg)]) (rest := []) ⟨hx, hb, hml, hown, hts⟩ (c_M_below l D r54 (4294967295 : Int64) (mL M0 16 j51 x1.toNatClampNeg) er54 _) (by show fg_nm y_M_below 2; decide +kernel) u_2072 u_2073 u_192 u_2074 ⟨Nat.le_of_ble_eq_true rfl, Nat.le_of_ble_eq_true rfl⟩ hX me_P0 (hK.sub (tys' := []) [] rfl) me_D0 rfl hl.1 (Nat.le_of_ble_eq_true rfl) d_M_narrow_9 ⟨Nat.le_of_ble_eq_true rfl, Nat.le_of_ble_eq_true rfl⟩) hP hD hK hS hA rfl rfl (fun H locs hw hP hD hS => ?_)
  have zr54 := hw
  refine lv_if_ne (tgt := 16) hx hb d_M_narrow_12 (by decide) (fun c55 => ?_) (fun c55 => ?_)
  · have h := if_f c55 h
    refine lv_aload_n hx hb d_M_narrow_16 rfl (lv_at hl 0 rfl) ?_
    refine g_M_54 hx hb hts hown hK hP hwf hj0 (hts _ u_1795) d_M_narrow_17 ?_
    obtain ⟨j56, e57, h⟩ := bd_ob h
    have hj56 : j56 < N 16 := (hwf.2.1 1 j0 54 _ e57 (by decide) hj0)
    refine me_opt (j := j56) e57 ?_
    refine lv_iload_n hx hb d_M_narrow_20 rfl (lv_at hl 1 rfl) ?_
    obtain ⟨g58, h⟩ := gd_ob h
    refine me_lald hx hb hK hP hwf hj56 g58 d_M_narrow_21 ?_
    refine lv_bipush (v := 32) hx hb d_M_narrow_22 (by decide) ?_
    refine lv_lushr (v := jlushr (mL M0 16 j56 x1.toNatClampNeg) (32 : Int32)) hx hb d_M_narrow_24 rfl ?_
    refine lv_aload_n hx hb d_M_narrow_25 rfl (lv_at hl 0 rfl) ?_
    refine g_M_55 hx hb hts hown hK hP hwf hj0 (hts _ u_1796) d_M_narrow_26 ?_
    refine me_opt (j := j51) e52 ?_
    refine lv_iload_n hx hb d_M_narrow_29 rfl (lv_at hl 1 rfl) ?_
    refine me_lald hx hb hK hP hwf hj51 g53 d_M_narrow_30 ?_
    refine lv_bipush (v := 32) hx hb d_M_narrow_31 (by decide) ?_
    refine lv_lushr (v := jlushr (mL M0 16 j51 x1.toNatClampNeg) (32 : Int32)) hx hb d_M_narrow_33 rfl ?_
    refine W.lcmp hx hb d_M_narrow_34 ?_
    refine lv_if_ne (tgt := 42) hx hb d_M_narrow_35 (by decide) (fun c59 => ?_) (fun c59 => ?_)
    · have h := if_f (fun z => c59 ((lg_cmp_eq _ _).mpr z)) h
      refine lv_iconst (v := 0) hx hb d_M_narrow_42 (by decide) ?_
      exact b_43 M0 (0 : Int32) _ _ _ h (by decide) hwf hkp hP hD hS (lv_sub hl [0, 1] rfl)
    have h := if_t ((lg_cmp_eq _ _).mp c59) h
    refine lv_iconst (v := 1) hx hb d_M_narrow_38 (by decide) ?_
    refine lv_goto (tgt := 43) hx hb d_M_narrow_39 (by decide) ?_
    exact b_43 M0 (1 : Int32) _ _ _ h (by decide) hwf hkp hP hD hS (lv_sub hl [0, 1] rfl)
  have h := if_t c55 h
  exact me_retv (me_kp M0) h hx hb hr hlocks hwf hkp hP hK hD hS d_M_narrow_15
theorem d_M_orders_130 : decode prog_14_method_33_code 130 = .ok (.lastore, 1) := by decide +kernel
theorem d_M_orders_131 : decode prog_14_method_33_code 131 = .ok (.aload_n 0, 1) := by decide +kernel
theorem d_M_orders_132 : decode prog_14_method_33_code 132 = .ok (.getfield 119, 3) := by decide +kernel
theorem d_M_orders_135 : decode prog_14_method_33_code 135 = .ok (.iload_n 2, 1) := by decide +kernel
theorem d_M_orders_136 : decode prog_14_method_33_code 136 = .ok (.aload_n 0, 1) := by decide +kernel
theorem d_M_orders_137 : decode prog_14_method_33_code 137 = .ok (.getfield 119, 3) := by decide +kernel
theorem d_M_orders_140 : decode prog_14_method_33_code 140 = .ok (.iload_n 2, 1) := by decide +kernel
theorem d_M_orders_141 : decode prog_14_method_33_code 141 = .ok (.laload, 1) := by decide +kernel
theorem d_M_orders_142 : decode prog_14_method_33_code 142 = .ok (.lload 9, 2) := by decide +kernel
theorem d_M_orders_144 : decode prog_14_method_33_code 144 = .ok (.lcmp, 1) := by decide +kernel
theorem d_M_orders_145 : decode prog_14_method_33_code 145 = .ok (.ifCond .ge 12, 3) := by decide +kernel
theorem d_M_orders_157 : decode prog_14_method_33_code 157 = .ok (.lload 9, 2) := by decide +kernel
theorem d_M_orders_159 : decode prog_14_method_33_code 159 = .ok (.lastore, 1) := by decide +kernel
theorem d_M_orders_160 : decode prog_14_method_33_code 160 = .ok (.goto 59, 3) := by decide +kernel
theorem d_M_orders_219 : decode prog_14_method_33_code 219 = .ok (.iconst 1, 1) := by decide +kernel
theorem d_M_orders_220 : decode prog_14_method_33_code 220 = .ok (.ireturn, 1) := by decide +kernel
theorem d_M_orders_148 : decode prog_14_method_33_code 148 = .ok (.aload_n 0, 1) := by decide +kernel
theorem d_M_orders_149 : decode prog_14_method_33_code 149 = .ok (.getfield 119, 3) := by decide +kernel
theorem d_M_orders_152 : decode prog_14_method_33_code 152 = .ok (.iload_n 2, 1) := by decide +kernel
theorem d_M_orders_153 : decode prog_14_method_33_code 153 = .ok (.laload, 1) := by decide +kernel
theorem d_M_orders_154 : decode prog_14_method_33_code 154 = .ok (.goto 5, 3) := by decide +kernel
theorem d_M_orders_73 : decode prog_14_method_33_code 73 = .ok (.lstore 5, 2) := by decide +kernel
theorem d_M_orders_75 : decode prog_14_method_33_code 75 = .ok (.iload 4, 2) := by decide +kernel
theorem d_M_orders_77 : decode prog_14_method_33_code 77 = .ok (.ifCond .eq 86, 3) := by decide +kernel
theorem d_M_orders_163 : decode prog_14_method_33_code 163 = .ok (.aload_n 0, 1) := by decide +kernel
theorem d_M_orders_164 : decode prog_14_method_33_code 164 = .ok (.getfield 110, 3) := by decide +kernel
theorem d_M_orders_167 : decode prog_14_method_33_code 167 = .ok (.iload_n 2, 1) := by decide +kernel
theorem d_M_orders_168 : decode prog_14_method_33_code 168 = .ok (.laload, 1) := by decide +kernel
theorem d_M_orders_169 : decode prog_14_method_33_code 169 = .ok (.lload 5, 2) := by decide +kernel
theorem d_M_orders_171 : decode prog_14_method_33_code 171 = .ok (.ladd, 1) := by decide +kernel
theorem d_M_orders_172 : decode prog_14_method_33_code 172 = .ok (.lstore 7, 2) := by decide +kernel
theorem d_M_orders_174 : decode prog_14_method_33_code 174 = .ok (.aload_n 0, 1) := by decide +kernel
theorem d_M_orders_175 : decode prog_14_method_33_code 175 = .ok (.getfield 113, 3) := by decide +kernel
theorem d_M_orders_178 : decode prog_14_method_33_code 178 = .ok (.iload_n 1, 1) := by decide +kernel
theorem d_M_orders_179 : decode prog_14_method_33_code 179 = .ok (.laload, 1) := by decide +kernel
theorem d_M_orders_180 : decode prog_14_method_33_code 180 = .ok (.lload 5, 2) := by decide +kernel
theorem d_M_orders_182 : decode prog_14_method_33_code 182 = .ok (.lsub, 1) := by decide +kernel
theorem d_M_orders_183 : decode prog_14_method_33_code 183 = .ok (.lstore 9, 2) := by decide +kernel
theorem d_M_orders_185 : decode prog_14_method_33_code 185 = .ok (.aload_n 0, 1) := by decide +kernel
theorem d_M_orders_186 : decode prog_14_method_33_code 186 = .ok (.getfield 110, 3) := by decide +kernel
theorem d_M_orders_189 : decode prog_14_method_33_code 189 = .ok (.iload_n 1, 1) := by decide +kernel
theorem d_M_orders_190 : decode prog_14_method_33_code 190 = .ok (.aload_n 0, 1) := by decide +kernel
theorem d_M_orders_191 : decode prog_14_method_33_code 191 = .ok (.getfield 110, 3) := by decide +kernel
theorem d_M_orders_194 : decode prog_14_method_33_code 194 = .ok (.iload_n 1, 1) := by decide +kernel
theorem d_M_orders_195 : decode prog_14_method_33_code 195 = .ok (.laload, 1) := by decide +kernel
theorem d_M_orders_196 : decode prog_14_method_33_code 196 = .ok (.lload 7, 2) := by decide +kernel
theorem d_M_orders_198 : decode prog_14_method_33_code 198 = .ok (.invokestatic 166, 3) := by decide +kernel
theorem d_M_orders_201 : decode prog_14_method_33_code 201 = .ok (.lastore, 1) := by decide +kernel
theorem d_M_orders_202 : decode prog_14_method_33_code 202 = .ok (.aload_n 0, 1) := by decide +kernel
theorem d_M_orders_203 : decode prog_14_method_33_code 203 = .ok (.getfield 113, 3) := by decide +kernel
theorem d_M_orders_206 : decode prog_14_method_33_code 206 = .ok (.iload_n 2, 1) := by decide +kernel
theorem d_M_orders_207 : decode prog_14_method_33_code 207 = .ok (.aload_n 0, 1) := by decide +kernel
theorem d_M_orders_208 : decode prog_14_method_33_code 208 = .ok (.getfield 113, 3) := by decide +kernel
theorem d_M_orders_211 : decode prog_14_method_33_code 211 = .ok (.iload_n 2, 1) := by decide +kernel
theorem d_M_orders_212 : decode prog_14_method_33_code 212 = .ok (.laload, 1) := by decide +kernel
theorem d_M_orders_213 : decode prog_14_method_33_code 213 = .ok (.lload 9, 2) := by decide +kernel
theorem d_M_orders_215 : decode prog_14_method_33_code 215 = .ok (.invokestatic 170, 3) := by decide +kernel
theorem d_M_orders_218 : decode prog_14_method_33_code 218 = .ok (.lastore, 1) := by decide +kernel
theorem d_M_orders_80 : decode prog_14_method_33_code 80 = .ok (.aload_n 0, 1) := by decide +kernel
theorem d_M_orders_81 : decode prog_14_method_33_code 81 = .ok (.getfield 116, 3) := by decide +kernel
theorem d_M_orders_84 : decode prog_14_method_33_code 84 = .ok (.iload_n 2, 1) := by decide +kernel
theorem d_M_orders_85 : decode prog_14_method_33_code 85 = .ok (.laload, 1) := by decide +kernel
theorem d_M_orders_86 : decode prog_14_method_33_code 86 = .ok (.lload 5, 2) := by decide +kernel
theorem d_M_orders_88 : decode prog_14_method_33_code 88 = .ok (.ladd, 1) := by decide +kernel
theorem d_M_orders_89 : decode prog_14_method_33_code 89 = .ok (.lstore 7, 2) := by decide +kernel
theorem d_M_orders_91 : decode prog_14_method_33_code 91 = .ok (.aload_n 0, 1) := by decide +kernel
theorem d_M_orders_92 : decode prog_14_method_33_code 92 = .ok (.getfield 119, 3) := by decide +kernel
theorem d_M_orders_95 : decode prog_14_method_33_code 95 = .ok (.iload_n 1, 1) := by decide +kernel
theorem d_M_orders_96 : decode prog_14_method_33_code 96 = .ok (.laload, 1) := by decide +kernel
theorem d_M_orders_97 : decode prog_14_method_33_code 97 = .ok (.lload 5, 2) := by decide +kernel
theorem d_M_orders_99 : decode prog_14_method_33_code 99 = .ok (.lsub, 1) := by decide +kernel
theorem d_M_orders_100 : decode prog_14_method_33_code 100 = .ok (.lstore 9, 2) := by decide +kernel
theorem d_M_orders_102 : decode prog_14_method_33_code 102 = .ok (.aload_n 0, 1) := by decide +kernel
theorem d_M_orders_103 : decode prog_14_method_33_code 103 = .ok (.getfield 116, 3) := by decide +kernel
theorem d_M_orders_106 : decode prog_14_method_33_code 106 = .ok (.iload_n 1, 1) := by decide +kernel
theorem d_M_orders_107 : decode prog_14_method_33_code 107 = .ok (.aload_n 0, 1) := by decide +kernel
theorem d_M_orders_108 : decode prog_14_method_33_code 108 = .ok (.getfield 116, 3) := by decide +kernel
theorem d_M_orders_111 : decode prog_14_method_33_code 111 = .ok (.iload_n 1, 1) := by decide +kernel
theorem d_M_orders_112 : decode prog_14_method_33_code 112 = .ok (.laload, 1) := by decide +kernel
theorem d_M_orders_113 : decode prog_14_method_33_code 113 = .ok (.lload 7, 2) := by decide +kernel
theorem d_M_orders_115 : decode prog_14_method_33_code 115 = .ok (.lcmp, 1) := by decide +kernel
theorem d_M_orders_116 : decode prog_14_method_33_code 116 = .ok (.ifCond .le 12, 3) := by decide +kernel
theorem d_M_orders_128 : decode prog_14_method_33_code 128 = .ok (.lload 7, 2) := by decide +kernel
theorem d_M_orders_119 : decode prog_14_method_33_code 119 = .ok (.aload_n 0, 1) := by decide +kernel
theorem d_M_orders_120 : decode prog_14_method_33_code 120 = .ok (.getfield 116, 3) := by decide +kernel
theorem d_M_orders_123 : decode prog_14_method_33_code 123 = .ok (.iload_n 1, 1) := by decide +kernel
theorem d_M_orders_124 : decode prog_14_method_33_code 124 = .ok (.laload, 1) := by decide +kernel
theorem d_M_orders_125 : decode prog_14_method_33_code 125 = .ok (.goto 5, 3) := by decide +kernel
theorem d_M_orders_64 : decode prog_14_method_33_code 64 = .ok (.iload_n 3, 1) := by decide +kernel
theorem d_M_orders_65 : decode prog_14_method_33_code 65 = .ok (.ifCond .eq 7, 3) := by decide +kernel
theorem d_M_orders_72 : decode prog_14_method_33_code 72 = .ok (.lconst 0, 1) := by decide +kernel
theorem d_M_orders_68 : decode prog_14_method_33_code 68 = .ok (.lconst 1, 1) := by decide +kernel
theorem d_M_orders_69 : decode prog_14_method_33_code 69 = .ok (.goto 4, 3) := by decide +kernel
theorem d_M_orders_0 : decode prog_14_method_33_code 0 = .ok (.iload_n 3, 1) := by decide +kernel
theorem d_M_orders_1 : decode prog_14_method_33_code 1 = .ok (.ifCond .eq 63, 3) := by decide +kernel
theorem d_M_orders_4 : decode prog_14_method_33_code 4 = .ok (.iload 4, 2) := by decide +kernel
theorem d_M_orders_6 : decode prog_14_method_33_code 6 = .ok (.ifCond .eq 32, 3) := by decide +kernel
theorem d_M_orders_38 : decode prog_14_method_33_code 38 = .ok (.aload_n 0, 1) := by decide +kernel
theorem d_M_orders_39 : decode prog_14_method_33_code 39 = .ok (.getfield 110, 3) := by decide +kernel
theorem d_M_orders_42 : decode prog_14_method_33_code 42 = .ok (.iload_n 2, 1) := by decide +kernel
theorem d_M_orders_43 : decode prog_14_method_33_code 43 = .ok (.laload, 1) := by decide +kernel
theorem d_M_orders_44 : decode prog_14_method_33_code 44 = .ok (.ldc2_w 162, 3) := by decide +kernel
theorem d_M_orders_47 : decode prog_14_method_33_code 47 = .ok (.lcmp, 1) := by decide +kernel
theorem d_M_orders_48 : decode prog_14_method_33_code 48 = .ok (.ifCond .eq 14, 3) := by decide +kernel
theorem d_M_orders_62 : decode prog_14_method_33_code 62 = .ok (.iconst 0, 1) := by decide +kernel
theorem d_M_orders_63 : decode prog_14_method_33_code 63 = .ok (.ireturn, 1) := by decide +kernel
theorem d_M_orders_51 : decode prog_14_method_33_code 51 = .ok (.aload_n 0, 1) := by decide +kernel
theorem d_M_orders_52 : decode prog_14_method_33_code 52 = .ok (.getfield 113, 3) := by decide +kernel
theorem d_M_orders_55 : decode prog_14_method_33_code 55 = .ok (.iload_n 1, 1) := by decide +kernel
theorem d_M_orders_56 : decode prog_14_method_33_code 56 = .ok (.laload, 1) := by decide +kernel
theorem d_M_orders_57 : decode prog_14_method_33_code 57 = .ok (.lconst 0, 1) := by decide +kernel
theorem d_M_orders_58 : decode prog_14_method_33_code 58 = .ok (.lcmp, 1) := by decide +kernel
theorem d_M_orders_59 : decode prog_14_method_33_code 59 = .ok (.ifCond .ne 5, 3) := by decide +kernel
theorem d_M_orders_9 : decode prog_14_method_33_code 9 = .ok (.aload_n 0, 1) := by decide +kernel
theorem d_M_orders_10 : decode prog_14_method_33_code 10 = .ok (.getfield 116, 3) := by decide +kernel
theorem d_M_orders_13 : decode prog_14_method_33_code 13 = .ok (.iload_n 2, 1) := by decide +kernel
theorem d_M_orders_14 : decode prog_14_method_33_code 14 = .ok (.laload, 1) := by decide +kernel
theorem d_M_orders_15 : decode prog_14_method_33_code 15 = .ok (.ldc2_w 164, 3) := by decide +kernel
theorem d_M_orders_18 : decode prog_14_method_33_code 18 = .ok (.lcmp, 1) := by decide +kernel
theorem d_M_orders_19 : decode prog_14_method_33_code 19 = .ok (.ifCond .eq 43, 3) := by decide +kernel
theorem d_M_orders_22 : decode prog_14_method_33_code 22 = .ok (.aload_n 0, 1) := by decide +kernel
theorem d_M_orders_23 : decode prog_14_method_33_code 23 = .ok (.getfield 119, 3) := by decide +kernel
theorem d_M_orders_26 : decode prog_14_method_33_code 26 = .ok (.iload_n 1, 1) := by decide +kernel
theorem d_M_orders_27 : decode prog_14_method_33_code 27 = .ok (.laload, 1) := by decide +kernel
theorem d_M_orders_28 : decode prog_14_method_33_code 28 = .ok (.ldc2_w 156, 3) := by decide +kernel
theorem d_M_orders_31 : decode prog_14_method_33_code 31 = .ok (.lcmp, 1) := by decide +kernel
theorem d_M_orders_32 : decode prog_14_method_33_code 32 = .ok (.ifCond .ne 32, 3) := by decide +kernel
theorem d_M_orders_35 : decode prog_14_method_33_code 35 = .ok (.goto 27, 3) := by decide +kernel
abbrev y_M_orders : MethodName := ⟨"FilterGuardModel", "orders", "(IIZZ)Z"⟩
def rm_M_orders : Room := { frames := 3, cells := 0, slots := 0, locals := 66 }
abbrev q_M_orders (D : va_G) (ad : Nat → Nat → Nat) (ca : Nat → ClassId) (N : Nat → Nat) (M0 MZ : me_M) (RZ : Int32) (A : Nat → Prop) : Array Value → Jvm.State → Outcome → Jvm.State → Prop := va_Qi (fun r (_ : Unit) => r = RZ ∧ me_wf N MZ ∧ me_kp M0 MZ ∧ (RZ = 1 ∨ RZ = 0)) (fg_B D A (fun _ => me_W ad ca MZ) (fun _ => [])) A
set_option maxHeartbeats 4000000 in
set_option maxRecDepth 100000 in
theorem c_M_orders (l : Launch) (D : va_G) (ad : Nat → Nat → Nat) (ca : Nat → ClassId) (N : Nat → Nat) (M0 MZ : me_M) (RZ : Int32) (j0 : Nat) (x1 : Int32) (x2 : Int32) (x3 : Int32) (x4 : Int32) (h : f_M_orders M0 j0 x1 x2 x3 x4 = (some (MZ, RZ))) (hwf : me_wf N M0) (hj0 : j0 < N 1) (zx3 : x3 = 1 ∨ x3 = 0) (zx4 : x4 = 1 ∨ x4 = 0) (sz : Nat) : Met l y_M_orders (fg_w y_M_orders prog_14_method_33_code 11 (some .boolean)) rm_M_orders (va_Pc [.ref (ad 1 j0), .int x1, .int x2, .int x3, .int x4] (fz_P D (me_T ca) (me_W ad ca M0) sz)) (q_M_orders D ad ca N M0 MZ RZ (va_A (me_W ad ca M0) sz)) rm_M_orders.cells rm_M_orders.slots (va_A (me_W ad ca M0) sz) := by
  refine fz_enter (fun A => q_M_orders D ad ca N M0 MZ RZ A) (by decide +kernel) (Nat.le_of_ble_eq_true rfl) ?_
  intro p e s m below meth c ls A hx hb hml hown hts hr hlocks hin hP hK hD hS hA hX hl hz
  have hl : lv_has ls 11 [(0, .ref (ad 1 j0)), (1, .int x1), (2, .int x2), (3, .int x3), (4, .int x4)] := hl
  unfold f_M_orders at h
  have hkp : me_kp M0 M0 := me_kp.rf
  have hkb := hkp
  have b_130 : ∀ (M : me_M) (y9 : Int64) (s0 : Int64) (s1 : Int32) (s2 : Nat) (H : Heap) (locs : List Loc) (ls : Array Slot), f_M_orders_b130 j0 x2 M y9 s0 s1 s2 = (some (MZ, RZ)) → (s2 < N 16) → me_wf N M → me_kp M0 M → va_P D classes (me_W ad ca M) H → va_D A (me_W ad ca M) → va_S A s.heap H locs → lv_has ls 11 [(0, .ref (ad 1 j0)), (2, .int x2), (9, .long y9)] → W p l e rm_M_orders s m [.ref (ad 1 j0), .int x1, .int x2, .int x3, .int x4].toArray below meth c H locs 0 0 (MQ below (q_M_orders D ad ca N M0 MZ RZ A) [.ref (ad 1 j0), .int x1, .int x2, .int x3, .int x4].toArray s rm_M_orders.cells rm_M_orders.slots A) (F0 m 130 ls [.long s0, .int s1, .ref (ad 16 s2)]) := by
    intro M y9 s0 s1 s2 H locs ls h hs2 hwf hkp hP hD hS hl
    unfold f_M_orders_b130 at h
    have hkb := hkp
    obtain ⟨g1, h⟩ := gd_ob h
    obtain ⟨M2, eM2, h⟩ := st_ob h
    refine me_last eM2 hx hb hK hP hD hwf hS hs2 g1 d_M_orders_130 (fun H locs hP hD hwf hS => ?_)
    have hkp := kp_L eM2 hkp
    refine lv_aload_n hx hb d_M_orders_131 rfl (lv_at hl 0 rfl) ?_
    refine g_M_57 hx hb hts hown hK hP hwf hj0 (hts _ u_1798) d_M_orders_132 ?_
    obtain ⟨j3, e4, h⟩ := bd_ob h
    have hj3 : j3 < N 16 := (hwf.2.1 1 j0 57 _ (kp_r hkb hkp e4) (by decide) hj0)
    refine me_opt (j := j3) (kp_r hkb hkp e4) ?_
    refine lv_iload_n hx hb d_M_orders_135 rfl (lv_at hl 1 rfl) ?_
    refine lv_aload_n hx hb d_M_orders_136 rfl (lv_at hl 0 rfl) ?_
    refine g_M_57 hx hb hts hown hK hP hwf hj0 (hts _ u_1798) d_M_orders_137 ?_
    refine me_opt (j := j3) (kp_r hkb hkp e4) ?_
    refine lv_iload_n hx hb d_M_orders_140 rfl (lv_at hl 1 rfl) ?_
    obtain ⟨g5, h⟩ := gd_ob h
    refine me_lald hx hb hK hP hwf hj3 (kp_z hkb.z hkp.z g5) d_M_orders_141 ?_
    refine lv_lload hx hb d_M_orders_142 (lv_at hl 2 rfl) ?_
    refine W.lcmp hx hb d_M_orders_144 ?_
    refine lv_if_ge (tgt := 157) hx hb d_M_orders_145 (by decide) (fun c6 => ?_) (fun c6 => ?_)
    · have h := if_f (Int64.not_lt.mpr ((lg_cmp_ge _ _).mp c6)) h
      refine lv_lload hx hb d_M_orders_157 (lv_at hl 2 rfl) ?_
      obtain ⟨M7, eM7, h⟩ := st_ob h
      refine me_last eM7 hx hb hK hP hD hwf hS hj3 (kp_z hkb.z hkp.z g5) d_M_orders_159 (fun H locs hP hD hwf hS => ?_)
      have hkp := kp_L eM7 hkp
      refine lv_goto (tgt := 219) hx hb d_M_orders_160 (by decide) ?_
      refine lv_iconst (v := 1) hx hb d_M_orders_219 (by decide) ?_
      exact me_retz (me_kp M0) h (by decide) hx hb hr hlocks hwf hkp hP hK hD hS d_M_orders_220
    have h := if_t (Int64.not_le.mp (fun z => c6 ((lg_cmp_ge _ _).mpr z))) h
    refine lv_aload_n hx hb d_M_orders_148 rfl (lv_at hl 0 rfl) ?_
    refine g_M_57 hx hb hts hown hK hP hwf hj0 (hts _ u_1798) d_M_orders_149 ?_
    refine me_opt (j := j3) (kp_r hkb hkp e4) ?_
    refine lv_iload_n hx hb d_M_orders_152 rfl (lv_at hl 1 rfl) ?_
    refine me_lald hx hb hK hP hwf hj3 (kp_z hkb.z hkp.z g5) d_M_orders_153 ?_
    refine lv_goto (tgt := 159) hx hb d_M_orders_154 (by decide) ?_
    obtain ⟨M8, eM8, h⟩ := st_ob h
    refine me_last eM8 hx hb hK hP hD hwf hS hj3 (kp_z hkb.z hkp.z g5) d_M_orders_159 (fun H locs hP hD hwf hS => ?_)
    have hkp := kp_L eM8 hkp
    refine lv_goto (tgt := 219) hx hb d_M_orders_160 (by decide) ?_
    refine lv_iconst (v := 1) hx hb d_M_orders_219 (by decide) ?_
    exact me_retz (me_kp M0) h (by decide) hx hb hr hlocks hwf hkp hP hK hD hS d_M_orders_220
  have b_73 : ∀ (M : me_M) (s0 : Int64) (H : Heap) (locs : List Loc) (ls : Array Slot), f_M_orders_b73 j0 x1 x2 x4 M s0 = (some (MZ, RZ)) → me_wf N M → me_kp M0 M → va_P D classes (me_W ad ca M) H → va_D A (me_W ad ca M) → va_S A s.heap H locs → lv_has ls 11 [(0, .ref (ad 1 j0)), (1, .int x1), (2, .int x2), (4, .int x4)] → W p l e rm_M_orders s m [.ref (ad 1 j0), .int x1, .int x2, .int x3, .int x4].toArray below meth c H locs 0 0 (MQ below (q_M_orders D ad ca N M0 MZ RZ A) [.ref (ad 1 j0), .int x1, .int x2, .int x3, .int x4].toArray s rm_M_orders.cells rm_M_orders.slots A) (F0 m 73 ls [.long s0]) := by
    intro M s0 H locs ls h hwf hkp hP hD hS hl
    unfold f_M_orders_b73 at h
    have hkb := hkp
    refine lv_lstore (lv' := [(5, .long s0), (0, .ref (ad 1 j0)), (1, .int x1), (2, .int x2), (4, .int x4)]) hx hb d_M_orders_73 hl (by decide) rfl (fun ls hl => ?_)
    refine lv_iload hx hb d_M_orders_75 (lv_at hl 4 rfl) ?_
    refine lv_if_eq (tgt := 163) hx hb d_M_orders_77 (by decide) (fun c9 => ?_) (fun c9 => ?_)
    · have h := if_t c9 h
      refine lv_aload_n hx hb d_M_orders_163 rfl (lv_at hl 1 rfl) ?_
      refine g_M_54 hx hb hts hown hK hP hwf hj0 (hts _ u_1795) d_M_orders_164 ?_
      obtain ⟨j10, e11, h⟩ := bd_ob h
      have hj10 : j10 < N 16 := (hwf.2.1 1 j0 54 _ e11 (by decide) hj0)
      refine me_opt (j := j10) e11 ?_
      refine lv_iload_n hx hb d_M_orders_167 rfl (lv_at hl 3 rfl) ?_
      obtain ⟨g12, h⟩ := gd_ob h
      refine me_lald hx hb hK hP hwf hj10 g12 d_M_orders_168 ?_
      refine lv_lload hx hb d_M_orders_169 (lv_at hl 0 rfl) ?_
      refine lv_ladd hx hb d_M_orders_171 ?_
      obtain ⟨v13, ev13, h⟩ := st_ob h
      refine fg_topl (y := v13) ev13.symm ?_
      refine lv_lstore (lv' := [(7, .long v13), (5, .long s0), (0, .ref (ad 1 j0)), (1, .int x1), (2, .int x2), (4, .int x4)]) hx hb d_M_orders_172 hl (by decide) rfl (fun ls hl => ?_)
      refine lv_aload_n hx hb d_M_orders_174 rfl (lv_at hl 2 rfl) ?_
      refine g_M_55 hx hb hts hown hK hP hwf hj0 (hts _ u_1796) d_M_orders_175 ?_
      obtain ⟨j14, e15, h⟩ := bd_ob h
      have hj14 : j14 < N 16 := (hwf.2.1 1 j0 55 _ e15 (by decide) hj0)
      refine me_opt (j := j14) e15 ?_
      refine lv_iload_n hx hb d_M_orders_178 rfl (lv_at hl 3 rfl) ?_
      obtain ⟨g16, h⟩ := gd_ob h
      refine me_lald hx hb hK hP hwf hj14 g16 d_M_orders_179 ?_
      refine lv_lload hx hb d_M_orders_180 (lv_at hl 1 rfl) ?_
      refine lv_lsub hx hb d_M_orders_182 ?_
      obtain ⟨v17, ev17, h⟩ := st_ob h
      refine fg_topl (y := v17) ev17.symm ?_
      refine lv_lstore (lv' := [(9, .long v17), (7, .long v13), (5, .long s0), (0, .ref (ad 1 j0)), (1, .int x1), (2, .int x2), (4, .int x4)]) hx hb d_M_orders_183 hl (by decide) rfl (fun ls hl => ?_)
      refine lv_aload_n hx hb d_M_orders_185 rfl (lv_at hl 3 rfl) ?_
      refine g_M_54 hx hb hts hown hK hP hwf hj0 (hts _ u_1795) d_M_orders_186 ?_
      refine me_opt (j := j10) e11 ?_
      refine lv_iload_n hx hb d_M_orders_189 rfl (lv_at hl 4 rfl) ?_
      refine lv_aload_n hx hb d_M_orders_190 rfl (lv_at hl 3 rfl) ?_
      refine g_M_54 hx hb hts hown hK hP hwf hj0 (hts _ u_1795) d_M_orders_191 ?_
      refine me_opt (j := j10) e11 ?_
      refine lv_iload_n hx hb d_M_orders_194 rfl (lv_at hl 4 rfl) ?_
      obtain ⟨g18, h⟩ := gd_ob h
      refine me_lald hx hb hK hP hwf hj10 g18 d_M_orders_195 ?_
      refine lv_lload hx hb d_M_orders_196 (lv_at hl 1 rfl) ?_
      obtain ⟨r19, er19, h⟩ := bd_ob h
      refine me_panl' (r0 := r19) (fg_runS (wc := []) (tc := []) (A2 := A) (As := [.long (mL M 16 j10 x1.toNatClampNeg), .long v13]) (rest := [.int x1, .ref (ad 16 j10)]) ⟨hx, hb, hml, hown, hts⟩ (c_M_greater l D r19 (mL M 16 j10 x1.toNatClampNeg) v13 er19 _) (by show fg_nm y_M_greater 2; decide +kernel) u_2151 u_2152 u_192 u_2153 ⟨Nat.le_of_ble_eq_true rfl, Nat.le_of_ble_eq_true rfl⟩ hX me_P0 (hK.sub (tys' := []) [] rfl) me_D0 rfl hl.1 (Nat.le_of_ble_eq_true rfl) d_M_orders_198 ⟨Nat.le_of_ble_eq_true rfl, Nat.le_of_ble_eq_true rfl⟩) hP hD hK hS hA rfl rfl (fun H locs hw hP hD hS => ?_)
      obtain ⟨M20, eM20, h⟩ := st_ob h
      refine me_last eM20 hx hb hK hP hD hwf hS hj10 g18 d_M_orders_201 (fun H locs hP hD hwf hS => ?_)
      have hkp := kp_L eM20 hkp
      refine lv_aload_n hx hb d_M_orders_202 rfl (lv_at hl 3 rfl) ?_
      refine g_M_55 hx hb hts hown hK hP hwf hj0 (hts _ u_1796) d_M_orders_203 ?_
      refine me_opt (j := j14) (kp_r hkb hkp e15) ?_
      refine lv_iload_n hx hb d_M_orders_206 rfl (lv_at hl 5 rfl) ?_
      refine lv_aload_n hx hb d_M_orders_207 rfl (lv_at hl 3 rfl) ?_
      refine g_M_55 hx hb hts hown hK hP hwf hj0 (hts _ u_1796) d_M_orders_208 ?_
      refine me_opt (j := j14) (kp_r hkb hkp e15) ?_
      refine lv_iload_n hx hb d_M_orders_211 rfl (lv_at hl 5 rfl) ?_
      obtain ⟨g21, h⟩ := gd_ob h
      refine me_lald hx hb hK hP hwf hj14 (kp_z hkb.z hkp.z g21) d_M_orders_212 ?_
      refine lv_lload hx hb d_M_orders_213 (lv_at hl 0 rfl) ?_
      obtain ⟨r22, er22, h⟩ := bd_ob h
      refine me_panl' (r0 := r22) (fg_runS (wc := []) (tc := []) (A2 := A) (As := [.long (mL M20 16 j14 x2.toNatClampNeg), .long v17]) (rest := [.int x2, .ref (ad 16 j14)]) ⟨hx, hb, hml, hown, hts⟩ (c_M_lesser l D r22 (mL M20 16 j14 x2.toNatClampNeg) v17 er22 _) (by show fg_nm y_M_lesser 2; decide +kernel) u_2154 u_2155 u_192 u_2156 ⟨Nat.le_of_ble_eq_true rfl, Nat.le_of_ble_eq_true rfl⟩ hX me_P0 (hK.sub (tys' := []) [] rfl) me_D0 rfl hl.1 (Nat.le_of_ble_eq_true rfl) d_M_orders_215 ⟨Nat.le_of_ble_eq_true rfl, Nat.le_of_ble_eq_true rfl⟩) hP hD hK hS hA rfl rfl (fun H locs hw hP hD hS => ?_)
      obtain ⟨M23, eM23, h⟩ := st_ob h
      refine me_last eM23 hx hb hK hP hD hwf hS hj14 (kp_z hkb.z hkp.z g21) d_M_orders_218 (fun H locs hP hD hwf hS => ?_)
      have hkp := kp_L eM23 hkp
      refine lv_iconst (v := 1) hx hb d_M_orders_219 (by decide) ?_
      exact me_retz (me_kp M0) h (by decide) hx hb hr hlocks hwf hkp hP hK hD hS d_M_orders_220
    have h := if_f c9 h
    refine lv_aload_n hx hb d_M_orders_80 rfl (lv_at hl 1 rfl) ?_
    refine g_M_56 hx hb hts hown hK hP hwf hj0 (hts _ u_1797) d_M_orders_81 ?_
    obtain ⟨j24, e25, h⟩ := bd_ob h
    have hj24 : j24 < N 16 := (hwf.2.1 1 j0 56 _ e25 (by decide) hj0)
    refine me_opt (j := j24) e25 ?_
    refine lv_iload_n hx hb d_M_orders_84 rfl (lv_at hl 3 rfl) ?_
    obtain ⟨g26, h⟩ := gd_ob h
    refine me_lald hx hb hK hP hwf hj24 g26 d_M_orders_85 ?_
    refine lv_lload hx hb d_M_orders_86 (lv_at hl 0 rfl) ?_
    refine lv_ladd hx hb d_M_orders_88 ?_
    obtain ⟨v27, ev27, h⟩ := st_ob h
    refine fg_topl (y := v27) ev27.symm ?_
    refine lv_lstore (lv' := [(7, .long v27), (5, .long s0), (0, .ref (ad 1 j0)), (1, .int x1), (2, .int x2), (4, .int x4)]) hx hb d_M_orders_89 hl (by decide) rfl (fun ls hl => ?_)
    refine lv_aload_n hx hb d_M_orders_91 rfl (lv_at hl 2 rfl) ?_
    refine g_M_57 hx hb hts hown hK hP hwf hj0 (hts _ u_1798) d_M_orders_92 ?_
    obtain ⟨j28, e29, h⟩ := bd_ob h
    have hj28 : j28 < N 16 := (hwf.2.1 1 j0 57 _ e29 (by decide) hj0)
    refine me_opt (j := j28) e29 ?_
    refine lv_iload_n hx hb d_M_orders_95 rfl (lv_at hl 3 rfl) ?_
    obtain ⟨g30, h⟩ := gd_ob h
    refine me_lald hx hb hK hP hwf hj28 g30 d_M_orders_96 ?_
    refine lv_lload hx hb d_M_orders_97 (lv_at hl 1 rfl) ?_
    refine lv_lsub hx hb d_M_orders_99 ?_
    obtain ⟨v31, ev31, h⟩ := st_ob h
    refine fg_topl (y := v31) ev31.symm ?_
    refine lv_lstore (lv' := [(9, .long v31), (7, .long v27), (5, .long s0), (0, .ref (ad 1 j0)), (1, .int x1), (2, .int x2), (4, .int x4)]) hx hb d_M_orders_100 hl (by decide) rfl (fun ls hl => ?_)
    refine lv_aload_n hx hb d_M_orders_102 rfl (lv_at hl 3 rfl) ?_
    refine g_M_56 hx hb hts hown hK hP hwf hj0 (hts _ u_1797) d_M_orders_103 ?_
    refine me_opt (j := j24) e25 ?_
    refine lv_iload_n hx hb d_M_orders_106 rfl (lv_at hl 4 rfl) ?_
    refine lv_aload_n hx hb d_M_orders_107 rfl (lv_at hl 3 rfl) ?_
    refine g_M_56 hx hb hts hown hK hP hwf hj0 (hts _ u_1797) d_M_orders_108 ?_
    refine me_opt (j := j24) e25 ?_
    refine lv_iload_n hx hb d_M_orders_111 rfl (lv_at hl 4 rfl) ?_
    obtain ⟨g32, h⟩ := gd_ob h
    refine me_lald hx hb hK hP hwf hj24 g32 d_M_orders_112 ?_
    refine lv_lload hx hb d_M_orders_113 (lv_at hl 1 rfl) ?_
    refine W.lcmp hx hb d_M_orders_115 ?_
    refine lv_if_le (tgt := 128) hx hb d_M_orders_116 (by decide) (fun c33 => ?_) (fun c33 => ?_)
    · have h := if_f (Int64.not_lt.mpr ((lg_cmp_le _ _).mp c33)) h
      refine lv_lload hx hb d_M_orders_128 (lv_at hl 1 rfl) ?_
      exact b_130 M v31 v27 x1 j24 _ _ _ h hj24 hwf hkp hP hD hS (lv_sub hl [3, 5, 0] rfl)
    have h := if_t (Int64.not_le.mp (fun z => c33 ((lg_cmp_le _ _).mpr z))) h
    refine lv_aload_n hx hb d_M_orders_119 rfl (lv_at hl 3 rfl) ?_
    refine g_M_56 hx hb hts hown hK hP hwf hj0 (hts _ u_1797) d_M_orders_120 ?_
    refine me_opt (j := j24) e25 ?_
    refine lv_iload_n hx hb d_M_orders_123 rfl (lv_at hl 4 rfl) ?_
    refine me_lald hx hb hK hP hwf hj24 g32 d_M_orders_124 ?_
    refine lv_goto (tgt := 130) hx hb d_M_orders_125 (by decide) ?_
    exact b_130 M v31 (mL M 16 j24 x1.toNatClampNeg) x1 j24 _ _ _ h hj24 hwf hkp hP hD hS (lv_sub hl [3, 5, 0] rfl)
  have b_64 : ∀ (M : me_M) (H : Heap) (locs : List Loc) (ls : Array Slot), f_M_orders_b64 j0 x1 x2 x3 x4 M = (some (MZ, RZ)) → me_wf N M → me_kp M0 M → va_P D classes (me_W ad ca M) H → va_D A (me_W ad ca M) → va_S A s.heap H locs → lv_has ls 11 [(0, .ref (ad 1 j0)), (1, .int x1), (2, .int x2), (3, .int x3), (4, .int x4)] → W p l e rm_M_orders s m [.ref (ad 1 j0), .int x1, .int x2, .int x3, .int x4].toArray below meth c H locs 0 0 (MQ below (q_M_orders D ad ca N M0 MZ RZ A) [.ref (ad 1 j0), .int x1, .int x2, .int x3, .int x4].toArray s rm_M_orders.cells rm_M_orders.slots A) (F0 m 64 ls []) := by
    intro M H locs ls h hwf hkp hP hD hS hl
    unfold f_M_orders_b64 at h
    have hkb := hkp
    refine lv_iload_n hx hb d_M_orders_64 rfl (lv_at hl 3 rfl) ?_
    refine lv_if_eq (tgt := 72) hx hb d_M_orders_65 (by decide) (fun c34 => ?_) (fun c34 => ?_)
    · have h := if_t c34 h
      refine lv_lconst (v := 0) hx hb d_M_orders_72 (by decide) ?_
      exact b_73 M (0 : Int64) _ _ _ h hwf hkp hP hD hS (lv_sub hl [0, 1, 2, 4] rfl)
    have h := if_f c34 h
    refine lv_lconst (v := 1) hx hb d_M_orders_68 (by decide) ?_
    refine lv_goto (tgt := 73) hx hb d_M_orders_69 (by decide) ?_
    exact b_73 M (1 : Int64) _ _ _ h hwf hkp hP hD hS (lv_sub hl [0, 1, 2, 4] rfl)
  refine lv_iload_n hx hb d_M_orders_0 rfl (lv_at hl 3 rfl) ?_
  refine lv_if_eq (tgt := 64) hx hb d_M_orders_1 (by decide) (fun c35 => ?_) (fun c35 => ?_)
  · have h := if_t c35 h
    exact b_64 M0 _ _ _ h hwf hkp hP hD hS (lv_sub hl [0, 1, 2, 3, 4] rfl)
  have h := if_f c35 h
  refine lv_iload hx hb d_M_orders_4 (lv_at hl 4 rfl) ?_
  refine lv_if_eq (tgt := 38) hx hb d_M_orders_6 (by decide) (fun c36 => ?_) (fun c36 => ?_)
  · have h := if_t c36 h
    refine lv_aload_n hx hb d_M_orders_38 rfl (lv_at hl 0 rfl) ?_
    refine g_M_54 hx hb hts hown hK hP hwf hj0 (hts _ u_1795) d_M_orders_39 ?_
    obtain ⟨j37, e38, h⟩ := bd_ob h
    have hj37 : j37 < N 16 := (hwf.2.1 1 j0 54 _ e38 (by decide) hj0)
    refine me_opt (j := j37) e38 ?_
    refine lv_iload_n hx hb d_M_orders_42 rfl (lv_at hl 2 rfl) ?_
    obtain ⟨g39, h⟩ := gd_ob h
    refine me_lald hx hb hK hP hwf hj37 g39 d_M_orders_43 ?_
    refine lv_ldc2 hx hb hown (hts _ u_2071) d_M_orders_44 ?_
    refine W.lcmp hx hb d_M_orders_47 ?_
    refine lv_if_eq (tgt := 62) hx hb d_M_orders_48 (by decide) (fun c40 => ?_) (fun c40 => ?_)
    · have h := if_t ((lg_cmp_eq _ _).mp c40) h
      refine lv_iconst (v := 0) hx hb d_M_orders_62 (by decide) ?_
      exact me_retz (me_kp M0) h (by decide) hx hb hr hlocks hwf hkp hP hK hD hS d_M_orders_63
    have h := if_f (fun z => c40 ((lg_cmp_eq _ _).mpr z)) h
    refine lv_aload_n hx hb d_M_orders_51 rfl (lv_at hl 0 rfl) ?_
    refine g_M_55 hx hb hts hown hK hP hwf hj0 (hts _ u_1796) d_M_orders_52 ?_
    obtain ⟨j41, e42, h⟩ := bd_ob h
    have hj41 : j41 < N 16 := (hwf.2.1 1 j0 55 _ e42 (by decide) hj0)
    refine me_opt (j := j41) e42 ?_
    refine lv_iload_n hx hb d_M_orders_55 rfl (lv_at hl 1 rfl) ?_
    obtain ⟨g43, h⟩ := gd_ob h
    refine me_lald hx hb hK hP hwf hj41 g43 d_M_orders_56 ?_
    refine lv_lconst (v := 0) hx hb d_M_orders_57 (by decide) ?_
    refine W.lcmp hx hb d_M_orders_58 ?_
    refine lv_if_ne (tgt := 64) hx hb d_M_orders_59 (by decide) (fun c44 => ?_) (fun c44 => ?_)
    · have h := if_f (fun z => c44 ((lg_cmp_eq _ _).mpr z)) h
      exact b_64 M0 _ _ _ h hwf hkp hP hD hS (lv_sub hl [0, 1, 2, 3, 4] rfl)
    have h := if_t ((lg_cmp_eq _ _).mp c44) h
    refine lv_iconst (v := 0) hx hb d_M_orders_62 (by decide) ?_
    exact me_retz (me_kp M0) h (by decide) hx hb hr hlocks hwf hkp hP hK hD hS d_M_orders_63
  have h := if_f c36 h
  refine lv_aload_n hx hb d_M_orders_9 rfl (lv_at hl 0 rfl) ?_
  refine g_M_56 hx hb hts hown hK hP hwf hj0 (hts _ u_1797) d_M_orders_10 ?_
  obtain ⟨j45, e46, h⟩ := bd_ob h
  have hj45 : j45 < N 16 := (hwf.2.1 1 j0 56 _ e46 (by decide) hj0)
  refine me_opt (j := j45) e46 ?_
  refine lv_iload_n hx hb d_M_orders_13 rfl (lv_at hl 2 rfl) ?_
  obtain ⟨g47, h⟩ := gd_ob h
  refine me_lald hx hb hK hP hwf hj45 g47 d_M_orders_14 ?_
  refine lv_ldc2 hx hb hown (hts _ u_2142) d_M_orders_15 ?_
  refine W.lcmp hx hb d_M_orders_18 ?_
  refine lv_if_eq (tgt := 62) hx hb d_M_orders_19 (by decide) (fun c48 => ?_) (fun c48 => ?_)
  · have h := if_t ((lg_cmp_eq _ _).mp c48) h
    refine lv_iconst (v := 0) hx hb d_M_orders_62 (by decide) ?_
    exact me_retz (me_kp M0) h (by decide) hx hb hr hlocks hwf hkp hP hK hD hS d_M_orders_63
  have h := if_f (fun z => c48 ((lg_cmp_eq _ _).mpr z)) h
  refine lv_aload_n hx hb d_M_orders_22 rfl (lv_at hl 0 rfl) ?_
  refine g_M_57 hx hb hts hown hK hP hwf hj0 (hts _ u_1798) d_M_orders_23 ?_
  obtain ⟨j49, e50, h⟩ := bd_ob h
  have hj49 : j49 < N 16 := (hwf.2.1 1 j0 57 _ e50 (by decide) hj0)
  refine me_opt (j := j49) e50 ?_
  refine lv_iload_n hx hb d_M_orders_26 rfl (lv_at hl 1 rfl) ?_
  obtain ⟨g51, h⟩ := gd_ob h
  refine me_lald hx hb hK hP hwf hj49 g51 d_M_orders_27 ?_
  refine lv_ldc2 hx hb hown (hts _ u_2075) d_M_orders_28 ?_
  refine W.lcmp hx hb d_M_orders_31 ?_
  refine lv_if_ne (tgt := 64) hx hb d_M_orders_32 (by decide) (fun c52 => ?_) (fun c52 => ?_)
  · have h := if_f (fun z => c52 ((lg_cmp_eq _ _).mpr z)) h
    exact b_64 M0 _ _ _ h hwf hkp hP hD hS (lv_sub hl [0, 1, 2, 3, 4] rfl)
  have h := if_t ((lg_cmp_eq _ _).mp c52) h
  refine lv_goto (tgt := 62) hx hb d_M_orders_35 (by decide) ?_
  refine lv_iconst (v := 0) hx hb d_M_orders_62 (by decide) ?_
  exact me_retz (me_kp M0) h (by decide) hx hb hr hlocks hwf hkp hP hK hD hS d_M_orders_63
