theorem d_Num_downFromHighest_0 : decode prog_8_method_13_code 0 = .ok (.lload_n 0, 1) := by decide +kernel
theorem d_Num_downFromHighest_1 : decode prog_8_method_13_code 1 = .ok (.lload_n 0, 1) := by decide +kernel
theorem d_Num_downFromHighest_2 : decode prog_8_method_13_code 2 = .ok (.iconst 1, 1) := by decide +kernel
theorem d_Num_downFromHighest_3 : decode prog_8_method_13_code 3 = .ok (.lushr, 1) := by decide +kernel
theorem d_Num_downFromHighest_4 : decode prog_8_method_13_code 4 = .ok (.lor, 1) := by decide +kernel
theorem d_Num_downFromHighest_5 : decode prog_8_method_13_code 5 = .ok (.lstore_n 2, 1) := by decide +kernel
theorem d_Num_downFromHighest_6 : decode prog_8_method_13_code 6 = .ok (.lload_n 2, 1) := by decide +kernel
theorem d_Num_downFromHighest_7 : decode prog_8_method_13_code 7 = .ok (.lload_n 2, 1) := by decide +kernel
theorem d_Num_downFromHighest_8 : decode prog_8_method_13_code 8 = .ok (.iconst 2, 1) := by decide +kernel
theorem d_Num_downFromHighest_9 : decode prog_8_method_13_code 9 = .ok (.lushr, 1) := by decide +kernel
theorem d_Num_downFromHighest_10 : decode prog_8_method_13_code 10 = .ok (.lor, 1) := by decide +kernel
theorem d_Num_downFromHighest_11 : decode prog_8_method_13_code 11 = .ok (.lstore_n 2, 1) := by decide +kernel
theorem d_Num_downFromHighest_12 : decode prog_8_method_13_code 12 = .ok (.lload_n 2, 1) := by decide +kernel
theorem d_Num_downFromHighest_13 : decode prog_8_method_13_code 13 = .ok (.lload_n 2, 1) := by decide +kernel
theorem d_Num_downFromHighest_14 : decode prog_8_method_13_code 14 = .ok (.iconst 4, 1) := by decide +kernel
theorem d_Num_downFromHighest_15 : decode prog_8_method_13_code 15 = .ok (.lushr, 1) := by decide +kernel
theorem d_Num_downFromHighest_16 : decode prog_8_method_13_code 16 = .ok (.lor, 1) := by decide +kernel
theorem d_Num_downFromHighest_17 : decode prog_8_method_13_code 17 = .ok (.lstore_n 2, 1) := by decide +kernel
theorem d_Num_downFromHighest_18 : decode prog_8_method_13_code 18 = .ok (.lload_n 2, 1) := by decide +kernel
theorem d_Num_downFromHighest_19 : decode prog_8_method_13_code 19 = .ok (.lload_n 2, 1) := by decide +kernel
theorem d_Num_downFromHighest_20 : decode prog_8_method_13_code 20 = .ok (.bipush 8, 2) := by decide +kernel
theorem d_Num_downFromHighest_22 : decode prog_8_method_13_code 22 = .ok (.lushr, 1) := by decide +kernel
theorem d_Num_downFromHighest_23 : decode prog_8_method_13_code 23 = .ok (.lor, 1) := by decide +kernel
theorem d_Num_downFromHighest_24 : decode prog_8_method_13_code 24 = .ok (.lstore_n 2, 1) := by decide +kernel
theorem d_Num_downFromHighest_25 : decode prog_8_method_13_code 25 = .ok (.lload_n 2, 1) := by decide +kernel
theorem d_Num_downFromHighest_26 : decode prog_8_method_13_code 26 = .ok (.lload_n 2, 1) := by decide +kernel
theorem d_Num_downFromHighest_27 : decode prog_8_method_13_code 27 = .ok (.bipush 16, 2) := by decide +kernel
theorem d_Num_downFromHighest_29 : decode prog_8_method_13_code 29 = .ok (.lushr, 1) := by decide +kernel
theorem d_Num_downFromHighest_30 : decode prog_8_method_13_code 30 = .ok (.lor, 1) := by decide +kernel
theorem d_Num_downFromHighest_31 : decode prog_8_method_13_code 31 = .ok (.lstore_n 2, 1) := by decide +kernel
theorem d_Num_downFromHighest_32 : decode prog_8_method_13_code 32 = .ok (.lload_n 2, 1) := by decide +kernel
theorem d_Num_downFromHighest_33 : decode prog_8_method_13_code 33 = .ok (.lload_n 2, 1) := by decide +kernel
theorem d_Num_downFromHighest_34 : decode prog_8_method_13_code 34 = .ok (.bipush 32, 2) := by decide +kernel
theorem d_Num_downFromHighest_36 : decode prog_8_method_13_code 36 = .ok (.lushr, 1) := by decide +kernel
theorem d_Num_downFromHighest_37 : decode prog_8_method_13_code 37 = .ok (.lor, 1) := by decide +kernel
theorem d_Num_downFromHighest_38 : decode prog_8_method_13_code 38 = .ok (.lreturn, 1) := by decide +kernel
abbrev y_Num_downFromHighest : MethodName := ⟨"FilterGuard$Num", "downFromHighest", "(J)J"⟩
def rm_Num_downFromHighest : Room := { frames := 1, cells := 0, slots := 0, locals := 20 }
abbrev q_Num_downFromHighest (D : va_G) (RZ : Int64) (A : Nat → Prop) : Array Value → Jvm.State → Outcome → Jvm.State → Prop := va_Ql (fun r (_ : Unit) => r = RZ ∧ True) (fg_B D A (fun _ => []) (fun _ => [])) A
set_option maxHeartbeats 4000000 in
set_option maxRecDepth 100000 in
theorem c_Num_downFromHighest (l : Launch) (D : va_G) (RZ : Int64) (x0 : Int64) (h : f_Num_downFromHighest x0 = (some RZ)) (sz : Nat) : Met l y_Num_downFromHighest (fg_w y_Num_downFromHighest prog_8_method_13_code 4 (some .long)) rm_Num_downFromHighest (va_Pc [.long x0] (fg_P D [] [] sz)) (q_Num_downFromHighest D RZ (va_A [] sz)) rm_Num_downFromHighest.cells rm_Num_downFromHighest.slots (va_A [] sz) := by
  refine fg_enter (fun A => q_Num_downFromHighest D RZ A) (by decide +kernel) (Nat.le_of_ble_eq_true rfl) ?_
  intro p e s m below meth c ls A hx hb hml hown hts hr hlocks hin hP hK hD hS hA hX hl
  have hl : lv_has ls 4 [(0, .long x0)] := hl
  unfold f_Num_downFromHighest at h
  refine lv_lload_n hx hb d_Num_downFromHighest_0 rfl (lv_at hl 0 rfl) ?_
  refine lv_lload_n hx hb d_Num_downFromHighest_1 rfl (lv_at hl 0 rfl) ?_
  refine lv_iconst (v := 1) hx hb d_Num_downFromHighest_2 (by decide) ?_
  refine lv_lushr (v := jlushr x0 (1 : Int32)) hx hb d_Num_downFromHighest_3 rfl ?_
  refine lv_lor hx hb d_Num_downFromHighest_4 ?_
  obtain ⟨v1, ev1, h⟩ := st_ob h
  refine fg_topl (y := v1) ev1.symm ?_
  refine lv_lstore_n (lv' := [(2, .long v1), (0, .long x0)]) hx hb d_Num_downFromHighest_5 rfl hl (by decide) rfl (fun ls hl => ?_)
  refine lv_lload_n hx hb d_Num_downFromHighest_6 rfl (lv_at hl 0 rfl) ?_
  refine lv_lload_n hx hb d_Num_downFromHighest_7 rfl (lv_at hl 0 rfl) ?_
  refine lv_iconst (v := 2) hx hb d_Num_downFromHighest_8 (by decide) ?_
  refine lv_lushr (v := jlushr v1 (2 : Int32)) hx hb d_Num_downFromHighest_9 rfl ?_
  refine lv_lor hx hb d_Num_downFromHighest_10 ?_
  obtain ⟨v2, ev2, h⟩ := st_ob h
  refine fg_topl (y := v2) ev2.symm ?_
  refine lv_lstore_n (lv' := [(2, .long v2), (0, .long x0)]) hx hb d_Num_downFromHighest_11 rfl hl (by decide) rfl (fun ls hl => ?_)
  refine lv_lload_n hx hb d_Num_downFromHighest_12 rfl (lv_at hl 0 rfl) ?_
  refine lv_lload_n hx hb d_Num_downFromHighest_13 rfl (lv_at hl 0 rfl) ?_
  refine lv_iconst (v := 4) hx hb d_Num_downFromHighest_14 (by decide) ?_
  refine lv_lushr (v := jlushr v2 (4 : Int32)) hx hb d_Num_downFromHighest_15 rfl ?_
  refine lv_lor hx hb d_Num_downFromHighest_16 ?_
  obtain ⟨v3, ev3, h⟩ := st_ob h
  refine fg_topl (y := v3) ev3.symm ?_
  refine lv_lstore_n (lv' := [(2, .long v3), (0, .long x0)]) hx hb d_Num_downFromHighest_17 rfl hl (by decide) rfl (fun ls hl => ?_)
  refine lv_lload_n hx hb d_Num_downFromHighest_18 rfl (lv_at hl 0 rfl) ?_
  refine lv_lload_n hx hb d_Num_downFromHighest_19 rfl (lv_at hl 0 rfl) ?_
  refine lv_bipush (v := 8) hx hb d_Num_downFromHighest_20 (by decide) ?_
  refine lv_lushr (v := jlushr v3 (8 : Int32)) hx hb d_Num_downFromHighest_22 rfl ?_
  refine lv_lor hx hb d_Num_downFromHighest_23 ?_
  obtain ⟨v4, ev4, h⟩ := st_ob h
  refine fg_topl (y := v4) ev4.symm ?_
  refine lv_lstore_n (lv' := [(2, .long v4), (0, .long x0)]) hx hb d_Num_downFromHighest_24 rfl hl (by decide) rfl (fun ls hl => ?_)
  refine lv_lload_n hx hb d_Num_downFromHighest_25 rfl (lv_at hl 0 rfl) ?_
  refine lv_lload_n hx hb d_Num_downFromHighest_26 rfl (lv_at hl 0 rfl) ?_
  refine lv_bipush (v := 16) hx hb d_Num_downFromHighest_27 (by decide) ?_
  refine lv_lushr (v := jlushr v4 (16 : Int32)) hx hb d_Num_downFromHighest_29 rfl ?_
  refine lv_lor hx hb d_Num_downFromHighest_30 ?_
  obtain ⟨v5, ev5, h⟩ := st_ob h
  refine fg_topl (y := v5) ev5.symm ?_
  refine lv_lstore_n (lv' := [(2, .long v5), (0, .long x0)]) hx hb d_Num_downFromHighest_31 rfl hl (by decide) rfl (fun ls hl => ?_)
  refine lv_lload_n hx hb d_Num_downFromHighest_32 rfl (lv_at hl 0 rfl) ?_
  refine lv_lload_n hx hb d_Num_downFromHighest_33 rfl (lv_at hl 0 rfl) ?_
  refine lv_bipush (v := 32) hx hb d_Num_downFromHighest_34 (by decide) ?_
  refine lv_lushr (v := jlushr v5 (32 : Int32)) hx hb d_Num_downFromHighest_36 rfl ?_
  refine lv_lor hx hb d_Num_downFromHighest_37 ?_
  exact me_pretl h hx hb hr hlocks hK hS d_Num_downFromHighest_38
theorem d_Num_settle_102 : decode prog_8_method_12_code 102 = .ok (.aload_n 0, 1) := by decide +kernel
theorem d_Num_settle_103 : decode prog_8_method_12_code 103 = .ok (.getfield 21, 3) := by decide +kernel
theorem d_Num_settle_106 : decode prog_8_method_12_code 106 = .ok (.aload_n 0, 1) := by decide +kernel
theorem d_Num_settle_107 : decode prog_8_method_12_code 107 = .ok (.getfield 18, 3) := by decide +kernel
theorem d_Num_settle_110 : decode prog_8_method_12_code 110 = .ok (.invokestatic 36, 3) := by decide +kernel
theorem d_Num_settle_113 : decode prog_8_method_12_code 113 = .ok (.ifCond .ne 15, 3) := by decide +kernel
theorem d_Num_settle_128 : decode prog_8_method_12_code 128 = .ok (.iconst 0, 1) := by decide +kernel
theorem d_Num_settle_129 : decode prog_8_method_12_code 129 = .ok (.ireturn, 1) := by decide +kernel
theorem d_Num_settle_116 : decode prog_8_method_12_code 116 = .ok (.aload_n 0, 1) := by decide +kernel
theorem d_Num_settle_117 : decode prog_8_method_12_code 117 = .ok (.getfield 24, 3) := by decide +kernel
theorem d_Num_settle_120 : decode prog_8_method_12_code 120 = .ok (.aload_n 0, 1) := by decide +kernel
theorem d_Num_settle_121 : decode prog_8_method_12_code 121 = .ok (.getfield 27, 3) := by decide +kernel
theorem d_Num_settle_124 : decode prog_8_method_12_code 124 = .ok (.lcmp, 1) := by decide +kernel
theorem d_Num_settle_125 : decode prog_8_method_12_code 125 = .ok (.ifCond .le 5, 3) := by decide +kernel
theorem d_Num_settle_130 : decode prog_8_method_12_code 130 = .ok (.aload_n 0, 1) := by decide +kernel
theorem d_Num_settle_131 : decode prog_8_method_12_code 131 = .ok (.getfield 18, 3) := by decide +kernel
theorem d_Num_settle_134 : decode prog_8_method_12_code 134 = .ok (.aload_n 0, 1) := by decide +kernel
theorem d_Num_settle_135 : decode prog_8_method_12_code 135 = .ok (.getfield 21, 3) := by decide +kernel
theorem d_Num_settle_138 : decode prog_8_method_12_code 138 = .ok (.lxor, 1) := by decide +kernel
theorem d_Num_settle_139 : decode prog_8_method_12_code 139 = .ok (.invokestatic 56, 3) := by decide +kernel
theorem u_1233 : Cond.methodLink "FilterGuard$Num" 56 ⟨"FilterGuard$Num", "downFromHighest", "(J)J"⟩ ∈ fg_g := fg_in (List.mem_of_getElem? (i := 1233) (by decide +kernel)) rfl
theorem u_1235 : Cond.code ⟨"FilterGuard$Num", "downFromHighest", "(J)J"⟩ prog_8_method_13_code 4 (some .long) ∈ fg_g := fg_in (List.mem_of_getElem? (i := 1235) (by decide +kernel)) rfl
theorem u_1234 : Cond.static ⟨"FilterGuard$Num", "downFromHighest", "(J)J"⟩ ∈ fg_g := fg_in (List.mem_of_getElem? (i := 1234) (by decide +kernel)) rfl
theorem d_Num_settle_142 : decode prog_8_method_12_code 142 = .ok (.lstore_n 2, 1) := by decide +kernel
theorem d_Num_settle_143 : decode prog_8_method_12_code 143 = .ok (.aload_n 0, 1) := by decide +kernel
theorem d_Num_settle_144 : decode prog_8_method_12_code 144 = .ok (.getfield 9, 3) := by decide +kernel
theorem d_Num_settle_147 : decode prog_8_method_12_code 147 = .ok (.aload_n 0, 1) := by decide +kernel
theorem d_Num_settle_148 : decode prog_8_method_12_code 148 = .ok (.getfield 18, 3) := by decide +kernel
theorem d_Num_settle_151 : decode prog_8_method_12_code 151 = .ok (.lxor, 1) := by decide +kernel
theorem d_Num_settle_152 : decode prog_8_method_12_code 152 = .ok (.aload_n 0, 1) := by decide +kernel
theorem d_Num_settle_153 : decode prog_8_method_12_code 153 = .ok (.getfield 15, 3) := by decide +kernel
theorem d_Num_settle_156 : decode prog_8_method_12_code 156 = .ok (.ldc2_w 30, 3) := by decide +kernel
theorem d_Num_settle_159 : decode prog_8_method_12_code 159 = .ok (.lxor, 1) := by decide +kernel
theorem d_Num_settle_160 : decode prog_8_method_12_code 160 = .ok (.land, 1) := by decide +kernel
theorem d_Num_settle_161 : decode prog_8_method_12_code 161 = .ok (.lload_n 2, 1) := by decide +kernel
theorem d_Num_settle_162 : decode prog_8_method_12_code 162 = .ok (.ldc2_w 30, 3) := by decide +kernel
theorem d_Num_settle_165 : decode prog_8_method_12_code 165 = .ok (.lxor, 1) := by decide +kernel
theorem d_Num_settle_166 : decode prog_8_method_12_code 166 = .ok (.land, 1) := by decide +kernel
theorem d_Num_settle_167 : decode prog_8_method_12_code 167 = .ok (.lconst 0, 1) := by decide +kernel
theorem d_Num_settle_168 : decode prog_8_method_12_code 168 = .ok (.lcmp, 1) := by decide +kernel
theorem d_Num_settle_169 : decode prog_8_method_12_code 169 = .ok (.ifCond .eq 5, 3) := by decide +kernel
theorem d_Num_settle_174 : decode prog_8_method_12_code 174 = .ok (.aload_n 0, 1) := by decide +kernel
theorem d_Num_settle_175 : decode prog_8_method_12_code 175 = .ok (.aload_n 0, 1) := by decide +kernel
theorem d_Num_settle_176 : decode prog_8_method_12_code 176 = .ok (.getfield 9, 3) := by decide +kernel
theorem d_Num_settle_179 : decode prog_8_method_12_code 179 = .ok (.lload_n 2, 1) := by decide +kernel
theorem d_Num_settle_180 : decode prog_8_method_12_code 180 = .ok (.land, 1) := by decide +kernel
theorem d_Num_settle_181 : decode prog_8_method_12_code 181 = .ok (.aload_n 0, 1) := by decide +kernel
theorem d_Num_settle_182 : decode prog_8_method_12_code 182 = .ok (.getfield 18, 3) := by decide +kernel
theorem d_Num_settle_185 : decode prog_8_method_12_code 185 = .ok (.lload_n 2, 1) := by decide +kernel
theorem d_Num_settle_186 : decode prog_8_method_12_code 186 = .ok (.ldc2_w 30, 3) := by decide +kernel
theorem d_Num_settle_189 : decode prog_8_method_12_code 189 = .ok (.lxor, 1) := by decide +kernel
theorem d_Num_settle_190 : decode prog_8_method_12_code 190 = .ok (.land, 1) := by decide +kernel
theorem d_Num_settle_191 : decode prog_8_method_12_code 191 = .ok (.lor, 1) := by decide +kernel
theorem d_Num_settle_192 : decode prog_8_method_12_code 192 = .ok (.putfield 9, 3) := by decide +kernel
theorem d_Num_settle_195 : decode prog_8_method_12_code 195 = .ok (.aload_n 0, 1) := by decide +kernel
theorem d_Num_settle_196 : decode prog_8_method_12_code 196 = .ok (.dup, 1) := by decide +kernel
theorem d_Num_settle_197 : decode prog_8_method_12_code 197 = .ok (.getfield 15, 3) := by decide +kernel
theorem d_Num_settle_200 : decode prog_8_method_12_code 200 = .ok (.lload_n 2, 1) := by decide +kernel
theorem d_Num_settle_201 : decode prog_8_method_12_code 201 = .ok (.land, 1) := by decide +kernel
theorem d_Num_settle_202 : decode prog_8_method_12_code 202 = .ok (.putfield 15, 3) := by decide +kernel
theorem d_Num_settle_205 : decode prog_8_method_12_code 205 = .ok (.iinc 1 1, 3) := by decide +kernel
theorem d_Num_settle_208 : decode prog_8_method_12_code 208 = .ok (.goto (-206), 3) := by decide +kernel
theorem d_Num_settle_172 : decode prog_8_method_12_code 172 = .ok (.iconst 0, 1) := by decide +kernel
theorem d_Num_settle_173 : decode prog_8_method_12_code 173 = .ok (.ireturn, 1) := by decide +kernel
theorem d_Num_settle_72 : decode prog_8_method_12_code 72 = .ok (.aload_n 0, 1) := by decide +kernel
theorem d_Num_settle_73 : decode prog_8_method_12_code 73 = .ok (.getfield 24, 3) := by decide +kernel
theorem d_Num_settle_76 : decode prog_8_method_12_code 76 = .ok (.aload_n 0, 1) := by decide +kernel
theorem d_Num_settle_77 : decode prog_8_method_12_code 77 = .ok (.getfield 27, 3) := by decide +kernel
theorem d_Num_settle_80 : decode prog_8_method_12_code 80 = .ok (.lxor, 1) := by decide +kernel
theorem d_Num_settle_81 : decode prog_8_method_12_code 81 = .ok (.lconst 0, 1) := by decide +kernel
theorem d_Num_settle_82 : decode prog_8_method_12_code 82 = .ok (.lcmp, 1) := by decide +kernel
theorem d_Num_settle_83 : decode prog_8_method_12_code 83 = .ok (.ifCond .lt 19, 3) := by decide +kernel
theorem d_Num_settle_86 : decode prog_8_method_12_code 86 = .ok (.aload_n 0, 1) := by decide +kernel
theorem d_Num_settle_87 : decode prog_8_method_12_code 87 = .ok (.aload_n 0, 1) := by decide +kernel
theorem d_Num_settle_88 : decode prog_8_method_12_code 88 = .ok (.getfield 24, 3) := by decide +kernel
theorem d_Num_settle_91 : decode prog_8_method_12_code 91 = .ok (.invokevirtual 40, 3) := by decide +kernel
theorem u_1225 : Cond.methodLink "FilterGuard$Num" 40 ⟨"FilterGuard$Num", "raiseLeast", "(J)V"⟩ ∈ fg_g := fg_in (List.mem_of_getElem? (i := 1225) (by decide +kernel)) rfl
theorem u_1201 : Cond.code ⟨"FilterGuard$Num", "raiseLeast", "(J)V"⟩ prog_8_method_15_code 3 none ∈ fg_g := fg_in (List.mem_of_getElem? (i := 1201) (by decide +kernel)) rfl
theorem u_1199 : Cond.instanceMethod ⟨"FilterGuard$Num", "raiseLeast", "(J)V"⟩ ∈ fg_g := fg_in (List.mem_of_getElem? (i := 1199) (by decide +kernel)) rfl
theorem u_1200 : Cond.selects "FilterGuard$Num" ⟨"FilterGuard$Num", "raiseLeast", "(J)V"⟩ ⟨"FilterGuard$Num", "raiseLeast", "(J)V"⟩ ∈ fg_g := fg_in (List.mem_of_getElem? (i := 1200) (by decide +kernel)) rfl
theorem d_Num_settle_94 : decode prog_8_method_12_code 94 = .ok (.aload_n 0, 1) := by decide +kernel
theorem d_Num_settle_95 : decode prog_8_method_12_code 95 = .ok (.aload_n 0, 1) := by decide +kernel
theorem d_Num_settle_96 : decode prog_8_method_12_code 96 = .ok (.getfield 27, 3) := by decide +kernel
theorem d_Num_settle_99 : decode prog_8_method_12_code 99 = .ok (.invokevirtual 44, 3) := by decide +kernel
theorem u_1226 : Cond.methodLink "FilterGuard$Num" 44 ⟨"FilterGuard$Num", "lowerGreatest", "(J)V"⟩ ∈ fg_g := fg_in (List.mem_of_getElem? (i := 1226) (by decide +kernel)) rfl
theorem d_Num_settle_2 : decode prog_8_method_12_code 2 = .ok (.iload_n 1, 1) := by decide +kernel
theorem d_Num_settle_3 : decode prog_8_method_12_code 3 = .ok (.iconst 3, 1) := by decide +kernel
theorem d_Num_settle_4 : decode prog_8_method_12_code 4 = .ok (.if_icmp .ge 207, 3) := by decide +kernel
theorem d_Num_settle_211 : decode prog_8_method_12_code 211 = .ok (.iconst 1, 1) := by decide +kernel
theorem d_Num_settle_212 : decode prog_8_method_12_code 212 = .ok (.ireturn, 1) := by decide +kernel
theorem d_Num_settle_7 : decode prog_8_method_12_code 7 = .ok (.aload_n 0, 1) := by decide +kernel
theorem d_Num_settle_8 : decode prog_8_method_12_code 8 = .ok (.aload_n 0, 1) := by decide +kernel
theorem d_Num_settle_9 : decode prog_8_method_12_code 9 = .ok (.getfield 9, 3) := by decide +kernel
theorem d_Num_settle_12 : decode prog_8_method_12_code 12 = .ok (.invokevirtual 40, 3) := by decide +kernel
theorem d_Num_settle_15 : decode prog_8_method_12_code 15 = .ok (.aload_n 0, 1) := by decide +kernel
theorem d_Num_settle_16 : decode prog_8_method_12_code 16 = .ok (.aload_n 0, 1) := by decide +kernel
theorem d_Num_settle_17 : decode prog_8_method_12_code 17 = .ok (.getfield 9, 3) := by decide +kernel
theorem d_Num_settle_20 : decode prog_8_method_12_code 20 = .ok (.aload_n 0, 1) := by decide +kernel
theorem d_Num_settle_21 : decode prog_8_method_12_code 21 = .ok (.getfield 15, 3) := by decide +kernel
theorem d_Num_settle_24 : decode prog_8_method_12_code 24 = .ok (.lor, 1) := by decide +kernel
theorem d_Num_settle_25 : decode prog_8_method_12_code 25 = .ok (.invokevirtual 44, 3) := by decide +kernel
theorem d_Num_settle_28 : decode prog_8_method_12_code 28 = .ok (.aload_n 0, 1) := by decide +kernel
theorem d_Num_settle_29 : decode prog_8_method_12_code 29 = .ok (.getfield 18, 3) := by decide +kernel
theorem d_Num_settle_32 : decode prog_8_method_12_code 32 = .ok (.aload_n 0, 1) := by decide +kernel
theorem d_Num_settle_33 : decode prog_8_method_12_code 33 = .ok (.getfield 21, 3) := by decide +kernel
theorem d_Num_settle_36 : decode prog_8_method_12_code 36 = .ok (.lxor, 1) := by decide +kernel
theorem d_Num_settle_37 : decode prog_8_method_12_code 37 = .ok (.lconst 0, 1) := by decide +kernel
theorem d_Num_settle_38 : decode prog_8_method_12_code 38 = .ok (.lcmp, 1) := by decide +kernel
theorem d_Num_settle_39 : decode prog_8_method_12_code 39 = .ok (.ifCond .lt 33, 3) := by decide +kernel
theorem d_Num_settle_42 : decode prog_8_method_12_code 42 = .ok (.aload_n 0, 1) := by decide +kernel
theorem d_Num_settle_43 : decode prog_8_method_12_code 43 = .ok (.aload_n 0, 1) := by decide +kernel
theorem d_Num_settle_44 : decode prog_8_method_12_code 44 = .ok (.getfield 24, 3) := by decide +kernel
theorem d_Num_settle_47 : decode prog_8_method_12_code 47 = .ok (.aload_n 0, 1) := by decide +kernel
theorem d_Num_settle_48 : decode prog_8_method_12_code 48 = .ok (.getfield 18, 3) := by decide +kernel
theorem d_Num_settle_51 : decode prog_8_method_12_code 51 = .ok (.invokestatic 47, 3) := by decide +kernel
theorem u_1227 : Cond.methodLink "FilterGuard$Num" 47 ⟨"java/lang/Math", "max", "(JJ)J"⟩ ∈ fg_g := fg_in (List.mem_of_getElem? (i := 1227) (by decide +kernel)) rfl
theorem u_1228 : Cond.static ⟨"java/lang/Math", "max", "(JJ)J"⟩ ∈ fg_g := fg_in (List.mem_of_getElem? (i := 1228) (by decide +kernel)) rfl
theorem u_1229 : Cond.code ⟨"java/lang/Math", "max", "(JJ)J"⟩ prog_21_method_66_code 4 (some .long) ∈ fg_g := fg_in (List.mem_of_getElem? (i := 1229) (by decide +kernel)) rfl
theorem d_Num_settle_54 : decode prog_8_method_12_code 54 = .ok (.putfield 24, 3) := by decide +kernel
theorem d_Num_settle_57 : decode prog_8_method_12_code 57 = .ok (.aload_n 0, 1) := by decide +kernel
theorem d_Num_settle_58 : decode prog_8_method_12_code 58 = .ok (.aload_n 0, 1) := by decide +kernel
theorem d_Num_settle_59 : decode prog_8_method_12_code 59 = .ok (.getfield 27, 3) := by decide +kernel
theorem d_Num_settle_62 : decode prog_8_method_12_code 62 = .ok (.aload_n 0, 1) := by decide +kernel
theorem d_Num_settle_63 : decode prog_8_method_12_code 63 = .ok (.getfield 21, 3) := by decide +kernel
theorem d_Num_settle_66 : decode prog_8_method_12_code 66 = .ok (.invokestatic 53, 3) := by decide +kernel
theorem u_1230 : Cond.methodLink "FilterGuard$Num" 53 ⟨"java/lang/Math", "min", "(JJ)J"⟩ ∈ fg_g := fg_in (List.mem_of_getElem? (i := 1230) (by decide +kernel)) rfl
theorem u_1231 : Cond.static ⟨"java/lang/Math", "min", "(JJ)J"⟩ ∈ fg_g := fg_in (List.mem_of_getElem? (i := 1231) (by decide +kernel)) rfl
theorem u_1232 : Cond.code ⟨"java/lang/Math", "min", "(JJ)J"⟩ prog_21_method_70_code 4 (some .long) ∈ fg_g := fg_in (List.mem_of_getElem? (i := 1232) (by decide +kernel)) rfl
theorem d_Num_settle_69 : decode prog_8_method_12_code 69 = .ok (.putfield 27, 3) := by decide +kernel
theorem d_Num_settle_0 : decode prog_8_method_12_code 0 = .ok (.iconst 0, 1) := by decide +kernel
theorem d_Num_settle_1 : decode prog_8_method_12_code 1 = .ok (.istore_n 1, 1) := by decide +kernel
abbrev y_Num_settle : MethodName := ⟨"FilterGuard$Num", "settle", "()Z"⟩
def rm_Num_settle : Room := { frames := 2, cells := 0, slots := 0, locals := 60 }
abbrev q_Num_settle (D : va_G) (ad : Nat → Nat → Nat) (ca : Nat → ClassId) (N : Nat → Nat) (M0 MZ : me_M) (RZ : Int32) (A : Nat → Prop) : Array Value → Jvm.State → Outcome → Jvm.State → Prop := va_Qi (fun r (_ : Unit) => r = RZ ∧ me_wf N MZ ∧ me_kp M0 MZ ∧ (RZ = 1 ∨ RZ = 0)) (fg_B D A (fun _ => me_W ad ca MZ) (fun _ => [])) A
set_option maxHeartbeats 4000000 in
set_option maxRecDepth 100000 in
theorem c_Num_settle (l : Launch) (D : va_G) (ad : Nat → Nat → Nat) (ca : Nat → ClassId) (N : Nat → Nat) (M0 MZ : me_M) (RZ : Int32) (j0 : Nat) (h : f_Num_settle M0 j0 = (some (MZ, RZ))) (hwf : me_wf N M0) (hj0 : j0 < N 11) (sz : Nat) : Met l y_Num_settle (fg_w y_Num_settle prog_8_method_12_code 4 (some .boolean)) rm_Num_settle (va_Pc [.ref (ad 11 j0)] (fz_P D (me_T ca) (me_W ad ca M0) sz)) (q_Num_settle D ad ca N M0 MZ RZ (va_A (me_W ad ca M0) sz)) rm_Num_settle.cells rm_Num_settle.slots (va_A (me_W ad ca M0) sz) := by
  refine fz_enter (fun A => q_Num_settle D ad ca N M0 MZ RZ A) (by decide +kernel) (Nat.le_of_ble_eq_true rfl) ?_
  intro p e s m below meth c ls A hx hb hml hown hts hr hlocks hin hP hK hD hS hA hX hl hz
  have hl : lv_has ls 4 [(0, .ref (ad 11 j0))] := hl
  unfold f_Num_settle at h
  have hkp : me_kp M0 M0 := me_kp.rf
  have hkb := hkp
  have b_102 : ∀ (k2 : me_M → Int32 → Option (me_M × Int32)) (hk2 : ∀ (M : me_M) (y1 : Int32) (H : Heap) (locs : List Loc) (ls : Array Slot), k2 M y1 = (some (MZ, RZ)) → me_wf N M → me_kp M0 M → va_P D classes (me_W ad ca M) H → va_D A (me_W ad ca M) → va_S A s.heap H locs → lv_has ls 4 [(0, .ref (ad 11 j0)), (1, .int y1)] → W p l e rm_Num_settle s m [.ref (ad 11 j0)].toArray below meth c H locs 0 0 (MQ below (q_Num_settle D ad ca N M0 MZ RZ A) [.ref (ad 11 j0)].toArray s rm_Num_settle.cells rm_Num_settle.slots A) (F0 m 2 ls [])), ∀ (M : me_M) (y1 : Int32) (H : Heap) (locs : List Loc) (ls : Array Slot), f_Num_settle_b102 k2 j0 M y1 = (some (MZ, RZ)) → me_wf N M → me_kp M0 M → va_P D classes (me_W ad ca M) H → va_D A (me_W ad ca M) → va_S A s.heap H locs → lv_has ls 4 [(0, .ref (ad 11 j0)), (1, .int y1)] → W p l e rm_Num_settle s m [.ref (ad 11 j0)].toArray below meth c H locs 0 0 (MQ below (q_Num_settle D ad ca N M0 MZ RZ A) [.ref (ad 11 j0)].toArray s rm_Num_settle.cells rm_Num_settle.slots A) (F0 m 102 ls []) := by
    intro k2 hk2 M y1 H locs ls h hwf hkp hP hD hS hl
    unfold f_Num_settle_b102 at h
    have hkb := hkp
    refine lv_aload_n hx hb d_Num_settle_102 rfl (lv_at hl 0 rfl) ?_
    refine g_Num_3 hx hb hts hown hK hP hwf hj0 (hts _ u_376) d_Num_settle_103 ?_
    refine lv_aload_n hx hb d_Num_settle_106 rfl (lv_at hl 0 rfl) ?_
    refine g_Num_2 hx hb hts hown hK hP hwf hj0 (hts _ u_373) d_Num_settle_107 ?_
    obtain ⟨r1, er1, h⟩ := bd_ob h
    refine me_pani' (r0 := r1) (fg_runS (wc := []) (tc := []) (A2 := A) (As := [.long (mL M 11 j0 3), .long (mL M 11 j0 2)]) (rest := []) ⟨hx, hb, hml, hown, hts⟩ (c_Num_isBelow l D r1 (mL M 11 j0 3) (mL M 11 j0 2) er1 _) (by show fg_nm y_Num_isBelow 2; decide +kernel) u_1062 u_1063 u_187 u_1064 ⟨Nat.le_of_ble_eq_true rfl, Nat.le_of_ble_eq_true rfl⟩ hX me_P0 (hK.sub (tys' := []) [] rfl) me_D0 rfl hl.1 (Nat.le_of_ble_eq_true rfl) d_Num_settle_110 ⟨Nat.le_of_ble_eq_true rfl, Nat.le_of_ble_eq_true rfl⟩) hP hD hK hS hA rfl rfl (fun H locs hw hP hD hS => ?_)
    have zr1 := hw
    refine lv_if_ne (tgt := 128) hx hb d_Num_settle_113 (by decide) (fun c2 => ?_) (fun c2 => ?_)
    · have h := if_f c2 h
      refine lv_iconst (v := 0) hx hb d_Num_settle_128 (by decide) ?_
      exact me_retz (me_kp M0) h (by decide) hx hb hr hlocks hwf hkp hP hK hD hS d_Num_settle_129
    have h := if_t c2 h
    refine lv_aload_n hx hb d_Num_settle_116 rfl (lv_at hl 0 rfl) ?_
    refine g_Num_4 hx hb hts hown hK hP hwf hj0 (hts _ u_379) d_Num_settle_117 ?_
    refine lv_aload_n hx hb d_Num_settle_120 rfl (lv_at hl 0 rfl) ?_
    refine g_Num_5 hx hb hts hown hK hP hwf hj0 (hts _ u_381) d_Num_settle_121 ?_
    refine W.lcmp hx hb d_Num_settle_124 ?_
    refine lv_if_le (tgt := 130) hx hb d_Num_settle_125 (by decide) (fun c3 => ?_) (fun c3 => ?_)
    · have h := if_f (Int64.not_lt.mpr ((lg_cmp_le _ _).mp c3)) h
      refine lv_aload_n hx hb d_Num_settle_130 rfl (lv_at hl 0 rfl) ?_
      refine g_Num_2 hx hb hts hown hK hP hwf hj0 (hts _ u_373) d_Num_settle_131 ?_
      refine lv_aload_n hx hb d_Num_settle_134 rfl (lv_at hl 0 rfl) ?_
      refine g_Num_3 hx hb hts hown hK hP hwf hj0 (hts _ u_376) d_Num_settle_135 ?_
      refine lv_lxor hx hb d_Num_settle_138 ?_
      obtain ⟨r4, er4, h⟩ := bd_ob h
      refine me_panl' (r0 := r4) (fg_runS (wc := []) (tc := []) (A2 := A) (As := [.long ((mL M 11 j0 2) ^^^ (mL M 11 j0 3))]) (rest := []) ⟨hx, hb, hml, hown, hts⟩ (c_Num_downFromHighest l D r4 ((mL M 11 j0 2) ^^^ (mL M 11 j0 3)) er4 _) (by show fg_nm y_Num_downFromHighest 1; decide +kernel) u_1233 u_1234 u_187 u_1235 ⟨Nat.le_of_ble_eq_true rfl, Nat.le_of_ble_eq_true rfl⟩ hX me_P0 (hK.sub (tys' := []) [] rfl) me_D0 rfl hl.1 (Nat.le_of_ble_eq_true rfl) d_Num_settle_139 ⟨Nat.le_of_ble_eq_true rfl, Nat.le_of_ble_eq_true rfl⟩) hP hD hK hS hA rfl rfl (fun H locs hw hP hD hS => ?_)
      refine lv_lstore_n (lv' := [(2, .long r4), (0, .ref (ad 11 j0)), (1, .int y1)]) hx hb d_Num_settle_142 rfl hl (by decide) rfl (fun ls hl => ?_)
      refine lv_aload_n hx hb d_Num_settle_143 rfl (lv_at hl 1 rfl) ?_
      refine g_Num_0 hx hb hts hown hK hP hwf hj0 (hts _ u_367) d_Num_settle_144 ?_
      refine lv_aload_n hx hb d_Num_settle_147 rfl (lv_at hl 1 rfl) ?_
      refine g_Num_2 hx hb hts hown hK hP hwf hj0 (hts _ u_373) d_Num_settle_148 ?_
      refine lv_lxor hx hb d_Num_settle_151 ?_
      refine lv_aload_n hx hb d_Num_settle_152 rfl (lv_at hl 1 rfl) ?_
      refine g_Num_1 hx hb hts hown hK hP hwf hj0 (hts _ u_371) d_Num_settle_153 ?_
      refine lv_ldc2 hx hb hown (hts _ u_1061) d_Num_settle_156 ?_
      refine lv_lxor hx hb d_Num_settle_159 ?_
      refine lv_land hx hb d_Num_settle_160 ?_
      refine lv_lload_n hx hb d_Num_settle_161 rfl (lv_at hl 0 rfl) ?_
      refine lv_ldc2 hx hb hown (hts _ u_1061) d_Num_settle_162 ?_
      refine lv_lxor hx hb d_Num_settle_165 ?_
      refine lv_land hx hb d_Num_settle_166 ?_
      obtain ⟨v5, ev5, h⟩ := st_ob h
      refine fg_topl (y := v5) ev5.symm ?_
      refine lv_lconst (v := 0) hx hb d_Num_settle_167 (by decide) ?_
      refine W.lcmp hx hb d_Num_settle_168 ?_
      refine lv_if_eq (tgt := 174) hx hb d_Num_settle_169 (by decide) (fun c6 => ?_) (fun c6 => ?_)
      · have h := if_t ((lg_cmp_eq _ _).mp c6) h
        refine lv_aload_n hx hb d_Num_settle_174 rfl (lv_at hl 1 rfl) ?_
        refine lv_aload_n hx hb d_Num_settle_175 rfl (lv_at hl 1 rfl) ?_
        refine g_Num_0 hx hb hts hown hK hP hwf hj0 (hts _ u_367) d_Num_settle_176 ?_
        refine lv_lload_n hx hb d_Num_settle_179 rfl (lv_at hl 0 rfl) ?_
        refine lv_land hx hb d_Num_settle_180 ?_
        refine lv_aload_n hx hb d_Num_settle_181 rfl (lv_at hl 1 rfl) ?_
        refine g_Num_2 hx hb hts hown hK hP hwf hj0 (hts _ u_373) d_Num_settle_182 ?_
        refine lv_lload_n hx hb d_Num_settle_185 rfl (lv_at hl 0 rfl) ?_
        refine lv_ldc2 hx hb hown (hts _ u_1061) d_Num_settle_186 ?_
        refine lv_lxor hx hb d_Num_settle_189 ?_
        refine lv_land hx hb d_Num_settle_190 ?_
        refine lv_lor hx hb d_Num_settle_191 ?_
        obtain ⟨M7, eM7, h⟩ := st_ob h
        refine p_Num_0 eM7 hx hb hts hown hK hP hD hwf hS hj0 (hts _ u_367) d_Num_settle_192 (fun H locs hP hD hwf hS => ?_)
        have hkp := kp_L eM7 hkp
        refine lv_aload_n hx hb d_Num_settle_195 rfl (lv_at hl 1 rfl) ?_
        refine lv_dup hx hb d_Num_settle_196 rfl ?_
        refine g_Num_1 hx hb hts hown hK hP hwf hj0 (hts _ u_371) d_Num_settle_197 ?_
        refine lv_lload_n hx hb d_Num_settle_200 rfl (lv_at hl 0 rfl) ?_
        refine lv_land hx hb d_Num_settle_201 ?_
        obtain ⟨M8, eM8, h⟩ := st_ob h
        refine p_Num_1 eM8 hx hb hts hown hK hP hD hwf hS hj0 (hts _ u_371) d_Num_settle_202 (fun H locs hP hD hwf hS => ?_)
        have hkp := kp_L eM8 hkp
        refine lv_iinc (v := y1 + 1) (lv' := [(1, .int (y1 + 1)), (2, .long r4), (0, .ref (ad 11 j0))]) hx hb d_Num_settle_205 hl (k := 2) rfl (by rfl) (by decide) rfl (fun ls hl => ?_)
        refine lv_goto (tgt := 2) hx hb d_Num_settle_208 (by decide) ?_
        exact hk2 M8 (y1 + 1) _ _ _ h hwf hkp hP hD hS (lv_sub hl [2, 0] rfl)
      have h := if_f (fun z => c6 ((lg_cmp_eq _ _).mpr z)) h
      refine lv_iconst (v := 0) hx hb d_Num_settle_172 (by decide) ?_
      exact me_retz (me_kp M0) h (by decide) hx hb hr hlocks hwf hkp hP hK hD hS d_Num_settle_173
    have h := if_t (Int64.not_le.mp (fun z => c3 ((lg_cmp_le _ _).mpr z))) h
    refine lv_iconst (v := 0) hx hb d_Num_settle_128 (by decide) ?_
    exact me_retz (me_kp M0) h (by decide) hx hb hr hlocks hwf hkp hP hK hD hS d_Num_settle_129
  have b_72 : ∀ (k2 : me_M → Int32 → Option (me_M × Int32)) (hk2 : ∀ (M : me_M) (y1 : Int32) (H : Heap) (locs : List Loc) (ls : Array Slot), k2 M y1 = (some (MZ, RZ)) → me_wf N M → me_kp M0 M → va_P D classes (me_W ad ca M) H → va_D A (me_W ad ca M) → va_S A s.heap H locs → lv_has ls 4 [(0, .ref (ad 11 j0)), (1, .int y1)] → W p l e rm_Num_settle s m [.ref (ad 11 j0)].toArray below meth c H locs 0 0 (MQ below (q_Num_settle D ad ca N M0 MZ RZ A) [.ref (ad 11 j0)].toArray s rm_Num_settle.cells rm_Num_settle.slots A) (F0 m 2 ls [])), ∀ (M : me_M) (y1 : Int32) (H : Heap) (locs : List Loc) (ls : Array Slot), f_Num_settle_b72 k2 j0 M y1 = (some (MZ, RZ)) → me_wf N M → me_kp M0 M → va_P D classes (me_W ad ca M) H → va_D A (me_W ad ca M) → va_S A s.heap H locs → lv_has ls 4 [(0, .ref (ad 11 j0)), (1, .int y1)] → W p l e rm_Num_settle s m [.ref (ad 11 j0)].toArray below meth c H locs 0 0 (MQ below (q_Num_settle D ad ca N M0 MZ RZ A) [.ref (ad 11 j0)].toArray s rm_Num_settle.cells rm_Num_settle.slots A) (F0 m 72 ls []) := by
    intro k2 hk2 M y1 H locs ls h hwf hkp hP hD hS hl
    unfold f_Num_settle_b72 at h
    have hkb := hkp
    refine lv_aload_n hx hb d_Num_settle_72 rfl (lv_at hl 0 rfl) ?_
    refine g_Num_4 hx hb hts hown hK hP hwf hj0 (hts _ u_379) d_Num_settle_73 ?_
    refine lv_aload_n hx hb d_Num_settle_76 rfl (lv_at hl 0 rfl) ?_
    refine g_Num_5 hx hb hts hown hK hP hwf hj0 (hts _ u_381) d_Num_settle_77 ?_
    refine lv_lxor hx hb d_Num_settle_80 ?_
    refine lv_lconst (v := 0) hx hb d_Num_settle_81 (by decide) ?_
    refine W.lcmp hx hb d_Num_settle_82 ?_
    refine lv_if_lt (tgt := 102) hx hb d_Num_settle_83 (by decide) (fun c9 => ?_) (fun c9 => ?_)
    · have h := if_t ((lg_cmp_lt _ _).mp c9) h
      exact b_102 _ hk2 M y1 _ _ _ h hwf hkp hP hD hS (lv_sub hl [0, 1] rfl)
    have h := if_f (fun z => c9 ((lg_cmp_lt _ _).mpr z)) h
    refine lv_aload_n hx hb d_Num_settle_86 rfl (lv_at hl 0 rfl) ?_
    refine lv_aload_n hx hb d_Num_settle_87 rfl (lv_at hl 0 rfl) ?_
    refine g_Num_4 hx hb hts hown hK hP hwf hj0 (hts _ u_379) d_Num_settle_88 ?_
    obtain ⟨M10, eM10, h⟩ := bd_ob h
    refine me_thenv0 (M1 := M10) (me_runV (C := "FilterGuard$Num") (As := [.long (mL M 11 j0 4)]) (rest := []) ⟨hx, hb, hml, hown, hts⟩ (c_Num_raiseLeast l D ad ca N M M10 j0 (mL M 11 j0 4) eM10 hwf hj0 _) rfl (by show fg_nm y_Num_raiseLeast 1; decide +kernel) u_1225 u_1199 u_1200 u_187 u_1201 ⟨Nat.le_of_ble_eq_true rfl, Nat.le_of_ble_eq_true rfl⟩ hX hz hK hP hD hwf hS hA hj0 (by decide) rfl rfl rfl hl.1 (Nat.le_of_ble_eq_true rfl) d_Num_settle_91 ⟨Nat.le_of_ble_eq_true rfl, Nat.le_of_ble_eq_true rfl⟩) hP hD hK hS hA rfl rfl (fun H locs hw hP hD hS => ?_)
    obtain ⟨hwf, hk9⟩ := hw
    have hkp := hkp.tr hk9
    refine lv_aload_n hx hb d_Num_settle_94 rfl (lv_at hl 0 rfl) ?_
    refine lv_aload_n hx hb d_Num_settle_95 rfl (lv_at hl 0 rfl) ?_
    refine g_Num_5 hx hb hts hown hK hP hwf hj0 (hts _ u_381) d_Num_settle_96 ?_
    obtain ⟨M11, eM11, h⟩ := bd_ob h
    refine me_thenv0 (M1 := M11) (me_runV (C := "FilterGuard$Num") (As := [.long (mL M10 11 j0 5)]) (rest := []) ⟨hx, hb, hml, hown, hts⟩ (c_Num_lowerGreatest l D ad ca N M10 M11 j0 (mL M10 11 j0 5) eM11 hwf hj0 _) rfl (by show fg_nm y_Num_lowerGreatest 1; decide +kernel) u_1226 u_1195 u_1196 u_187 u_1197 ⟨Nat.le_of_ble_eq_true rfl, Nat.le_of_ble_eq_true rfl⟩ hX hz hK hP hD hwf hS hA hj0 (by decide) rfl rfl rfl hl.1 (Nat.le_of_ble_eq_true rfl) d_Num_settle_99 ⟨Nat.le_of_ble_eq_true rfl, Nat.le_of_ble_eq_true rfl⟩) hP hD hK hS hA rfl rfl (fun H locs hw hP hD hS => ?_)
    obtain ⟨hwf, hk9⟩ := hw
    have hkp := hkp.tr hk9
    exact b_102 _ hk2 M11 y1 _ _ _ h hwf hkp hP hD hS (lv_sub hl [0, 1] rfl)
  have b_2 : ∀ (fu : Nat), ∀ (M : me_M) (y1 : Int32) (H : Heap) (locs : List Loc) (ls : Array Slot), f_Num_settle_l2 j0 fu M y1 = (some (MZ, RZ)) → me_wf N M → me_kp M0 M → va_P D classes (me_W ad ca M) H → va_D A (me_W ad ca M) → va_S A s.heap H locs → lv_has ls 4 [(0, .ref (ad 11 j0)), (1, .int y1)] → W p l e rm_Num_settle s m [.ref (ad 11 j0)].toArray below meth c H locs 0 0 (MQ below (q_Num_settle D ad ca N M0 MZ RZ A) [.ref (ad 11 j0)].toArray s rm_Num_settle.cells rm_Num_settle.slots A) (F0 m 2 ls []) := by
    intro fu
    induction fu with
    | zero =>
      intro M y1 H locs ls h hwf hkp hP hD hS hl
      cases h
    | succ fu ih =>
      intro M y1 H locs ls h hwf hkp hP hD hS hl
      unfold f_Num_settle_l2 at h
      have hkb := hkp
      refine lv_iload_n hx hb d_Num_settle_2 rfl (lv_at hl 1 rfl) ?_
      refine lv_iconst (v := 3) hx hb d_Num_settle_3 (by decide) ?_
      refine lv_icmp_ge (tgt := 211) hx hb d_Num_settle_4 (by decide) (fun c12 => ?_) (fun c12 => ?_)
      · have h := if_t c12 h
        refine lv_iconst (v := 1) hx hb d_Num_settle_211 (by decide) ?_
        exact me_retz (me_kp M0) h (by decide) hx hb hr hlocks hwf hkp hP hK hD hS d_Num_settle_212
      have h := if_f c12 h
      refine lv_aload_n hx hb d_Num_settle_7 rfl (lv_at hl 0 rfl) ?_
      refine lv_aload_n hx hb d_Num_settle_8 rfl (lv_at hl 0 rfl) ?_
      refine g_Num_0 hx hb hts hown hK hP hwf hj0 (hts _ u_367) d_Num_settle_9 ?_
      obtain ⟨M13, eM13, h⟩ := bd_ob h
      refine me_thenv0 (M1 := M13) (me_runV (C := "FilterGuard$Num") (As := [.long (mL M 11 j0 0)]) (rest := []) ⟨hx, hb, hml, hown, hts⟩ (c_Num_raiseLeast l D ad ca N M M13 j0 (mL M 11 j0 0) eM13 hwf hj0 _) rfl (by show fg_nm y_Num_raiseLeast 1; decide +kernel) u_1225 u_1199 u_1200 u_187 u_1201 ⟨Nat.le_of_ble_eq_true rfl, Nat.le_of_ble_eq_true rfl⟩ hX hz hK hP hD hwf hS hA hj0 (by decide) rfl rfl rfl hl.1 (Nat.le_of_ble_eq_true rfl) d_Num_settle_12 ⟨Nat.le_of_ble_eq_true rfl, Nat.le_of_ble_eq_true rfl⟩) hP hD hK hS hA rfl rfl (fun H locs hw hP hD hS => ?_)
      obtain ⟨hwf, hk9⟩ := hw
      have hkp := hkp.tr hk9
      refine lv_aload_n hx hb d_Num_settle_15 rfl (lv_at hl 0 rfl) ?_
      refine lv_aload_n hx hb d_Num_settle_16 rfl (lv_at hl 0 rfl) ?_
      refine g_Num_0 hx hb hts hown hK hP hwf hj0 (hts _ u_367) d_Num_settle_17 ?_
      refine lv_aload_n hx hb d_Num_settle_20 rfl (lv_at hl 0 rfl) ?_
      refine g_Num_1 hx hb hts hown hK hP hwf hj0 (hts _ u_371) d_Num_settle_21 ?_
      refine lv_lor hx hb d_Num_settle_24 ?_
      obtain ⟨M14, eM14, h⟩ := bd_ob h
      refine me_thenv0 (M1 := M14) (me_runV (C := "FilterGuard$Num") (As := [.long ((mL M13 11 j0 0) ||| (mL M13 11 j0 1))]) (rest := []) ⟨hx, hb, hml, hown, hts⟩ (c_Num_lowerGreatest l D ad ca N M13 M14 j0 ((mL M13 11 j0 0) ||| (mL M13 11 j0 1)) eM14 hwf hj0 _) rfl (by show fg_nm y_Num_lowerGreatest 1; decide +kernel) u_1226 u_1195 u_1196 u_187 u_1197 ⟨Nat.le_of_ble_eq_true rfl, Nat.le_of_ble_eq_true rfl⟩ hX hz hK hP hD hwf hS hA hj0 (by decide) rfl rfl rfl hl.1 (Nat.le_of_ble_eq_true rfl) d_Num_settle_25 ⟨Nat.le_of_ble_eq_true rfl, Nat.le_of_ble_eq_true rfl⟩) hP hD hK hS hA rfl rfl (fun H locs hw hP hD hS => ?_)
      obtain ⟨hwf, hk9⟩ := hw
      have hkp := hkp.tr hk9
      refine lv_aload_n hx hb d_Num_settle_28 rfl (lv_at hl 0 rfl) ?_
      refine g_Num_2 hx hb hts hown hK hP hwf hj0 (hts _ u_373) d_Num_settle_29 ?_
      refine lv_aload_n hx hb d_Num_settle_32 rfl (lv_at hl 0 rfl) ?_
      refine g_Num_3 hx hb hts hown hK hP hwf hj0 (hts _ u_376) d_Num_settle_33 ?_
      refine lv_lxor hx hb d_Num_settle_36 ?_
      refine lv_lconst (v := 0) hx hb d_Num_settle_37 (by decide) ?_
      refine W.lcmp hx hb d_Num_settle_38 ?_
      refine lv_if_lt (tgt := 72) hx hb d_Num_settle_39 (by decide) (fun c15 => ?_) (fun c15 => ?_)
      · have h := if_t ((lg_cmp_lt _ _).mp c15) h
        exact b_72 _ ih M14 y1 _ _ _ h hwf hkp hP hD hS (lv_sub hl [0, 1] rfl)
      have h := if_f (fun z => c15 ((lg_cmp_lt _ _).mpr z)) h
      refine lv_aload_n hx hb d_Num_settle_42 rfl (lv_at hl 0 rfl) ?_
      refine lv_aload_n hx hb d_Num_settle_43 rfl (lv_at hl 0 rfl) ?_
      refine g_Num_4 hx hb hts hown hK hP hwf hj0 (hts _ u_379) d_Num_settle_44 ?_
      refine lv_aload_n hx hb d_Num_settle_47 rfl (lv_at hl 0 rfl) ?_
      refine g_Num_2 hx hb hts hown hK hP hwf hj0 (hts _ u_373) d_Num_settle_48 ?_
      refine va_mmax_long hx hb (hml.trans hl.1.symm) hown (hts _ u_1227) (hts _ u_1228) (hts _ u_193) (hts _ u_1229) (Nat.le_of_ble_eq_true rfl) (Nat.le_of_ble_eq_true rfl) (Nat.le_of_ble_eq_true rfl) (Nat.le_of_ble_eq_true rfl) d_Num_settle_51 ?_
      refine fg_topl (y := jlmax (mL M14 11 j0 4) (mL M14 11 j0 2)) rfl ?_
      obtain ⟨M16, eM16, h⟩ := st_ob h
      refine p_Num_4 eM16 hx hb hts hown hK hP hD hwf hS hj0 (hts _ u_379) d_Num_settle_54 (fun H locs hP hD hwf hS => ?_)
      have hkp := kp_L eM16 hkp
      refine lv_aload_n hx hb d_Num_settle_57 rfl (lv_at hl 0 rfl) ?_
      refine lv_aload_n hx hb d_Num_settle_58 rfl (lv_at hl 0 rfl) ?_
      refine g_Num_5 hx hb hts hown hK hP hwf hj0 (hts _ u_381) d_Num_settle_59 ?_
      refine lv_aload_n hx hb d_Num_settle_62 rfl (lv_at hl 0 rfl) ?_
      refine g_Num_3 hx hb hts hown hK hP hwf hj0 (hts _ u_376) d_Num_settle_63 ?_
      refine va_mmin_long hx hb (hml.trans hl.1.symm) hown (hts _ u_1230) (hts _ u_1231) (hts _ u_193) (hts _ u_1232) (Nat.le_of_ble_eq_true rfl) (Nat.le_of_ble_eq_true rfl) (Nat.le_of_ble_eq_true rfl) (Nat.le_of_ble_eq_true rfl) d_Num_settle_66 ?_
      refine fg_topl (y := jlmin (mL M16 11 j0 5) (mL M16 11 j0 3)) rfl ?_
      obtain ⟨M17, eM17, h⟩ := st_ob h
      refine p_Num_5 eM17 hx hb hts hown hK hP hD hwf hS hj0 (hts _ u_381) d_Num_settle_69 (fun H locs hP hD hwf hS => ?_)
      have hkp := kp_L eM17 hkp
      exact b_72 _ ih M17 y1 _ _ _ h hwf hkp hP hD hS (lv_sub hl [0, 1] rfl)
  refine lv_iconst (v := 0) hx hb d_Num_settle_0 (by decide) ?_
  refine lv_istore_n (lv' := [(1, .int 0), (0, .ref (ad 11 j0))]) hx hb d_Num_settle_1 rfl hl (by decide) rfl (fun ls hl => ?_)
  exact b_2 _ M0 (0 : Int32) _ _ _ h hwf hkp hP hD hS (lv_sub hl [1, 0] rfl)
theorem d_Reckoner_operateWide_370 : decode prog_9_method_5_code 370 = .ok (.aload_n 0, 1) := by decide +kernel
theorem d_Reckoner_operateWide_371 : decode prog_9_method_5_code 371 = .ok (.getfield 21, 3) := by decide +kernel
theorem d_Reckoner_operateWide_374 : decode prog_9_method_5_code 374 = .ok (.invokevirtual 119, 3) := by decide +kernel
theorem u_1221 : Cond.methodLink "FilterGuard$Reckoner" 119 ⟨"FilterGuard$Num", "settle", "()Z"⟩ ∈ fg_g := fg_in (List.mem_of_getElem? (i := 1221) (by decide +kernel)) rfl
theorem u_1224 : Cond.code ⟨"FilterGuard$Num", "settle", "()Z"⟩ prog_8_method_12_code 4 (some .boolean) ∈ fg_g := fg_in (List.mem_of_getElem? (i := 1224) (by decide +kernel)) rfl
theorem u_1222 : Cond.instanceMethod ⟨"FilterGuard$Num", "settle", "()Z"⟩ ∈ fg_g := fg_in (List.mem_of_getElem? (i := 1222) (by decide +kernel)) rfl
theorem u_1223 : Cond.selects "FilterGuard$Num" ⟨"FilterGuard$Num", "settle", "()Z"⟩ ⟨"FilterGuard$Num", "settle", "()Z"⟩ ∈ fg_g := fg_in (List.mem_of_getElem? (i := 1223) (by decide +kernel)) rfl
theorem d_Reckoner_operateWide_377 : decode prog_9_method_5_code 377 = .ok (.ifCond .ne 10, 3) := by decide +kernel
theorem d_Reckoner_operateWide_387 : decode prog_9_method_5_code 387 = .ok (.aload 4, 2) := by decide +kernel
theorem d_Reckoner_operateWide_389 : decode prog_9_method_5_code 389 = .ok (.aload_n 0, 1) := by decide +kernel
theorem d_Reckoner_operateWide_390 : decode prog_9_method_5_code 390 = .ok (.getfield 21, 3) := by decide +kernel
theorem d_Reckoner_operateWide_393 : decode prog_9_method_5_code 393 = .ok (.invokevirtual 38, 3) := by decide +kernel
theorem d_Reckoner_operateWide_396 : decode prog_9_method_5_code 396 = .ok (.return_, 1) := by decide +kernel
theorem d_Reckoner_operateWide_380 : decode prog_9_method_5_code 380 = .ok (.aload_n 0, 1) := by decide +kernel
theorem d_Reckoner_operateWide_381 : decode prog_9_method_5_code 381 = .ok (.getfield 21, 3) := by decide +kernel
theorem d_Reckoner_operateWide_384 : decode prog_9_method_5_code 384 = .ok (.invokevirtual 65, 3) := by decide +kernel
theorem u_1130 : Cond.methodLink "FilterGuard$Reckoner" 65 ⟨"FilterGuard$Num", "any", "()V"⟩ ∈ fg_g := fg_in (List.mem_of_getElem? (i := 1130) (by decide +kernel)) rfl
theorem u_1133 : Cond.code ⟨"FilterGuard$Num", "any", "()V"⟩ prog_8_method_3_code 1 none ∈ fg_g := fg_in (List.mem_of_getElem? (i := 1133) (by decide +kernel)) rfl
theorem u_1131 : Cond.instanceMethod ⟨"FilterGuard$Num", "any", "()V"⟩ ∈ fg_g := fg_in (List.mem_of_getElem? (i := 1131) (by decide +kernel)) rfl
theorem u_1132 : Cond.selects "FilterGuard$Num" ⟨"FilterGuard$Num", "any", "()V"⟩ ⟨"FilterGuard$Num", "any", "()V"⟩ ∈ fg_g := fg_in (List.mem_of_getElem? (i := 1132) (by decide +kernel)) rfl
theorem d_Reckoner_operateWide_323 : decode prog_9_method_5_code 323 = .ok (.invokevirtual 55, 3) := by decide +kernel
theorem d_Reckoner_operateWide_326 : decode prog_9_method_5_code 326 = .ok (.aload_n 2, 1) := by decide +kernel
theorem d_Reckoner_operateWide_327 : decode prog_9_method_5_code 327 = .ok (.aload_n 0, 1) := by decide +kernel
theorem d_Reckoner_operateWide_328 : decode prog_9_method_5_code 328 = .ok (.getfield 27, 3) := by decide +kernel
theorem g_Reckoner_4 {p : Program} {l : Launch} {e : Env} {R : Room} {s : Jvm.State} {m : MethodId} {args : Array Value} {below : List Frame} {meth : Method} {c : Code} {H : Heap} {locs : List Loc} {cells slots : Nat} {Q : Jvm.State → Prop} {cc : ByteArray} {pc : Nat} {ls : Array Slot} {rest : List Value} {D : va_G} {ad : Nat → Nat → Nat} {ca : Nat → ClassId} {M : me_M} {N : Nat → Nat} {own : String} {index j : Nat} (hexec : p.tables.exec = Jvm.exec) (hb : c.code = cc) (hts : ∀ w ∈ fg_g, w.before args s = true) (hown : s.vm.findClass own = some m.cls) (hK : va_K D classes (me_T ca) s) (hP : va_P D classes (me_W ad ca M) H) (hwf : me_wf N M) (hj : j < N 8) (hlink : (Cond.fieldLink own index "FilterGuard$Reckoner" "limit" "LFilterGuard$Num;").before args s = true) (hdg : decode cc pc = .ok (.getfield index, 3)) (kk : W p l e R s m args below meth c H locs cells slots Q (F0 m (pc + 3) ls (va_rf ((mR M 8 j 4).map (ad 11)) :: rest))) : W p l e R s m args below meth c H locs cells slots Q (F0 m pc ls (.ref (ad 8 j) :: rest)) := me_get (k := 8) (f := 4) (C := "FilterGuard$Reckoner") (T := F_Reckoner) (Nf := 5) hexec hb hts i_Reckoner hown hK hP hwf hj (by decide) rfl (by decide) (by decide) hlink (fun _ h9 => h9) hdg kk
theorem d_Reckoner_operateWide_331 : decode prog_9_method_5_code 331 = .ok (.getfield 49, 3) := by decide +kernel
theorem d_Reckoner_operateWide_334 : decode prog_9_method_5_code 334 = .ok (.invokevirtual 61, 3) := by decide +kernel
theorem d_Reckoner_operateWide_337 : decode prog_9_method_5_code 337 = .ok (.ifCond .eq 15, 3) := by decide +kernel
theorem d_Reckoner_operateWide_352 : decode prog_9_method_5_code 352 = .ok (.aload_n 0, 1) := by decide +kernel
theorem d_Reckoner_operateWide_353 : decode prog_9_method_5_code 353 = .ok (.getfield 21, 3) := by decide +kernel
theorem d_Reckoner_operateWide_356 : decode prog_9_method_5_code 356 = .ok (.aload_n 2, 1) := by decide +kernel
theorem d_Reckoner_operateWide_357 : decode prog_9_method_5_code 357 = .ok (.invokevirtual 38, 3) := by decide +kernel
theorem d_Reckoner_operateWide_360 : decode prog_9_method_5_code 360 = .ok (.goto 10, 3) := by decide +kernel
theorem d_Reckoner_operateWide_340 : decode prog_9_method_5_code 340 = .ok (.aload_n 0, 1) := by decide +kernel
theorem d_Reckoner_operateWide_341 : decode prog_9_method_5_code 341 = .ok (.aload_n 2, 1) := by decide +kernel
theorem d_Reckoner_operateWide_342 : decode prog_9_method_5_code 342 = .ok (.aload_n 0, 1) := by decide +kernel
theorem d_Reckoner_operateWide_343 : decode prog_9_method_5_code 343 = .ok (.getfield 27, 3) := by decide +kernel
theorem d_Reckoner_operateWide_346 : decode prog_9_method_5_code 346 = .ok (.invokevirtual 84, 3) := by decide +kernel
theorem u_1190 : Cond.methodLink "FilterGuard$Reckoner" 84 ⟨"FilterGuard$Reckoner", "and", "(LFilterGuard$Num;LFilterGuard$Num;)V"⟩ ∈ fg_g := fg_in (List.mem_of_getElem? (i := 1190) (by decide +kernel)) rfl
theorem u_1193 : Cond.code ⟨"FilterGuard$Reckoner", "and", "(LFilterGuard$Num;LFilterGuard$Num;)V"⟩ prog_9_method_12_code 5 none ∈ fg_g := fg_in (List.mem_of_getElem? (i := 1193) (by decide +kernel)) rfl
theorem u_1192 : Cond.instanceMethod ⟨"FilterGuard$Reckoner", "and", "(LFilterGuard$Num;LFilterGuard$Num;)V"⟩ ∈ fg_g := fg_in (List.mem_of_getElem? (i := 1192) (by decide +kernel)) rfl
theorem u_24 : Cond.selects "FilterGuard$Reckoner" ⟨"FilterGuard$Reckoner", "and", "(LFilterGuard$Num;LFilterGuard$Num;)V"⟩ ⟨"FilterGuard$Reckoner", "and", "(LFilterGuard$Num;LFilterGuard$Num;)V"⟩ ∈ fg_g := fg_in (List.mem_of_getElem? (i := 24) (by decide +kernel)) rfl
theorem d_Reckoner_operateWide_349 : decode prog_9_method_5_code 349 = .ok (.goto 21, 3) := by decide +kernel
theorem d_Reckoner_operateWide_0 : decode prog_9_method_5_code 0 = .ok (.aload_n 0, 1) := by decide +kernel
theorem d_Reckoner_operateWide_1 : decode prog_9_method_5_code 1 = .ok (.getfield 21, 3) := by decide +kernel
theorem d_Reckoner_operateWide_4 : decode prog_9_method_5_code 4 = .ok (.invokevirtual 65, 3) := by decide +kernel
theorem d_Reckoner_operateWide_7 : decode prog_9_method_5_code 7 = .ok (.iload_n 1, 1) := by decide +kernel
theorem d_Reckoner_operateWide_8 : decode prog_9_method_5_code 8 = .ok (.tableswitch 355 0 14 #[76, 85, 94, 103, 112, 121, 130, 194, 355, 355, 355, 236, 256, 267, 276], 76) := by decide +kernel
theorem d_Reckoner_operateWide_84 : decode prog_9_method_5_code 84 = .ok (.aload_n 0, 1) := by decide +kernel
theorem d_Reckoner_operateWide_85 : decode prog_9_method_5_code 85 = .ok (.aload_n 2, 1) := by decide +kernel
theorem d_Reckoner_operateWide_86 : decode prog_9_method_5_code 86 = .ok (.aload_n 3, 1) := by decide +kernel
theorem d_Reckoner_operateWide_87 : decode prog_9_method_5_code 87 = .ok (.invokevirtual 68, 3) := by decide +kernel
theorem u_1135 : Cond.methodLink "FilterGuard$Reckoner" 68 ⟨"FilterGuard$Reckoner", "add", "(LFilterGuard$Num;LFilterGuard$Num;)V"⟩ ∈ fg_g := fg_in (List.mem_of_getElem? (i := 1135) (by decide +kernel)) rfl
theorem u_1138 : Cond.code ⟨"FilterGuard$Reckoner", "add", "(LFilterGuard$Num;LFilterGuard$Num;)V"⟩ prog_9_method_7_code 13 none ∈ fg_g := fg_in (List.mem_of_getElem? (i := 1138) (by decide +kernel)) rfl
theorem u_1137 : Cond.instanceMethod ⟨"FilterGuard$Reckoner", "add", "(LFilterGuard$Num;LFilterGuard$Num;)V"⟩ ∈ fg_g := fg_in (List.mem_of_getElem? (i := 1137) (by decide +kernel)) rfl
theorem u_19 : Cond.selects "FilterGuard$Reckoner" ⟨"FilterGuard$Reckoner", "add", "(LFilterGuard$Num;LFilterGuard$Num;)V"⟩ ⟨"FilterGuard$Reckoner", "add", "(LFilterGuard$Num;LFilterGuard$Num;)V"⟩ ∈ fg_g := fg_in (List.mem_of_getElem? (i := 19) (by decide +kernel)) rfl
theorem d_Reckoner_operateWide_90 : decode prog_9_method_5_code 90 = .ok (.goto 280, 3) := by decide +kernel
theorem d_Reckoner_operateWide_93 : decode prog_9_method_5_code 93 = .ok (.aload_n 0, 1) := by decide +kernel
theorem d_Reckoner_operateWide_94 : decode prog_9_method_5_code 94 = .ok (.aload_n 2, 1) := by decide +kernel
theorem d_Reckoner_operateWide_95 : decode prog_9_method_5_code 95 = .ok (.aload_n 3, 1) := by decide +kernel
theorem d_Reckoner_operateWide_96 : decode prog_9_method_5_code 96 = .ok (.invokevirtual 72, 3) := by decide +kernel
theorem u_1149 : Cond.methodLink "FilterGuard$Reckoner" 72 ⟨"FilterGuard$Reckoner", "subtract", "(LFilterGuard$Num;LFilterGuard$Num;)V"⟩ ∈ fg_g := fg_in (List.mem_of_getElem? (i := 1149) (by decide +kernel)) rfl
theorem u_1152 : Cond.code ⟨"FilterGuard$Reckoner", "subtract", "(LFilterGuard$Num;LFilterGuard$Num;)V"⟩ prog_9_method_8_code 13 none ∈ fg_g := fg_in (List.mem_of_getElem? (i := 1152) (by decide +kernel)) rfl
theorem u_1151 : Cond.instanceMethod ⟨"FilterGuard$Reckoner", "subtract", "(LFilterGuard$Num;LFilterGuard$Num;)V"⟩ ∈ fg_g := fg_in (List.mem_of_getElem? (i := 1151) (by decide +kernel)) rfl
theorem u_20 : Cond.selects "FilterGuard$Reckoner" ⟨"FilterGuard$Reckoner", "subtract", "(LFilterGuard$Num;LFilterGuard$Num;)V"⟩ ⟨"FilterGuard$Reckoner", "subtract", "(LFilterGuard$Num;LFilterGuard$Num;)V"⟩ ∈ fg_g := fg_in (List.mem_of_getElem? (i := 20) (by decide +kernel)) rfl
theorem d_Reckoner_operateWide_99 : decode prog_9_method_5_code 99 = .ok (.goto 271, 3) := by decide +kernel
theorem d_Reckoner_operateWide_102 : decode prog_9_method_5_code 102 = .ok (.aload_n 0, 1) := by decide +kernel
theorem d_Reckoner_operateWide_103 : decode prog_9_method_5_code 103 = .ok (.aload_n 2, 1) := by decide +kernel
theorem d_Reckoner_operateWide_104 : decode prog_9_method_5_code 104 = .ok (.aload_n 3, 1) := by decide +kernel
theorem d_Reckoner_operateWide_105 : decode prog_9_method_5_code 105 = .ok (.invokevirtual 75, 3) := by decide +kernel
theorem u_1153 : Cond.methodLink "FilterGuard$Reckoner" 75 ⟨"FilterGuard$Reckoner", "multiply", "(LFilterGuard$Num;LFilterGuard$Num;)V"⟩ ∈ fg_g := fg_in (List.mem_of_getElem? (i := 1153) (by decide +kernel)) rfl
theorem u_1156 : Cond.code ⟨"FilterGuard$Reckoner", "multiply", "(LFilterGuard$Num;LFilterGuard$Num;)V"⟩ prog_9_method_9_code 4 none ∈ fg_g := fg_in (List.mem_of_getElem? (i := 1156) (by decide +kernel)) rfl
theorem u_1155 : Cond.instanceMethod ⟨"FilterGuard$Reckoner", "multiply", "(LFilterGuard$Num;LFilterGuard$Num;)V"⟩ ∈ fg_g := fg_in (List.mem_of_getElem? (i := 1155) (by decide +kernel)) rfl
theorem u_21 : Cond.selects "FilterGuard$Reckoner" ⟨"FilterGuard$Reckoner", "multiply", "(LFilterGuard$Num;LFilterGuard$Num;)V"⟩ ⟨"FilterGuard$Reckoner", "multiply", "(LFilterGuard$Num;LFilterGuard$Num;)V"⟩ ∈ fg_g := fg_in (List.mem_of_getElem? (i := 21) (by decide +kernel)) rfl
theorem d_Reckoner_operateWide_108 : decode prog_9_method_5_code 108 = .ok (.goto 262, 3) := by decide +kernel
theorem d_Reckoner_operateWide_111 : decode prog_9_method_5_code 111 = .ok (.aload_n 0, 1) := by decide +kernel
theorem d_Reckoner_operateWide_112 : decode prog_9_method_5_code 112 = .ok (.aload_n 2, 1) := by decide +kernel
theorem d_Reckoner_operateWide_113 : decode prog_9_method_5_code 113 = .ok (.aload_n 3, 1) := by decide +kernel
theorem d_Reckoner_operateWide_114 : decode prog_9_method_5_code 114 = .ok (.invokevirtual 78, 3) := by decide +kernel
theorem u_1177 : Cond.methodLink "FilterGuard$Reckoner" 78 ⟨"FilterGuard$Reckoner", "divide", "(LFilterGuard$Num;LFilterGuard$Num;)V"⟩ ∈ fg_g := fg_in (List.mem_of_getElem? (i := 1177) (by decide +kernel)) rfl
theorem u_1180 : Cond.code ⟨"FilterGuard$Reckoner", "divide", "(LFilterGuard$Num;LFilterGuard$Num;)V"⟩ prog_9_method_10_code 5 none ∈ fg_g := fg_in (List.mem_of_getElem? (i := 1180) (by decide +kernel)) rfl
theorem u_1179 : Cond.instanceMethod ⟨"FilterGuard$Reckoner", "divide", "(LFilterGuard$Num;LFilterGuard$Num;)V"⟩ ∈ fg_g := fg_in (List.mem_of_getElem? (i := 1179) (by decide +kernel)) rfl
theorem u_22 : Cond.selects "FilterGuard$Reckoner" ⟨"FilterGuard$Reckoner", "divide", "(LFilterGuard$Num;LFilterGuard$Num;)V"⟩ ⟨"FilterGuard$Reckoner", "divide", "(LFilterGuard$Num;LFilterGuard$Num;)V"⟩ ∈ fg_g := fg_in (List.mem_of_getElem? (i := 22) (by decide +kernel)) rfl
theorem d_Reckoner_operateWide_117 : decode prog_9_method_5_code 117 = .ok (.goto 253, 3) := by decide +kernel
theorem d_Reckoner_operateWide_120 : decode prog_9_method_5_code 120 = .ok (.aload_n 0, 1) := by decide +kernel
theorem d_Reckoner_operateWide_121 : decode prog_9_method_5_code 121 = .ok (.aload_n 2, 1) := by decide +kernel
theorem d_Reckoner_operateWide_122 : decode prog_9_method_5_code 122 = .ok (.aload_n 3, 1) := by decide +kernel
theorem d_Reckoner_operateWide_123 : decode prog_9_method_5_code 123 = .ok (.invokevirtual 81, 3) := by decide +kernel
theorem u_1185 : Cond.methodLink "FilterGuard$Reckoner" 81 ⟨"FilterGuard$Reckoner", "rest", "(LFilterGuard$Num;LFilterGuard$Num;)V"⟩ ∈ fg_g := fg_in (List.mem_of_getElem? (i := 1185) (by decide +kernel)) rfl
theorem u_1188 : Cond.code ⟨"FilterGuard$Reckoner", "rest", "(LFilterGuard$Num;LFilterGuard$Num;)V"⟩ prog_9_method_11_code 3 none ∈ fg_g := fg_in (List.mem_of_getElem? (i := 1188) (by decide +kernel)) rfl
theorem u_1187 : Cond.instanceMethod ⟨"FilterGuard$Reckoner", "rest", "(LFilterGuard$Num;LFilterGuard$Num;)V"⟩ ∈ fg_g := fg_in (List.mem_of_getElem? (i := 1187) (by decide +kernel)) rfl
theorem u_23 : Cond.selects "FilterGuard$Reckoner" ⟨"FilterGuard$Reckoner", "rest", "(LFilterGuard$Num;LFilterGuard$Num;)V"⟩ ⟨"FilterGuard$Reckoner", "rest", "(LFilterGuard$Num;LFilterGuard$Num;)V"⟩ ∈ fg_g := fg_in (List.mem_of_getElem? (i := 23) (by decide +kernel)) rfl
theorem d_Reckoner_operateWide_126 : decode prog_9_method_5_code 126 = .ok (.goto 244, 3) := by decide +kernel
theorem d_Reckoner_operateWide_129 : decode prog_9_method_5_code 129 = .ok (.aload_n 0, 1) := by decide +kernel
theorem d_Reckoner_operateWide_130 : decode prog_9_method_5_code 130 = .ok (.aload_n 2, 1) := by decide +kernel
theorem d_Reckoner_operateWide_131 : decode prog_9_method_5_code 131 = .ok (.aload_n 3, 1) := by decide +kernel
theorem d_Reckoner_operateWide_132 : decode prog_9_method_5_code 132 = .ok (.invokevirtual 84, 3) := by decide +kernel
theorem d_Reckoner_operateWide_135 : decode prog_9_method_5_code 135 = .ok (.goto 235, 3) := by decide +kernel
theorem d_Reckoner_operateWide_138 : decode prog_9_method_5_code 138 = .ok (.aload_n 0, 1) := by decide +kernel
theorem d_Reckoner_operateWide_139 : decode prog_9_method_5_code 139 = .ok (.getfield 21, 3) := by decide +kernel
theorem d_Reckoner_operateWide_142 : decode prog_9_method_5_code 142 = .ok (.aload_n 2, 1) := by decide +kernel
theorem d_Reckoner_operateWide_143 : decode prog_9_method_5_code 143 = .ok (.getfield 49, 3) := by decide +kernel
theorem d_Reckoner_operateWide_146 : decode prog_9_method_5_code 146 = .ok (.aload_n 3, 1) := by decide +kernel
theorem d_Reckoner_operateWide_147 : decode prog_9_method_5_code 147 = .ok (.getfield 49, 3) := by decide +kernel
theorem d_Reckoner_operateWide_150 : decode prog_9_method_5_code 150 = .ok (.lor, 1) := by decide +kernel
theorem d_Reckoner_operateWide_151 : decode prog_9_method_5_code 151 = .ok (.aload_n 2, 1) := by decide +kernel
theorem d_Reckoner_operateWide_152 : decode prog_9_method_5_code 152 = .ok (.getfield 87, 3) := by decide +kernel
theorem d_Reckoner_operateWide_155 : decode prog_9_method_5_code 155 = .ok (.aload_n 3, 1) := by decide +kernel
theorem d_Reckoner_operateWide_156 : decode prog_9_method_5_code 156 = .ok (.getfield 87, 3) := by decide +kernel
theorem d_Reckoner_operateWide_159 : decode prog_9_method_5_code 159 = .ok (.lor, 1) := by decide +kernel
theorem d_Reckoner_operateWide_160 : decode prog_9_method_5_code 160 = .ok (.aload_n 2, 1) := by decide +kernel
theorem d_Reckoner_operateWide_161 : decode prog_9_method_5_code 161 = .ok (.getfield 49, 3) := by decide +kernel
theorem d_Reckoner_operateWide_164 : decode prog_9_method_5_code 164 = .ok (.aload_n 3, 1) := by decide +kernel
theorem d_Reckoner_operateWide_165 : decode prog_9_method_5_code 165 = .ok (.getfield 49, 3) := by decide +kernel
theorem d_Reckoner_operateWide_168 : decode prog_9_method_5_code 168 = .ok (.lor, 1) := by decide +kernel
theorem d_Reckoner_operateWide_169 : decode prog_9_method_5_code 169 = .ok (.ldc2_w 90, 3) := by decide +kernel
theorem d_Reckoner_operateWide_172 : decode prog_9_method_5_code 172 = .ok (.lxor, 1) := by decide +kernel
theorem d_Reckoner_operateWide_173 : decode prog_9_method_5_code 173 = .ok (.land, 1) := by decide +kernel
theorem d_Reckoner_operateWide_174 : decode prog_9_method_5_code 174 = .ok (.invokevirtual 92, 3) := by decide +kernel
theorem d_Reckoner_operateWide_177 : decode prog_9_method_5_code 177 = .ok (.aload_n 0, 1) := by decide +kernel
theorem d_Reckoner_operateWide_178 : decode prog_9_method_5_code 178 = .ok (.getfield 21, 3) := by decide +kernel
theorem d_Reckoner_operateWide_181 : decode prog_9_method_5_code 181 = .ok (.aload_n 2, 1) := by decide +kernel
theorem d_Reckoner_operateWide_182 : decode prog_9_method_5_code 182 = .ok (.getfield 96, 3) := by decide +kernel
theorem d_Reckoner_operateWide_185 : decode prog_9_method_5_code 185 = .ok (.invokevirtual 99, 3) := by decide +kernel
theorem u_1198 : Cond.methodLink "FilterGuard$Reckoner" 99 ⟨"FilterGuard$Num", "raiseLeast", "(J)V"⟩ ∈ fg_g := fg_in (List.mem_of_getElem? (i := 1198) (by decide +kernel)) rfl
theorem d_Reckoner_operateWide_188 : decode prog_9_method_5_code 188 = .ok (.aload_n 0, 1) := by decide +kernel
theorem d_Reckoner_operateWide_189 : decode prog_9_method_5_code 189 = .ok (.getfield 21, 3) := by decide +kernel
theorem d_Reckoner_operateWide_192 : decode prog_9_method_5_code 192 = .ok (.aload_n 3, 1) := by decide +kernel
theorem d_Reckoner_operateWide_193 : decode prog_9_method_5_code 193 = .ok (.getfield 96, 3) := by decide +kernel
theorem d_Reckoner_operateWide_196 : decode prog_9_method_5_code 196 = .ok (.invokevirtual 99, 3) := by decide +kernel
theorem d_Reckoner_operateWide_199 : decode prog_9_method_5_code 199 = .ok (.goto 171, 3) := by decide +kernel
theorem d_Reckoner_operateWide_202 : decode prog_9_method_5_code 202 = .ok (.aload_n 0, 1) := by decide +kernel
theorem d_Reckoner_operateWide_203 : decode prog_9_method_5_code 203 = .ok (.getfield 21, 3) := by decide +kernel
theorem d_Reckoner_operateWide_206 : decode prog_9_method_5_code 206 = .ok (.aload_n 2, 1) := by decide +kernel
theorem d_Reckoner_operateWide_207 : decode prog_9_method_5_code 207 = .ok (.getfield 49, 3) := by decide +kernel
theorem d_Reckoner_operateWide_210 : decode prog_9_method_5_code 210 = .ok (.aload_n 3, 1) := by decide +kernel
theorem d_Reckoner_operateWide_211 : decode prog_9_method_5_code 211 = .ok (.getfield 49, 3) := by decide +kernel
theorem d_Reckoner_operateWide_214 : decode prog_9_method_5_code 214 = .ok (.lxor, 1) := by decide +kernel
theorem d_Reckoner_operateWide_215 : decode prog_9_method_5_code 215 = .ok (.aload_n 2, 1) := by decide +kernel
theorem d_Reckoner_operateWide_216 : decode prog_9_method_5_code 216 = .ok (.getfield 87, 3) := by decide +kernel
theorem d_Reckoner_operateWide_219 : decode prog_9_method_5_code 219 = .ok (.aload_n 3, 1) := by decide +kernel
theorem d_Reckoner_operateWide_220 : decode prog_9_method_5_code 220 = .ok (.getfield 87, 3) := by decide +kernel
theorem d_Reckoner_operateWide_223 : decode prog_9_method_5_code 223 = .ok (.lor, 1) := by decide +kernel
theorem d_Reckoner_operateWide_224 : decode prog_9_method_5_code 224 = .ok (.ldc2_w 90, 3) := by decide +kernel
theorem d_Reckoner_operateWide_227 : decode prog_9_method_5_code 227 = .ok (.lxor, 1) := by decide +kernel
theorem d_Reckoner_operateWide_228 : decode prog_9_method_5_code 228 = .ok (.land, 1) := by decide +kernel
theorem d_Reckoner_operateWide_229 : decode prog_9_method_5_code 229 = .ok (.aload_n 2, 1) := by decide +kernel
theorem d_Reckoner_operateWide_230 : decode prog_9_method_5_code 230 = .ok (.getfield 87, 3) := by decide +kernel
theorem d_Reckoner_operateWide_233 : decode prog_9_method_5_code 233 = .ok (.aload_n 3, 1) := by decide +kernel
theorem d_Reckoner_operateWide_234 : decode prog_9_method_5_code 234 = .ok (.getfield 87, 3) := by decide +kernel
theorem d_Reckoner_operateWide_237 : decode prog_9_method_5_code 237 = .ok (.lor, 1) := by decide +kernel
theorem d_Reckoner_operateWide_238 : decode prog_9_method_5_code 238 = .ok (.invokevirtual 92, 3) := by decide +kernel
theorem d_Reckoner_operateWide_241 : decode prog_9_method_5_code 241 = .ok (.goto 129, 3) := by decide +kernel
theorem d_Reckoner_operateWide_363 : decode prog_9_method_5_code 363 = .ok (.aload_n 0, 1) := by decide +kernel
theorem d_Reckoner_operateWide_364 : decode prog_9_method_5_code 364 = .ok (.iload_n 1, 1) := by decide +kernel
theorem d_Reckoner_operateWide_365 : decode prog_9_method_5_code 365 = .ok (.aload_n 2, 1) := by decide +kernel
theorem d_Reckoner_operateWide_366 : decode prog_9_method_5_code 366 = .ok (.aload_n 3, 1) := by decide +kernel
theorem d_Reckoner_operateWide_367 : decode prog_9_method_5_code 367 = .ok (.invokevirtual 115, 3) := by decide +kernel
theorem u_1217 : Cond.methodLink "FilterGuard$Reckoner" 115 ⟨"FilterGuard$Reckoner", "shift", "(ILFilterGuard$Num;LFilterGuard$Num;)V"⟩ ∈ fg_g := fg_in (List.mem_of_getElem? (i := 1217) (by decide +kernel)) rfl
theorem u_1220 : Cond.code ⟨"FilterGuard$Reckoner", "shift", "(ILFilterGuard$Num;LFilterGuard$Num;)V"⟩ prog_9_method_13_code 5 none ∈ fg_g := fg_in (List.mem_of_getElem? (i := 1220) (by decide +kernel)) rfl
theorem u_1219 : Cond.instanceMethod ⟨"FilterGuard$Reckoner", "shift", "(ILFilterGuard$Num;LFilterGuard$Num;)V"⟩ ∈ fg_g := fg_in (List.mem_of_getElem? (i := 1219) (by decide +kernel)) rfl
theorem u_26 : Cond.selects "FilterGuard$Reckoner" ⟨"FilterGuard$Reckoner", "shift", "(ILFilterGuard$Num;LFilterGuard$Num;)V"⟩ ⟨"FilterGuard$Reckoner", "shift", "(ILFilterGuard$Num;LFilterGuard$Num;)V"⟩ ∈ fg_g := fg_in (List.mem_of_getElem? (i := 26) (by decide +kernel)) rfl
theorem d_Reckoner_operateWide_244 : decode prog_9_method_5_code 244 = .ok (.aload_n 0, 1) := by decide +kernel
theorem d_Reckoner_operateWide_245 : decode prog_9_method_5_code 245 = .ok (.getfield 24, 3) := by decide +kernel
theorem g_Reckoner_3 {p : Program} {l : Launch} {e : Env} {R : Room} {s : Jvm.State} {m : MethodId} {args : Array Value} {below : List Frame} {meth : Method} {c : Code} {H : Heap} {locs : List Loc} {cells slots : Nat} {Q : Jvm.State → Prop} {cc : ByteArray} {pc : Nat} {ls : Array Slot} {rest : List Value} {D : va_G} {ad : Nat → Nat → Nat} {ca : Nat → ClassId} {M : me_M} {N : Nat → Nat} {own : String} {index j : Nat} (hexec : p.tables.exec = Jvm.exec) (hb : c.code = cc) (hts : ∀ w ∈ fg_g, w.before args s = true) (hown : s.vm.findClass own = some m.cls) (hK : va_K D classes (me_T ca) s) (hP : va_P D classes (me_W ad ca M) H) (hwf : me_wf N M) (hj : j < N 8) (hlink : (Cond.fieldLink own index "FilterGuard$Reckoner" "zero" "LFilterGuard$Num;").before args s = true) (hdg : decode cc pc = .ok (.getfield index, 3)) (kk : W p l e R s m args below meth c H locs cells slots Q (F0 m (pc + 3) ls (va_rf ((mR M 8 j 3).map (ad 11)) :: rest))) : W p l e R s m args below meth c H locs cells slots Q (F0 m pc ls (.ref (ad 8 j) :: rest)) := me_get (k := 8) (f := 3) (C := "FilterGuard$Reckoner") (T := F_Reckoner) (Nf := 5) hexec hb hts i_Reckoner hown hK hP hwf hj (by decide) rfl (by decide) (by decide) hlink (fun _ h9 => h9) hdg kk
theorem d_Reckoner_operateWide_248 : decode prog_9_method_5_code 248 = .ok (.lconst 0, 1) := by decide +kernel
theorem d_Reckoner_operateWide_249 : decode prog_9_method_5_code 249 = .ok (.invokevirtual 55, 3) := by decide +kernel
theorem d_Reckoner_operateWide_252 : decode prog_9_method_5_code 252 = .ok (.aload_n 0, 1) := by decide +kernel
theorem d_Reckoner_operateWide_253 : decode prog_9_method_5_code 253 = .ok (.aload_n 0, 1) := by decide +kernel
theorem d_Reckoner_operateWide_254 : decode prog_9_method_5_code 254 = .ok (.getfield 24, 3) := by decide +kernel
theorem d_Reckoner_operateWide_257 : decode prog_9_method_5_code 257 = .ok (.aload_n 2, 1) := by decide +kernel
theorem d_Reckoner_operateWide_258 : decode prog_9_method_5_code 258 = .ok (.invokevirtual 72, 3) := by decide +kernel
theorem d_Reckoner_operateWide_261 : decode prog_9_method_5_code 261 = .ok (.goto 109, 3) := by decide +kernel
theorem d_Reckoner_operateWide_264 : decode prog_9_method_5_code 264 = .ok (.aload_n 0, 1) := by decide +kernel
theorem d_Reckoner_operateWide_265 : decode prog_9_method_5_code 265 = .ok (.getfield 21, 3) := by decide +kernel
theorem d_Reckoner_operateWide_268 : decode prog_9_method_5_code 268 = .ok (.aload_n 3, 1) := by decide +kernel
theorem d_Reckoner_operateWide_269 : decode prog_9_method_5_code 269 = .ok (.invokevirtual 38, 3) := by decide +kernel
theorem d_Reckoner_operateWide_272 : decode prog_9_method_5_code 272 = .ok (.goto 98, 3) := by decide +kernel
theorem d_Reckoner_operateWide_275 : decode prog_9_method_5_code 275 = .ok (.aload_n 0, 1) := by decide +kernel
theorem d_Reckoner_operateWide_276 : decode prog_9_method_5_code 276 = .ok (.aload_n 2, 1) := by decide +kernel
theorem d_Reckoner_operateWide_277 : decode prog_9_method_5_code 277 = .ok (.aload_n 3, 1) := by decide +kernel
theorem d_Reckoner_operateWide_278 : decode prog_9_method_5_code 278 = .ok (.invokevirtual 102, 3) := by decide +kernel
theorem u_1202 : Cond.methodLink "FilterGuard$Reckoner" 102 ⟨"FilterGuard$Reckoner", "swap", "(LFilterGuard$Num;LFilterGuard$Num;)V"⟩ ∈ fg_g := fg_in (List.mem_of_getElem? (i := 1202) (by decide +kernel)) rfl
theorem u_1205 : Cond.code ⟨"FilterGuard$Reckoner", "swap", "(LFilterGuard$Num;LFilterGuard$Num;)V"⟩ prog_9_method_14_code 4 none ∈ fg_g := fg_in (List.mem_of_getElem? (i := 1205) (by decide +kernel)) rfl
theorem u_1204 : Cond.instanceMethod ⟨"FilterGuard$Reckoner", "swap", "(LFilterGuard$Num;LFilterGuard$Num;)V"⟩ ∈ fg_g := fg_in (List.mem_of_getElem? (i := 1204) (by decide +kernel)) rfl
theorem u_25 : Cond.selects "FilterGuard$Reckoner" ⟨"FilterGuard$Reckoner", "swap", "(LFilterGuard$Num;LFilterGuard$Num;)V"⟩ ⟨"FilterGuard$Reckoner", "swap", "(LFilterGuard$Num;LFilterGuard$Num;)V"⟩ ∈ fg_g := fg_in (List.mem_of_getElem? (i := 25) (by decide +kernel)) rfl
theorem d_Reckoner_operateWide_281 : decode prog_9_method_5_code 281 = .ok (.goto 89, 3) := by decide +kernel
theorem d_Reckoner_operateWide_284 : decode prog_9_method_5_code 284 = .ok (.aload_n 0, 1) := by decide +kernel
theorem d_Reckoner_operateWide_285 : decode prog_9_method_5_code 285 = .ok (.getfield 27, 3) := by decide +kernel
theorem d_Reckoner_operateWide_288 : decode prog_9_method_5_code 288 = .ok (.aload_n 3, 1) := by decide +kernel
theorem d_Reckoner_operateWide_289 : decode prog_9_method_5_code 289 = .ok (.ldc2_w 105, 3) := by decide +kernel
theorem d_Reckoner_operateWide_292 : decode prog_9_method_5_code 292 = .ok (.invokevirtual 107, 3) := by decide +kernel
theorem d_Reckoner_operateWide_295 : decode prog_9_method_5_code 295 = .ok (.ifCond .eq 9, 3) := by decide +kernel
theorem d_Reckoner_operateWide_304 : decode prog_9_method_5_code 304 = .ok (.aload_n 3, 1) := by decide +kernel
theorem d_Reckoner_operateWide_305 : decode prog_9_method_5_code 305 = .ok (.ldc2_w 111, 3) := by decide +kernel
theorem d_Reckoner_operateWide_308 : decode prog_9_method_5_code 308 = .ok (.invokevirtual 107, 3) := by decide +kernel
theorem d_Reckoner_operateWide_311 : decode prog_9_method_5_code 311 = .ok (.ifCond .eq 9, 3) := by decide +kernel
theorem d_Reckoner_operateWide_320 : decode prog_9_method_5_code 320 = .ok (.ldc2_w 90, 3) := by decide +kernel
theorem d_Reckoner_operateWide_314 : decode prog_9_method_5_code 314 = .ok (.ldc2_w 113, 3) := by decide +kernel
theorem d_Reckoner_operateWide_317 : decode prog_9_method_5_code 317 = .ok (.goto 6, 3) := by decide +kernel
theorem d_Reckoner_operateWide_298 : decode prog_9_method_5_code 298 = .ok (.ldc2_w 109, 3) := by decide +kernel
theorem u_1216 : Cond.constantLong "FilterGuard$Reckoner" 109 65535 ∈ fg_g := fg_in (List.mem_of_getElem? (i := 1216) (by decide +kernel)) rfl
theorem d_Reckoner_operateWide_301 : decode prog_9_method_5_code 301 = .ok (.goto 22, 3) := by decide +kernel
abbrev y_Reckoner_operateWide : MethodName := ⟨"FilterGuard$Reckoner", "operateWide", "(ILFilterGuard$Num;LFilterGuard$Num;LFilterGuard$Num;)V"⟩
def rm_Reckoner_operateWide : Room := { frames := 4, cells := 0, slots := 0, locals := 86 }
abbrev q_Reckoner_operateWide (D : va_G) (ad : Nat → Nat → Nat) (ca : Nat → ClassId) (N : Nat → Nat) (M0 MZ : me_M) (A : Nat → Prop) : Array Value → Jvm.State → Outcome → Jvm.State → Prop := va_Qv (fun (_ : Unit) => me_wf N MZ ∧ me_kp M0 MZ) (fg_B D A (fun _ => me_W ad ca MZ) (fun _ => [])) A
set_option maxHeartbeats 4000000 in
set_option maxRecDepth 100000 in
theorem c_Reckoner_operateWide (l : Launch) (D : va_G) (ad : Nat → Nat → Nat) (ca : Nat → ClassId) (N : Nat → Nat) (M0 MZ : me_M) (j0 : Nat) (x1 : Int32) (j2 : Nat) (j3 : Nat) (j4 : Nat) (h : f_Reckoner_operateWide M0 j0 x1 j2 j3 j4 = (some MZ)) (hwf : me_wf N M0) (hj0 : j0 < N 8) (hj2 : j2 < N 11) (hj3 : j3 < N 11) (hj4 : j4 < N 11) (sz : Nat) : Met l y_Reckoner_operateWide (fg_w y_Reckoner_operateWide prog_9_method_5_code 5 none) rm_Reckoner_operateWide (va_Pc [.ref (ad 8 j0), .int x1, .ref (ad 11 j2), .ref (ad 11 j3), .ref (ad 11 j4)] (fz_P D (me_T ca) (me_W ad ca M0) sz)) (q_Reckoner_operateWide D ad ca N M0 MZ (va_A (me_W ad ca M0) sz)) rm_Reckoner_operateWide.cells rm_Reckoner_operateWide.slots (va_A (me_W ad ca M0) sz) := by
  refine fz_enter (fun A => q_Reckoner_operateWide D ad ca N M0 MZ A) (by decide +kernel) (Nat.le_of_ble_eq_true rfl) ?_
  intro p e s m below meth c ls A hx hb hml hown hts hr hlocks hin hP hK hD hS hA hX hl hz
  have hl : lv_has ls 5 [(0, .ref (ad 8 j0)), (1, .int x1), (2, .ref (ad 11 j2)), (3, .ref (ad 11 j3)), (4, .ref (ad 11 j4))] := hl
  unfold f_Reckoner_operateWide at h
  have hkp : me_kp M0 M0 := me_kp.rf
  have hkb := hkp
  have b_370 : ∀ (M : me_M) (H : Heap) (locs : List Loc) (ls : Array Slot), f_Reckoner_operateWide_b370 j0 j4 M = (some MZ) → me_wf N M → me_kp M0 M → va_P D classes (me_W ad ca M) H → va_D A (me_W ad ca M) → va_S A s.heap H locs → lv_has ls 5 [(0, .ref (ad 8 j0)), (4, .ref (ad 11 j4))] → W p l e rm_Reckoner_operateWide s m [.ref (ad 8 j0), .int x1, .ref (ad 11 j2), .ref (ad 11 j3), .ref (ad 11 j4)].toArray below meth c H locs 0 0 (MQ below (q_Reckoner_operateWide D ad ca N M0 MZ A) [.ref (ad 8 j0), .int x1, .ref (ad 11 j2), .ref (ad 11 j3), .ref (ad 11 j4)].toArray s rm_Reckoner_operateWide.cells rm_Reckoner_operateWide.slots A) (F0 m 370 ls []) := by
    intro M H locs ls h hwf hkp hP hD hS hl
    unfold f_Reckoner_operateWide_b370 at h
    have hkb := hkp
    refine lv_aload_n hx hb d_Reckoner_operateWide_370 rfl (lv_at hl 0 rfl) ?_
    refine g_Reckoner_2 hx hb hts hown hK hP hwf hj0 (hts _ u_398) d_Reckoner_operateWide_371 ?_
    obtain ⟨j1, e2, h⟩ := bd_ob h
    have hj1 : j1 < N 11 := (hwf.2.1 8 j0 2 _ e2 (by decide) hj0)
    refine me_opt (j := j1) e2 ?_
    obtain ⟨M3, r4, eM3, h⟩ := b2_ob h
    refine me_theni0 (M1 := M3) (me_runV (C := "FilterGuard$Num") (As := []) (rest := []) ⟨hx, hb, hml, hown, hts⟩ (c_Num_settle l D ad ca N M M3 r4 j1 eM3 hwf hj1 _) rfl (by show fg_nm y_Num_settle 0; decide +kernel) u_1221 u_1222 u_1223 u_187 u_1224 ⟨Nat.le_of_ble_eq_true rfl, Nat.le_of_ble_eq_true rfl⟩ hX hz hK hP hD hwf hS hA hj1 (by decide) rfl rfl rfl hl.1 (Nat.le_of_ble_eq_true rfl) d_Reckoner_operateWide_374 ⟨Nat.le_of_ble_eq_true rfl, Nat.le_of_ble_eq_true rfl⟩) hP hD hK hS hA rfl rfl (fun H locs hw hP hD hS => ?_)
    obtain ⟨hwf, hk9, zr4⟩ := hw
    have hkp := hkp.tr hk9
    refine lv_if_ne (tgt := 387) hx hb d_Reckoner_operateWide_377 (by decide) (fun c5 => ?_) (fun c5 => ?_)
    · have h := if_f c5 h
      refine lv_aload hx hb d_Reckoner_operateWide_387 (lv_at hl 1 rfl) ?_
      refine lv_aload_n hx hb d_Reckoner_operateWide_389 rfl (lv_at hl 0 rfl) ?_
      refine g_Reckoner_2 hx hb hts hown hK hP hwf hj0 (hts _ u_398) d_Reckoner_operateWide_390 ?_
      refine me_opt (j := j1) (kp_r hkb hkp e2) ?_
      obtain ⟨M6, eM6, h⟩ := bd_ob h
      refine me_thenv0 (M1 := M6) (me_runV (C := "FilterGuard$Num") (As := [.ref (ad 11 j1)]) (rest := []) ⟨hx, hb, hml, hown, hts⟩ (c_Num_copy l D ad ca N M3 M6 j4 j1 eM6 hwf hj4 hj1 _) rfl (by show fg_nm y_Num_copy 1; decide +kernel) u_1189 u_1083 u_1084 u_187 u_1085 ⟨Nat.le_of_ble_eq_true rfl, Nat.le_of_ble_eq_true rfl⟩ hX hz hK hP hD hwf hS hA hj4 (by decide) rfl rfl rfl hl.1 (Nat.le_of_ble_eq_true rfl) d_Reckoner_operateWide_393 ⟨Nat.le_of_ble_eq_true rfl, Nat.le_of_ble_eq_true rfl⟩) hP hD hK hS hA rfl rfl (fun H locs hw hP hD hS => ?_)
      obtain ⟨hwf, hk9⟩ := hw
      have hkp := hkp.tr hk9
      exact me_retv (me_kp M0) h hx hb hr hlocks hwf hkp hP hK hD hS d_Reckoner_operateWide_396
    have h := if_t c5 h
    refine lv_aload_n hx hb d_Reckoner_operateWide_380 rfl (lv_at hl 0 rfl) ?_
    refine g_Reckoner_2 hx hb hts hown hK hP hwf hj0 (hts _ u_398) d_Reckoner_operateWide_381 ?_
    refine me_opt (j := j1) (kp_r hkb hkp e2) ?_
    obtain ⟨M7, eM7, h⟩ := bd_ob h
    refine me_thenv0 (M1 := M7) (me_runV (C := "FilterGuard$Num") (As := []) (rest := []) ⟨hx, hb, hml, hown, hts⟩ (c_Num_any l D ad ca N M3 M7 j1 eM7 hwf hj1 _) rfl (by show fg_nm y_Num_any 0; decide +kernel) u_1130 u_1131 u_1132 u_187 u_1133 ⟨Nat.le_of_ble_eq_true rfl, Nat.le_of_ble_eq_true rfl⟩ hX hz hK hP hD hwf hS hA hj1 (by decide) rfl rfl rfl hl.1 (Nat.le_of_ble_eq_true rfl) d_Reckoner_operateWide_384 ⟨Nat.le_of_ble_eq_true rfl, Nat.le_of_ble_eq_true rfl⟩) hP hD hK hS hA rfl rfl (fun H locs hw hP hD hS => ?_)
    obtain ⟨hwf, hk9⟩ := hw
    have hkp := hkp.tr hk9
    refine lv_aload hx hb d_Reckoner_operateWide_387 (lv_at hl 1 rfl) ?_
    refine lv_aload_n hx hb d_Reckoner_operateWide_389 rfl (lv_at hl 0 rfl) ?_
    refine g_Reckoner_2 hx hb hts hown hK hP hwf hj0 (hts _ u_398) d_Reckoner_operateWide_390 ?_
    refine me_opt (j := j1) (kp_r hkb hkp e2) ?_
    obtain ⟨M8, eM8, h⟩ := bd_ob h
    refine me_thenv0 (M1 := M8) (me_runV (C := "FilterGuard$Num") (As := [.ref (ad 11 j1)]) (rest := []) ⟨hx, hb, hml, hown, hts⟩ (c_Num_copy l D ad ca N M7 M8 j4 j1 eM8 hwf hj4 hj1 _) rfl (by show fg_nm y_Num_copy 1; decide +kernel) u_1189 u_1083 u_1084 u_187 u_1085 ⟨Nat.le_of_ble_eq_true rfl, Nat.le_of_ble_eq_true rfl⟩ hX hz hK hP hD hwf hS hA hj4 (by decide) rfl rfl rfl hl.1 (Nat.le_of_ble_eq_true rfl) d_Reckoner_operateWide_393 ⟨Nat.le_of_ble_eq_true rfl, Nat.le_of_ble_eq_true rfl⟩) hP hD hK hS hA rfl rfl (fun H locs hw hP hD hS => ?_)
    obtain ⟨hwf, hk9⟩ := hw
    have hkp := hkp.tr hk9
    exact me_retv (me_kp M0) h hx hb hr hlocks hwf hkp hP hK hD hS d_Reckoner_operateWide_396
  have b_323 : ∀ (M : me_M) (s0 : Int64) (s1 : Nat) (H : Heap) (locs : List Loc) (ls : Array Slot), f_Reckoner_operateWide_b323 j0 j2 j4 M s0 s1 = (some MZ) → (s1 < N 11) → me_wf N M → me_kp M0 M → va_P D classes (me_W ad ca M) H → va_D A (me_W ad ca M) → va_S A s.heap H locs → lv_has ls 5 [(0, .ref (ad 8 j0)), (2, .ref (ad 11 j2)), (4, .ref (ad 11 j4))] → W p l e rm_Reckoner_operateWide s m [.ref (ad 8 j0), .int x1, .ref (ad 11 j2), .ref (ad 11 j3), .ref (ad 11 j4)].toArray below meth c H locs 0 0 (MQ below (q_Reckoner_operateWide D ad ca N M0 MZ A) [.ref (ad 8 j0), .int x1, .ref (ad 11 j2), .ref (ad 11 j3), .ref (ad 11 j4)].toArray s rm_Reckoner_operateWide.cells rm_Reckoner_operateWide.slots A) (F0 m 323 ls [.long s0, .ref (ad 11 s1)]) := by
    intro M s0 s1 H locs ls h hs1 hwf hkp hP hD hS hl
    unfold f_Reckoner_operateWide_b323 at h
    have hkb := hkp
    obtain ⟨M9, eM9, h⟩ := bd_ob h
    refine me_thenv0 (M1 := M9) (me_runV (C := "FilterGuard$Num") (As := [.long s0]) (rest := []) ⟨hx, hb, hml, hown, hts⟩ (c_Num_exact l D ad ca N M M9 s1 s0 eM9 hwf hs1 _) rfl (by show fg_nm y_Num_exact 1; decide +kernel) u_1161 u_1037 u_1038 u_187 u_1039 ⟨Nat.le_of_ble_eq_true rfl, Nat.le_of_ble_eq_true rfl⟩ hX hz hK hP hD hwf hS hA hs1 (by decide) rfl rfl rfl hl.1 (Nat.le_of_ble_eq_true rfl) d_Reckoner_operateWide_323 ⟨Nat.le_of_ble_eq_true rfl, Nat.le_of_ble_eq_true rfl⟩) hP hD hK hS hA rfl rfl (fun H locs hw hP hD hS => ?_)
    obtain ⟨hwf, hk9⟩ := hw
    have hkp := hkp.tr hk9
    refine lv_aload_n hx hb d_Reckoner_operateWide_326 rfl (lv_at hl 1 rfl) ?_
    refine lv_aload_n hx hb d_Reckoner_operateWide_327 rfl (lv_at hl 0 rfl) ?_
    refine g_Reckoner_4 hx hb hts hown hK hP hwf hj0 (hts _ u_400) d_Reckoner_operateWide_328 ?_
    obtain ⟨j10, e11, h⟩ := bd_ob h
    have hj10 : j10 < N 11 := (hwf.2.1 8 j0 4 _ (kp_r hkb hkp e11) (by decide) hj0)
    refine me_opt (j := j10) (kp_r hkb hkp e11) ?_
    refine g_Num_0 hx hb hts hown hK hP hwf hj10 (hts _ u_368) d_Reckoner_operateWide_331 ?_
    obtain ⟨M12, r13, eM12, h⟩ := b2_ob h
    refine me_theni0 (M1 := M12) (me_runV (C := "FilterGuard$Num") (As := [.long (mL M9 11 j10 0)]) (rest := []) ⟨hx, hb, hml, hown, hts⟩ (c_Num_isAbove l D ad ca N M9 M12 r13 j2 (mL M9 11 j10 0) eM12 hwf hj2 _) rfl (by show fg_nm y_Num_isAbove 1; decide +kernel) u_1173 u_1174 u_1175 u_187 u_1176 ⟨Nat.le_of_ble_eq_true rfl, Nat.le_of_ble_eq_true rfl⟩ hX hz hK hP hD hwf hS hA hj2 (by decide) rfl rfl rfl hl.1 (Nat.le_of_ble_eq_true rfl) d_Reckoner_operateWide_334 ⟨Nat.le_of_ble_eq_true rfl, Nat.le_of_ble_eq_true rfl⟩) hP hD hK hS hA rfl rfl (fun H locs hw hP hD hS => ?_)
    obtain ⟨hwf, hk9, zr13⟩ := hw
    have hkp := hkp.tr hk9
    refine lv_if_eq (tgt := 352) hx hb d_Reckoner_operateWide_337 (by decide) (fun c14 => ?_) (fun c14 => ?_)
    · have h := if_t c14 h
      refine lv_aload_n hx hb d_Reckoner_operateWide_352 rfl (lv_at hl 0 rfl) ?_
      refine g_Reckoner_2 hx hb hts hown hK hP hwf hj0 (hts _ u_398) d_Reckoner_operateWide_353 ?_
      obtain ⟨j15, e16, h⟩ := bd_ob h
      have hj15 : j15 < N 11 := (hwf.2.1 8 j0 2 _ (kp_r hkb hkp e16) (by decide) hj0)
      refine me_opt (j := j15) (kp_r hkb hkp e16) ?_
      refine lv_aload_n hx hb d_Reckoner_operateWide_356 rfl (lv_at hl 1 rfl) ?_
      obtain ⟨M17, eM17, h⟩ := bd_ob h
      refine me_thenv0 (M1 := M17) (me_runV (C := "FilterGuard$Num") (As := [.ref (ad 11 j2)]) (rest := []) ⟨hx, hb, hml, hown, hts⟩ (c_Num_copy l D ad ca N M12 M17 j15 j2 eM17 hwf hj15 hj2 _) rfl (by show fg_nm y_Num_copy 1; decide +kernel) u_1189 u_1083 u_1084 u_187 u_1085 ⟨Nat.le_of_ble_eq_true rfl, Nat.le_of_ble_eq_true rfl⟩ hX hz hK hP hD hwf hS hA hj15 (by decide) rfl rfl rfl hl.1 (Nat.le_of_ble_eq_true rfl) d_Reckoner_operateWide_357 ⟨Nat.le_of_ble_eq_true rfl, Nat.le_of_ble_eq_true rfl⟩) hP hD hK hS hA rfl rfl (fun H locs hw hP hD hS => ?_)
      obtain ⟨hwf, hk9⟩ := hw
      have hkp := hkp.tr hk9
      refine lv_goto (tgt := 370) hx hb d_Reckoner_operateWide_360 (by decide) ?_
      exact b_370 M17 _ _ _ h hwf hkp hP hD hS (lv_sub hl [0, 2] rfl)
    have h := if_f c14 h
    refine lv_aload_n hx hb d_Reckoner_operateWide_340 rfl (lv_at hl 0 rfl) ?_
    refine lv_aload_n hx hb d_Reckoner_operateWide_341 rfl (lv_at hl 1 rfl) ?_
    refine lv_aload_n hx hb d_Reckoner_operateWide_342 rfl (lv_at hl 0 rfl) ?_
    refine g_Reckoner_4 hx hb hts hown hK hP hwf hj0 (hts _ u_400) d_Reckoner_operateWide_343 ?_
    refine me_opt (j := j10) (kp_r hkb hkp e11) ?_
    obtain ⟨M18, eM18, h⟩ := bd_ob h
    refine me_thenv0 (M1 := M18) (me_runV (C := "FilterGuard$Reckoner") (As := [.ref (ad 11 j2), .ref (ad 11 j10)]) (rest := []) ⟨hx, hb, hml, hown, hts⟩ (c_Reckoner_and l D ad ca N M12 M18 j0 j2 j10 eM18 hwf hj0 hj2 hj10 _) rfl (by show fg_nm y_Reckoner_and 2; decide +kernel) u_1190 u_1192 u_24 u_186 u_1193 ⟨Nat.le_of_ble_eq_true rfl, Nat.le_of_ble_eq_true rfl⟩ hX hz hK hP hD hwf hS hA hj0 (by decide) rfl rfl rfl hl.1 (Nat.le_of_ble_eq_true rfl) d_Reckoner_operateWide_346 ⟨Nat.le_of_ble_eq_true rfl, Nat.le_of_ble_eq_true rfl⟩) hP hD hK hS hA rfl rfl (fun H locs hw hP hD hS => ?_)
    obtain ⟨hwf, hk9⟩ := hw
    have hkp := hkp.tr hk9
    refine lv_goto (tgt := 370) hx hb d_Reckoner_operateWide_349 (by decide) ?_
    exact b_370 M18 _ _ _ h hwf hkp hP hD hS (lv_sub hl [0, 2] rfl)
  refine lv_aload_n hx hb d_Reckoner_operateWide_0 rfl (lv_at hl 0 rfl) ?_
  refine g_Reckoner_2 hx hb hts hown hK hP hwf hj0 (hts _ u_398) d_Reckoner_operateWide_1 ?_
  obtain ⟨j19, e20, h⟩ := bd_ob h
  have hj19 : j19 < N 11 := (hwf.2.1 8 j0 2 _ e20 (by decide) hj0)
  refine me_opt (j := j19) e20 ?_
  obtain ⟨M21, eM21, h⟩ := bd_ob h
  refine me_thenv0 (M1 := M21) (me_runV (C := "FilterGuard$Num") (As := []) (rest := []) ⟨hx, hb, hml, hown, hts⟩ (c_Num_any l D ad ca N M0 M21 j19 eM21 hwf hj19 _) rfl (by show fg_nm y_Num_any 0; decide +kernel) u_1130 u_1131 u_1132 u_187 u_1133 ⟨Nat.le_of_ble_eq_true rfl, Nat.le_of_ble_eq_true rfl⟩ hX hz hK hP hD hwf hS hA hj19 (by decide) rfl rfl rfl hl.1 (Nat.le_of_ble_eq_true rfl) d_Reckoner_operateWide_4 ⟨Nat.le_of_ble_eq_true rfl, Nat.le_of_ble_eq_true rfl⟩) hP hD hK hS hA rfl rfl (fun H locs hw hP hD hS => ?_)
  obtain ⟨hwf, hk9⟩ := hw
  have hkp := hkp.tr hk9
  refine lv_iload_n hx hb d_Reckoner_operateWide_7 rfl (lv_at hl 1 rfl) ?_
  refine lv_topi (fun w22 ew22 => ?_)
  by_cases n23 : w22 = 0
  · have h := if_t (ew22.symm.trans n23) h
    subst n23
    refine lv_tableIn (off := 76) (tgt := 84) hx hb d_Reckoner_operateWide_8 (by decide) (by decide) (by decide) (by decide) ?_
    refine lv_aload_n hx hb d_Reckoner_operateWide_84 rfl (lv_at hl 0 rfl) ?_
    refine lv_aload_n hx hb d_Reckoner_operateWide_85 rfl (lv_at hl 2 rfl) ?_
    refine lv_aload_n hx hb d_Reckoner_operateWide_86 rfl (lv_at hl 3 rfl) ?_
    obtain ⟨M24, eM24, h⟩ := bd_ob h
    refine me_thenv0 (M1 := M24) (me_runV (C := "FilterGuard$Reckoner") (As := [.ref (ad 11 j2), .ref (ad 11 j3)]) (rest := []) ⟨hx, hb, hml, hown, hts⟩ (c_Reckoner_add l D ad ca N M21 M24 j0 j2 j3 eM24 hwf hj0 hj2 hj3 _) rfl (by show fg_nm y_Reckoner_add 2; decide +kernel) u_1135 u_1137 u_19 u_186 u_1138 ⟨Nat.le_of_ble_eq_true rfl, Nat.le_of_ble_eq_true rfl⟩ hX hz hK hP hD hwf hS hA hj0 (by decide) rfl rfl rfl hl.1 (Nat.le_of_ble_eq_true rfl) d_Reckoner_operateWide_87 ⟨Nat.le_of_ble_eq_true rfl, Nat.le_of_ble_eq_true rfl⟩) hP hD hK hS hA rfl rfl (fun H locs hw hP hD hS => ?_)
    obtain ⟨hwf, hk9⟩ := hw
    have hkp := hkp.tr hk9
    refine lv_goto (tgt := 370) hx hb d_Reckoner_operateWide_90 (by decide) ?_
    exact b_370 M24 _ _ _ h hwf hkp hP hD hS (lv_sub hl [0, 4] rfl)
  have h := if_f (fun z => n23 (ew22.trans z)) h
  by_cases n25 : w22 = 1
  · have h := if_t (ew22.symm.trans n25) h
    subst n25
    refine lv_tableIn (off := 85) (tgt := 93) hx hb d_Reckoner_operateWide_8 (by decide) (by decide) (by decide) (by decide) ?_
    refine lv_aload_n hx hb d_Reckoner_operateWide_93 rfl (lv_at hl 0 rfl) ?_
    refine lv_aload_n hx hb d_Reckoner_operateWide_94 rfl (lv_at hl 2 rfl) ?_
    refine lv_aload_n hx hb d_Reckoner_operateWide_95 rfl (lv_at hl 3 rfl) ?_
    obtain ⟨M26, eM26, h⟩ := bd_ob h
    refine me_thenv0 (M1 := M26) (me_runV (C := "FilterGuard$Reckoner") (As := [.ref (ad 11 j2), .ref (ad 11 j3)]) (rest := []) ⟨hx, hb, hml, hown, hts⟩ (c_Reckoner_subtract l D ad ca N M21 M26 j0 j2 j3 eM26 hwf hj0 hj2 hj3 _) rfl (by show fg_nm y_Reckoner_subtract 2; decide +kernel) u_1149 u_1151 u_20 u_186 u_1152 ⟨Nat.le_of_ble_eq_true rfl, Nat.le_of_ble_eq_true rfl⟩ hX hz hK hP hD hwf hS hA hj0 (by decide) rfl rfl rfl hl.1 (Nat.le_of_ble_eq_true rfl) d_Reckoner_operateWide_96 ⟨Nat.le_of_ble_eq_true rfl, Nat.le_of_ble_eq_true rfl⟩) hP hD hK hS hA rfl rfl (fun H locs hw hP hD hS => ?_)
    obtain ⟨hwf, hk9⟩ := hw
    have hkp := hkp.tr hk9
    refine lv_goto (tgt := 370) hx hb d_Reckoner_operateWide_99 (by decide) ?_
    exact b_370 M26 _ _ _ h hwf hkp hP hD hS (lv_sub hl [0, 4] rfl)
  have h := if_f (fun z => n25 (ew22.trans z)) h
  by_cases n27 : w22 = 2
  · have h := if_t (ew22.symm.trans n27) h
    subst n27
    refine lv_tableIn (off := 94) (tgt := 102) hx hb d_Reckoner_operateWide_8 (by decide) (by decide) (by decide) (by decide) ?_
    refine lv_aload_n hx hb d_Reckoner_operateWide_102 rfl (lv_at hl 0 rfl) ?_
    refine lv_aload_n hx hb d_Reckoner_operateWide_103 rfl (lv_at hl 2 rfl) ?_
    refine lv_aload_n hx hb d_Reckoner_operateWide_104 rfl (lv_at hl 3 rfl) ?_
    obtain ⟨M28, eM28, h⟩ := bd_ob h
    refine me_thenv0 (M1 := M28) (me_runV (C := "FilterGuard$Reckoner") (As := [.ref (ad 11 j2), .ref (ad 11 j3)]) (rest := []) ⟨hx, hb, hml, hown, hts⟩ (c_Reckoner_multiply l D ad ca N M21 M28 j0 j2 j3 eM28 hwf hj0 hj2 hj3 _) rfl (by show fg_nm y_Reckoner_multiply 2; decide +kernel) u_1153 u_1155 u_21 u_186 u_1156 ⟨Nat.le_of_ble_eq_true rfl, Nat.le_of_ble_eq_true rfl⟩ hX hz hK hP hD hwf hS hA hj0 (by decide) rfl rfl rfl hl.1 (Nat.le_of_ble_eq_true rfl) d_Reckoner_operateWide_105 ⟨Nat.le_of_ble_eq_true rfl, Nat.le_of_ble_eq_true rfl⟩) hP hD hK hS hA rfl rfl (fun H locs hw hP hD hS => ?_)
    obtain ⟨hwf, hk9⟩ := hw
    have hkp := hkp.tr hk9
    refine lv_goto (tgt := 370) hx hb d_Reckoner_operateWide_108 (by decide) ?_
    exact b_370 M28 _ _ _ h hwf hkp hP hD hS (lv_sub hl [0, 4] rfl)
  have h := if_f (fun z => n27 (ew22.trans z)) h
  by_cases n29 : w22 = 3
  · have h := if_t (ew22.symm.trans n29) h
    subst n29
    refine lv_tableIn (off := 103) (tgt := 111) hx hb d_Reckoner_operateWide_8 (by decide) (by decide) (by decide) (by decide) ?_
    refine lv_aload_n hx hb d_Reckoner_operateWide_111 rfl (lv_at hl 0 rfl) ?_
    refine lv_aload_n hx hb d_Reckoner_operateWide_112 rfl (lv_at hl 2 rfl) ?_
    refine lv_aload_n hx hb d_Reckoner_operateWide_113 rfl (lv_at hl 3 rfl) ?_
    obtain ⟨M30, eM30, h⟩ := bd_ob h
    refine me_thenv0 (M1 := M30) (me_runV (C := "FilterGuard$Reckoner") (As := [.ref (ad 11 j2), .ref (ad 11 j3)]) (rest := []) ⟨hx, hb, hml, hown, hts⟩ (c_Reckoner_divide l D ad ca N M21 M30 j0 j2 j3 eM30 hwf hj0 hj2 hj3 _) rfl (by show fg_nm y_Reckoner_divide 2; decide +kernel) u_1177 u_1179 u_22 u_186 u_1180 ⟨Nat.le_of_ble_eq_true rfl, Nat.le_of_ble_eq_true rfl⟩ hX hz hK hP hD hwf hS hA hj0 (by decide) rfl rfl rfl hl.1 (Nat.le_of_ble_eq_true rfl) d_Reckoner_operateWide_114 ⟨Nat.le_of_ble_eq_true rfl, Nat.le_of_ble_eq_true rfl⟩) hP hD hK hS hA rfl rfl (fun H locs hw hP hD hS => ?_)
    obtain ⟨hwf, hk9⟩ := hw
    have hkp := hkp.tr hk9
    refine lv_goto (tgt := 370) hx hb d_Reckoner_operateWide_117 (by decide) ?_
    exact b_370 M30 _ _ _ h hwf hkp hP hD hS (lv_sub hl [0, 4] rfl)
  have h := if_f (fun z => n29 (ew22.trans z)) h
  by_cases n31 : w22 = 4
  · have h := if_t (ew22.symm.trans n31) h
    subst n31
    refine lv_tableIn (off := 112) (tgt := 120) hx hb d_Reckoner_operateWide_8 (by decide) (by decide) (by decide) (by decide) ?_
    refine lv_aload_n hx hb d_Reckoner_operateWide_120 rfl (lv_at hl 0 rfl) ?_
    refine lv_aload_n hx hb d_Reckoner_operateWide_121 rfl (lv_at hl 2 rfl) ?_
    refine lv_aload_n hx hb d_Reckoner_operateWide_122 rfl (lv_at hl 3 rfl) ?_
    obtain ⟨M32, eM32, h⟩ := bd_ob h
    refine me_thenv0 (M1 := M32) (me_runV (C := "FilterGuard$Reckoner") (As := [.ref (ad 11 j2), .ref (ad 11 j3)]) (rest := []) ⟨hx, hb, hml, hown, hts⟩ (c_Reckoner_rest l D ad ca N M21 M32 j0 j2 j3 eM32 hwf hj0 hj2 hj3 _) rfl (by show fg_nm y_Reckoner_rest 2; decide +kernel) u_1185 u_1187 u_23 u_186 u_1188 ⟨Nat.le_of_ble_eq_true rfl, Nat.le_of_ble_eq_true rfl⟩ hX hz hK hP hD hwf hS hA hj0 (by decide) rfl rfl rfl hl.1 (Nat.le_of_ble_eq_true rfl) d_Reckoner_operateWide_123 ⟨Nat.le_of_ble_eq_true rfl, Nat.le_of_ble_eq_true rfl⟩) hP hD hK hS hA rfl rfl (fun H locs hw hP hD hS => ?_)
    obtain ⟨hwf, hk9⟩ := hw
    have hkp := hkp.tr hk9
    refine lv_goto (tgt := 370) hx hb d_Reckoner_operateWide_126 (by decide) ?_
    exact b_370 M32 _ _ _ h hwf hkp hP hD hS (lv_sub hl [0, 4] rfl)
  have h := if_f (fun z => n31 (ew22.trans z)) h
  by_cases n33 : w22 = 5
  · have h := if_t (ew22.symm.trans n33) h
    subst n33
    refine lv_tableIn (off := 121) (tgt := 129) hx hb d_Reckoner_operateWide_8 (by decide) (by decide) (by decide) (by decide) ?_
    refine lv_aload_n hx hb d_Reckoner_operateWide_129 rfl (lv_at hl 0 rfl) ?_
    refine lv_aload_n hx hb d_Reckoner_operateWide_130 rfl (lv_at hl 2 rfl) ?_
    refine lv_aload_n hx hb d_Reckoner_operateWide_131 rfl (lv_at hl 3 rfl) ?_
    obtain ⟨M34, eM34, h⟩ := bd_ob h
    refine me_thenv0 (M1 := M34) (me_runV (C := "FilterGuard$Reckoner") (As := [.ref (ad 11 j2), .ref (ad 11 j3)]) (rest := []) ⟨hx, hb, hml, hown, hts⟩ (c_Reckoner_and l D ad ca N M21 M34 j0 j2 j3 eM34 hwf hj0 hj2 hj3 _) rfl (by show fg_nm y_Reckoner_and 2; decide +kernel) u_1190 u_1192 u_24 u_186 u_1193 ⟨Nat.le_of_ble_eq_true rfl, Nat.le_of_ble_eq_true rfl⟩ hX hz hK hP hD hwf hS hA hj0 (by decide) rfl rfl rfl hl.1 (Nat.le_of_ble_eq_true rfl) d_Reckoner_operateWide_132 ⟨Nat.le_of_ble_eq_true rfl, Nat.le_of_ble_eq_true rfl⟩) hP hD hK hS hA rfl rfl (fun H locs hw hP hD hS => ?_)
    obtain ⟨hwf, hk9⟩ := hw
    have hkp := hkp.tr hk9
    refine lv_goto (tgt := 370) hx hb d_Reckoner_operateWide_135 (by decide) ?_
    exact b_370 M34 _ _ _ h hwf hkp hP hD hS (lv_sub hl [0, 4] rfl)
  have h := if_f (fun z => n33 (ew22.trans z)) h
  by_cases n35 : w22 = 6
  · have h := if_t (ew22.symm.trans n35) h
    subst n35
    refine lv_tableIn (off := 130) (tgt := 138) hx hb d_Reckoner_operateWide_8 (by decide) (by decide) (by decide) (by decide) ?_
    refine lv_aload_n hx hb d_Reckoner_operateWide_138 rfl (lv_at hl 0 rfl) ?_
    refine g_Reckoner_2 hx hb hts hown hK hP hwf hj0 (hts _ u_398) d_Reckoner_operateWide_139 ?_
    refine me_opt (j := j19) (kp_r hkb hkp e20) ?_
    refine lv_aload_n hx hb d_Reckoner_operateWide_142 rfl (lv_at hl 2 rfl) ?_
    refine g_Num_0 hx hb hts hown hK hP hwf hj2 (hts _ u_368) d_Reckoner_operateWide_143 ?_
    refine lv_aload_n hx hb d_Reckoner_operateWide_146 rfl (lv_at hl 3 rfl) ?_
    refine g_Num_0 hx hb hts hown hK hP hwf hj3 (hts _ u_368) d_Reckoner_operateWide_147 ?_
    refine lv_lor hx hb d_Reckoner_operateWide_150 ?_
    refine lv_aload_n hx hb d_Reckoner_operateWide_151 rfl (lv_at hl 2 rfl) ?_
    refine g_Num_1 hx hb hts hown hK hP hwf hj2 (hts _ u_372) d_Reckoner_operateWide_152 ?_
    refine lv_aload_n hx hb d_Reckoner_operateWide_155 rfl (lv_at hl 3 rfl) ?_
    refine g_Num_1 hx hb hts hown hK hP hwf hj3 (hts _ u_372) d_Reckoner_operateWide_156 ?_
    refine lv_lor hx hb d_Reckoner_operateWide_159 ?_
    refine lv_aload_n hx hb d_Reckoner_operateWide_160 rfl (lv_at hl 2 rfl) ?_
    refine g_Num_0 hx hb hts hown hK hP hwf hj2 (hts _ u_368) d_Reckoner_operateWide_161 ?_
    refine lv_aload_n hx hb d_Reckoner_operateWide_164 rfl (lv_at hl 3 rfl) ?_
    refine g_Num_0 hx hb hts hown hK hP hwf hj3 (hts _ u_368) d_Reckoner_operateWide_165 ?_
    refine lv_lor hx hb d_Reckoner_operateWide_168 ?_
    refine lv_ldc2 hx hb hown (hts _ u_1139) d_Reckoner_operateWide_169 ?_
    refine lv_lxor hx hb d_Reckoner_operateWide_172 ?_
    refine lv_land hx hb d_Reckoner_operateWide_173 ?_
    obtain ⟨v36, ev36, h⟩ := st_ob h
    refine fg_topl (y := v36) ev36.symm ?_
    obtain ⟨M37, eM37, h⟩ := bd_ob h
    refine me_thenv0 (M1 := M37) (me_runV (C := "FilterGuard$Num") (As := [.long ((mL M21 11 j2 0) ||| (mL M21 11 j3 0)), .long v36]) (rest := []) ⟨hx, hb, hml, hown, hts⟩ (c_Num_bits l D ad ca N M21 M37 j19 ((mL M21 11 j2 0) ||| (mL M21 11 j3 0)) v36 eM37 hwf hj19 _) rfl (by show fg_nm y_Num_bits 2; decide +kernel) u_1140 u_1141 u_1142 u_187 u_1143 ⟨Nat.le_of_ble_eq_true rfl, Nat.le_of_ble_eq_true rfl⟩ hX hz hK hP hD hwf hS hA hj19 (by decide) rfl rfl rfl hl.1 (Nat.le_of_ble_eq_true rfl) d_Reckoner_operateWide_174 ⟨Nat.le_of_ble_eq_true rfl, Nat.le_of_ble_eq_true rfl⟩) hP hD hK hS hA rfl rfl (fun H locs hw hP hD hS => ?_)
    obtain ⟨hwf, hk9⟩ := hw
    have hkp := hkp.tr hk9
    refine lv_aload_n hx hb d_Reckoner_operateWide_177 rfl (lv_at hl 0 rfl) ?_
    refine g_Reckoner_2 hx hb hts hown hK hP hwf hj0 (hts _ u_398) d_Reckoner_operateWide_178 ?_
    refine me_opt (j := j19) (kp_r hkb hkp e20) ?_
    refine lv_aload_n hx hb d_Reckoner_operateWide_181 rfl (lv_at hl 2 rfl) ?_
    refine g_Num_2 hx hb hts hown hK hP hwf hj2 (hts _ u_374) d_Reckoner_operateWide_182 ?_
    obtain ⟨M38, eM38, h⟩ := bd_ob h
    refine me_thenv0 (M1 := M38) (me_runV (C := "FilterGuard$Num") (As := [.long (mL M37 11 j2 2)]) (rest := []) ⟨hx, hb, hml, hown, hts⟩ (c_Num_raiseLeast l D ad ca N M37 M38 j19 (mL M37 11 j2 2) eM38 hwf hj19 _) rfl (by show fg_nm y_Num_raiseLeast 1; decide +kernel) u_1198 u_1199 u_1200 u_187 u_1201 ⟨Nat.le_of_ble_eq_true rfl, Nat.le_of_ble_eq_true rfl⟩ hX hz hK hP hD hwf hS hA hj19 (by decide) rfl rfl rfl hl.1 (Nat.le_of_ble_eq_true rfl) d_Reckoner_operateWide_185 ⟨Nat.le_of_ble_eq_true rfl, Nat.le_of_ble_eq_true rfl⟩) hP hD hK hS hA rfl rfl (fun H locs hw hP hD hS => ?_)
    obtain ⟨hwf, hk9⟩ := hw
    have hkp := hkp.tr hk9
    refine lv_aload_n hx hb d_Reckoner_operateWide_188 rfl (lv_at hl 0 rfl) ?_
    refine g_Reckoner_2 hx hb hts hown hK hP hwf hj0 (hts _ u_398) d_Reckoner_operateWide_189 ?_
    refine me_opt (j := j19) (kp_r hkb hkp e20) ?_
    refine lv_aload_n hx hb d_Reckoner_operateWide_192 rfl (lv_at hl 3 rfl) ?_
    refine g_Num_2 hx hb hts hown hK hP hwf hj3 (hts _ u_374) d_Reckoner_operateWide_193 ?_
    obtain ⟨M39, eM39, h⟩ := bd_ob h
    refine me_thenv0 (M1 := M39) (me_runV (C := "FilterGuard$Num") (As := [.long (mL M38 11 j3 2)]) (rest := []) ⟨hx, hb, hml, hown, hts⟩ (c_Num_raiseLeast l D ad ca N M38 M39 j19 (mL M38 11 j3 2) eM39 hwf hj19 _) rfl (by show fg_nm y_Num_raiseLeast 1; decide +kernel) u_1198 u_1199 u_1200 u_187 u_1201 ⟨Nat.le_of_ble_eq_true rfl, Nat.le_of_ble_eq_true rfl⟩ hX hz hK hP hD hwf hS hA hj19 (by decide) rfl rfl rfl hl.1 (Nat.le_of_ble_eq_true rfl) d_Reckoner_operateWide_196 ⟨Nat.le_of_ble_eq_true rfl, Nat.le_of_ble_eq_true rfl⟩) hP hD hK hS hA rfl rfl (fun H locs hw hP hD hS => ?_)
    obtain ⟨hwf, hk9⟩ := hw
    have hkp := hkp.tr hk9
    refine lv_goto (tgt := 370) hx hb d_Reckoner_operateWide_199 (by decide) ?_
    exact b_370 M39 _ _ _ h hwf hkp hP hD hS (lv_sub hl [0, 4] rfl)
  have h := if_f (fun z => n35 (ew22.trans z)) h
  by_cases n40 : w22 = 7
  · have h := if_t (ew22.symm.trans n40) h
    subst n40
    refine lv_tableIn (off := 194) (tgt := 202) hx hb d_Reckoner_operateWide_8 (by decide) (by decide) (by decide) (by decide) ?_
    refine lv_aload_n hx hb d_Reckoner_operateWide_202 rfl (lv_at hl 0 rfl) ?_
    refine g_Reckoner_2 hx hb hts hown hK hP hwf hj0 (hts _ u_398) d_Reckoner_operateWide_203 ?_
    refine me_opt (j := j19) (kp_r hkb hkp e20) ?_
    refine lv_aload_n hx hb d_Reckoner_operateWide_206 rfl (lv_at hl 2 rfl) ?_
    refine g_Num_0 hx hb hts hown hK hP hwf hj2 (hts _ u_368) d_Reckoner_operateWide_207 ?_
    refine lv_aload_n hx hb d_Reckoner_operateWide_210 rfl (lv_at hl 3 rfl) ?_
    refine g_Num_0 hx hb hts hown hK hP hwf hj3 (hts _ u_368) d_Reckoner_operateWide_211 ?_
    refine lv_lxor hx hb d_Reckoner_operateWide_214 ?_
    refine lv_aload_n hx hb d_Reckoner_operateWide_215 rfl (lv_at hl 2 rfl) ?_
    refine g_Num_1 hx hb hts hown hK hP hwf hj2 (hts _ u_372) d_Reckoner_operateWide_216 ?_
    refine lv_aload_n hx hb d_Reckoner_operateWide_219 rfl (lv_at hl 3 rfl) ?_
    refine g_Num_1 hx hb hts hown hK hP hwf hj3 (hts _ u_372) d_Reckoner_operateWide_220 ?_
    refine lv_lor hx hb d_Reckoner_operateWide_223 ?_
    refine lv_ldc2 hx hb hown (hts _ u_1139) d_Reckoner_operateWide_224 ?_
    refine lv_lxor hx hb d_Reckoner_operateWide_227 ?_
    refine lv_land hx hb d_Reckoner_operateWide_228 ?_
    obtain ⟨v41, ev41, h⟩ := st_ob h
    refine fg_topl (y := v41) ev41.symm ?_
    refine lv_aload_n hx hb d_Reckoner_operateWide_229 rfl (lv_at hl 2 rfl) ?_
    refine g_Num_1 hx hb hts hown hK hP hwf hj2 (hts _ u_372) d_Reckoner_operateWide_230 ?_
    refine lv_aload_n hx hb d_Reckoner_operateWide_233 rfl (lv_at hl 3 rfl) ?_
    refine g_Num_1 hx hb hts hown hK hP hwf hj3 (hts _ u_372) d_Reckoner_operateWide_234 ?_
    refine lv_lor hx hb d_Reckoner_operateWide_237 ?_
    obtain ⟨M42, eM42, h⟩ := bd_ob h
    refine me_thenv0 (M1 := M42) (me_runV (C := "FilterGuard$Num") (As := [.long v41, .long ((mL M21 11 j2 1) ||| (mL M21 11 j3 1))]) (rest := []) ⟨hx, hb, hml, hown, hts⟩ (c_Num_bits l D ad ca N M21 M42 j19 v41 ((mL M21 11 j2 1) ||| (mL M21 11 j3 1)) eM42 hwf hj19 _) rfl (by show fg_nm y_Num_bits 2; decide +kernel) u_1140 u_1141 u_1142 u_187 u_1143 ⟨Nat.le_of_ble_eq_true rfl, Nat.le_of_ble_eq_true rfl⟩ hX hz hK hP hD hwf hS hA hj19 (by decide) rfl rfl rfl hl.1 (Nat.le_of_ble_eq_true rfl) d_Reckoner_operateWide_238 ⟨Nat.le_of_ble_eq_true rfl, Nat.le_of_ble_eq_true rfl⟩) hP hD hK hS hA rfl rfl (fun H locs hw hP hD hS => ?_)
    obtain ⟨hwf, hk9⟩ := hw
    have hkp := hkp.tr hk9
    refine lv_goto (tgt := 370) hx hb d_Reckoner_operateWide_241 (by decide) ?_
    exact b_370 M42 _ _ _ h hwf hkp hP hD hS (lv_sub hl [0, 4] rfl)
  have h := if_f (fun z => n40 (ew22.trans z)) h
  by_cases n43 : w22 = 8
  · have h := if_t (ew22.symm.trans n43) h
    subst n43
    refine lv_tableIn (off := 355) (tgt := 363) hx hb d_Reckoner_operateWide_8 (by decide) (by decide) (by decide) (by decide) ?_
    refine lv_aload_n hx hb d_Reckoner_operateWide_363 rfl (lv_at hl 0 rfl) ?_
    refine lv_iload_n hx hb d_Reckoner_operateWide_364 rfl (lv_at hl 1 rfl) ?_
    refine lv_aload_n hx hb d_Reckoner_operateWide_365 rfl (lv_at hl 2 rfl) ?_
    refine lv_aload_n hx hb d_Reckoner_operateWide_366 rfl (lv_at hl 3 rfl) ?_
    obtain ⟨M44, eM44, h⟩ := bd_ob h
    refine me_thenv0 (M1 := M44) (me_runV (C := "FilterGuard$Reckoner") (As := [.int x1, .ref (ad 11 j2), .ref (ad 11 j3)]) (rest := []) ⟨hx, hb, hml, hown, hts⟩ (c_Reckoner_shift l D ad ca N M21 M44 j0 x1 j2 j3 eM44 hwf hj0 hj2 hj3 _) rfl (by show fg_nm y_Reckoner_shift 3; decide +kernel) u_1217 u_1219 u_26 u_186 u_1220 ⟨Nat.le_of_ble_eq_true rfl, Nat.le_of_ble_eq_true rfl⟩ hX hz hK hP hD hwf hS hA hj0 (by decide) rfl rfl rfl hl.1 (Nat.le_of_ble_eq_true rfl) d_Reckoner_operateWide_367 ⟨Nat.le_of_ble_eq_true rfl, Nat.le_of_ble_eq_true rfl⟩) hP hD hK hS hA rfl rfl (fun H locs hw hP hD hS => ?_)
    obtain ⟨hwf, hk9⟩ := hw
    have hkp := hkp.tr hk9
    exact b_370 M44 _ _ _ h hwf hkp hP hD hS (lv_sub hl [0, 4] rfl)
  have h := if_f (fun z => n43 (ew22.trans z)) h
  by_cases n45 : w22 = 9
  · have h := if_t (ew22.symm.trans n45) h
    subst n45
    refine lv_tableIn (off := 355) (tgt := 363) hx hb d_Reckoner_operateWide_8 (by decide) (by decide) (by decide) (by decide) ?_
    refine lv_aload_n hx hb d_Reckoner_operateWide_363 rfl (lv_at hl 0 rfl) ?_
    refine lv_iload_n hx hb d_Reckoner_operateWide_364 rfl (lv_at hl 1 rfl) ?_
    refine lv_aload_n hx hb d_Reckoner_operateWide_365 rfl (lv_at hl 2 rfl) ?_
    refine lv_aload_n hx hb d_Reckoner_operateWide_366 rfl (lv_at hl 3 rfl) ?_
    obtain ⟨M46, eM46, h⟩ := bd_ob h
    refine me_thenv0 (M1 := M46) (me_runV (C := "FilterGuard$Reckoner") (As := [.int x1, .ref (ad 11 j2), .ref (ad 11 j3)]) (rest := []) ⟨hx, hb, hml, hown, hts⟩ (c_Reckoner_shift l D ad ca N M21 M46 j0 x1 j2 j3 eM46 hwf hj0 hj2 hj3 _) rfl (by show fg_nm y_Reckoner_shift 3; decide +kernel) u_1217 u_1219 u_26 u_186 u_1220 ⟨Nat.le_of_ble_eq_true rfl, Nat.le_of_ble_eq_true rfl⟩ hX hz hK hP hD hwf hS hA hj0 (by decide) rfl rfl rfl hl.1 (Nat.le_of_ble_eq_true rfl) d_Reckoner_operateWide_367 ⟨Nat.le_of_ble_eq_true rfl, Nat.le_of_ble_eq_true rfl⟩) hP hD hK hS hA rfl rfl (fun H locs hw hP hD hS => ?_)
    obtain ⟨hwf, hk9⟩ := hw
    have hkp := hkp.tr hk9
    exact b_370 M46 _ _ _ h hwf hkp hP hD hS (lv_sub hl [0, 4] rfl)
  have h := if_f (fun z => n45 (ew22.trans z)) h
  by_cases n47 : w22 = 10
  · have h := if_t (ew22.symm.trans n47) h
    subst n47
    refine lv_tableIn (off := 355) (tgt := 363) hx hb d_Reckoner_operateWide_8 (by decide) (by decide) (by decide) (by decide) ?_
    refine lv_aload_n hx hb d_Reckoner_operateWide_363 rfl (lv_at hl 0 rfl) ?_
    refine lv_iload_n hx hb d_Reckoner_operateWide_364 rfl (lv_at hl 1 rfl) ?_
    refine lv_aload_n hx hb d_Reckoner_operateWide_365 rfl (lv_at hl 2 rfl) ?_
    refine lv_aload_n hx hb d_Reckoner_operateWide_366 rfl (lv_at hl 3 rfl) ?_
    obtain ⟨M48, eM48, h⟩ := bd_ob h
    refine me_thenv0 (M1 := M48) (me_runV (C := "FilterGuard$Reckoner") (As := [.int x1, .ref (ad 11 j2), .ref (ad 11 j3)]) (rest := []) ⟨hx, hb, hml, hown, hts⟩ (c_Reckoner_shift l D ad ca N M21 M48 j0 x1 j2 j3 eM48 hwf hj0 hj2 hj3 _) rfl (by show fg_nm y_Reckoner_shift 3; decide +kernel) u_1217 u_1219 u_26 u_186 u_1220 ⟨Nat.le_of_ble_eq_true rfl, Nat.le_of_ble_eq_true rfl⟩ hX hz hK hP hD hwf hS hA hj0 (by decide) rfl rfl rfl hl.1 (Nat.le_of_ble_eq_true rfl) d_Reckoner_operateWide_367 ⟨Nat.le_of_ble_eq_true rfl, Nat.le_of_ble_eq_true rfl⟩) hP hD hK hS hA rfl rfl (fun H locs hw hP hD hS => ?_)
    obtain ⟨hwf, hk9⟩ := hw
    have hkp := hkp.tr hk9
    exact b_370 M48 _ _ _ h hwf hkp hP hD hS (lv_sub hl [0, 4] rfl)
  have h := if_f (fun z => n47 (ew22.trans z)) h
  by_cases n49 : w22 = 11
  · have h := if_t (ew22.symm.trans n49) h
    subst n49
    refine lv_tableIn (off := 236) (tgt := 244) hx hb d_Reckoner_operateWide_8 (by decide) (by decide) (by decide) (by decide) ?_
    refine lv_aload_n hx hb d_Reckoner_operateWide_244 rfl (lv_at hl 0 rfl) ?_
    refine g_Reckoner_3 hx hb hts hown hK hP hwf hj0 (hts _ u_399) d_Reckoner_operateWide_245 ?_
    obtain ⟨j50, e51, h⟩ := bd_ob h
    have hj50 : j50 < N 11 := (hwf.2.1 8 j0 3 _ (kp_r hkb hkp e51) (by decide) hj0)
    refine me_opt (j := j50) (kp_r hkb hkp e51) ?_
    refine lv_lconst (v := 0) hx hb d_Reckoner_operateWide_248 (by decide) ?_
    obtain ⟨M52, eM52, h⟩ := bd_ob h
    refine me_thenv0 (M1 := M52) (me_runV (C := "FilterGuard$Num") (As := [.long 0]) (rest := []) ⟨hx, hb, hml, hown, hts⟩ (c_Num_exact l D ad ca N M21 M52 j50 (0 : Int64) eM52 hwf hj50 _) rfl (by show fg_nm y_Num_exact 1; decide +kernel) u_1161 u_1037 u_1038 u_187 u_1039 ⟨Nat.le_of_ble_eq_true rfl, Nat.le_of_ble_eq_true rfl⟩ hX hz hK hP hD hwf hS hA hj50 (by decide) rfl rfl rfl hl.1 (Nat.le_of_ble_eq_true rfl) d_Reckoner_operateWide_249 ⟨Nat.le_of_ble_eq_true rfl, Nat.le_of_ble_eq_true rfl⟩) hP hD hK hS hA rfl rfl (fun H locs hw hP hD hS => ?_)
    obtain ⟨hwf, hk9⟩ := hw
    have hkp := hkp.tr hk9
    refine lv_aload_n hx hb d_Reckoner_operateWide_252 rfl (lv_at hl 0 rfl) ?_
    refine lv_aload_n hx hb d_Reckoner_operateWide_253 rfl (lv_at hl 0 rfl) ?_
    refine g_Reckoner_3 hx hb hts hown hK hP hwf hj0 (hts _ u_399) d_Reckoner_operateWide_254 ?_
    refine me_opt (j := j50) (kp_r hkb hkp e51) ?_
    refine lv_aload_n hx hb d_Reckoner_operateWide_257 rfl (lv_at hl 2 rfl) ?_
    obtain ⟨M53, eM53, h⟩ := bd_ob h
    refine me_thenv0 (M1 := M53) (me_runV (C := "FilterGuard$Reckoner") (As := [.ref (ad 11 j50), .ref (ad 11 j2)]) (rest := []) ⟨hx, hb, hml, hown, hts⟩ (c_Reckoner_subtract l D ad ca N M52 M53 j0 j50 j2 eM53 hwf hj0 hj50 hj2 _) rfl (by show fg_nm y_Reckoner_subtract 2; decide +kernel) u_1149 u_1151 u_20 u_186 u_1152 ⟨Nat.le_of_ble_eq_true rfl, Nat.le_of_ble_eq_true rfl⟩ hX hz hK hP hD hwf hS hA hj0 (by decide) rfl rfl rfl hl.1 (Nat.le_of_ble_eq_true rfl) d_Reckoner_operateWide_258 ⟨Nat.le_of_ble_eq_true rfl, Nat.le_of_ble_eq_true rfl⟩) hP hD hK hS hA rfl rfl (fun H locs hw hP hD hS => ?_)
    obtain ⟨hwf, hk9⟩ := hw
    have hkp := hkp.tr hk9
    refine lv_goto (tgt := 370) hx hb d_Reckoner_operateWide_261 (by decide) ?_
    exact b_370 M53 _ _ _ h hwf hkp hP hD hS (lv_sub hl [0, 4] rfl)
  have h := if_f (fun z => n49 (ew22.trans z)) h
  by_cases n54 : w22 = 12
  · have h := if_t (ew22.symm.trans n54) h
    subst n54
    refine lv_tableIn (off := 256) (tgt := 264) hx hb d_Reckoner_operateWide_8 (by decide) (by decide) (by decide) (by decide) ?_
    refine lv_aload_n hx hb d_Reckoner_operateWide_264 rfl (lv_at hl 0 rfl) ?_
    refine g_Reckoner_2 hx hb hts hown hK hP hwf hj0 (hts _ u_398) d_Reckoner_operateWide_265 ?_
    refine me_opt (j := j19) (kp_r hkb hkp e20) ?_
    refine lv_aload_n hx hb d_Reckoner_operateWide_268 rfl (lv_at hl 3 rfl) ?_
    obtain ⟨M55, eM55, h⟩ := bd_ob h
    refine me_thenv0 (M1 := M55) (me_runV (C := "FilterGuard$Num") (As := [.ref (ad 11 j3)]) (rest := []) ⟨hx, hb, hml, hown, hts⟩ (c_Num_copy l D ad ca N M21 M55 j19 j3 eM55 hwf hj19 hj3 _) rfl (by show fg_nm y_Num_copy 1; decide +kernel) u_1189 u_1083 u_1084 u_187 u_1085 ⟨Nat.le_of_ble_eq_true rfl, Nat.le_of_ble_eq_true rfl⟩ hX hz hK hP hD hwf hS hA hj19 (by decide) rfl rfl rfl hl.1 (Nat.le_of_ble_eq_true rfl) d_Reckoner_operateWide_269 ⟨Nat.le_of_ble_eq_true rfl, Nat.le_of_ble_eq_true rfl⟩) hP hD hK hS hA rfl rfl (fun H locs hw hP hD hS => ?_)
    obtain ⟨hwf, hk9⟩ := hw
    have hkp := hkp.tr hk9
    refine lv_goto (tgt := 370) hx hb d_Reckoner_operateWide_272 (by decide) ?_
    exact b_370 M55 _ _ _ h hwf hkp hP hD hS (lv_sub hl [0, 4] rfl)
  have h := if_f (fun z => n54 (ew22.trans z)) h
  by_cases n56 : w22 = 13
  · have h := if_t (ew22.symm.trans n56) h
    subst n56
    refine lv_tableIn (off := 267) (tgt := 275) hx hb d_Reckoner_operateWide_8 (by decide) (by decide) (by decide) (by decide) ?_
    refine lv_aload_n hx hb d_Reckoner_operateWide_275 rfl (lv_at hl 0 rfl) ?_
    refine lv_aload_n hx hb d_Reckoner_operateWide_276 rfl (lv_at hl 2 rfl) ?_
    refine lv_aload_n hx hb d_Reckoner_operateWide_277 rfl (lv_at hl 3 rfl) ?_
    obtain ⟨M57, eM57, h⟩ := bd_ob h
    refine me_thenv0 (M1 := M57) (me_runV (C := "FilterGuard$Reckoner") (As := [.ref (ad 11 j2), .ref (ad 11 j3)]) (rest := []) ⟨hx, hb, hml, hown, hts⟩ (c_Reckoner_swap l D ad ca N M21 M57 j0 j2 j3 eM57 hwf hj0 hj2 hj3 _) rfl (by show fg_nm y_Reckoner_swap 2; decide +kernel) u_1202 u_1204 u_25 u_186 u_1205 ⟨Nat.le_of_ble_eq_true rfl, Nat.le_of_ble_eq_true rfl⟩ hX hz hK hP hD hwf hS hA hj0 (by decide) rfl rfl rfl hl.1 (Nat.le_of_ble_eq_true rfl) d_Reckoner_operateWide_278 ⟨Nat.le_of_ble_eq_true rfl, Nat.le_of_ble_eq_true rfl⟩) hP hD hK hS hA rfl rfl (fun H locs hw hP hD hS => ?_)
    obtain ⟨hwf, hk9⟩ := hw
    have hkp := hkp.tr hk9
    refine lv_goto (tgt := 370) hx hb d_Reckoner_operateWide_281 (by decide) ?_
    exact b_370 M57 _ _ _ h hwf hkp hP hD hS (lv_sub hl [0, 4] rfl)
  have h := if_f (fun z => n56 (ew22.trans z)) h
  by_cases n58 : w22 = 14
  · have h := if_t (ew22.symm.trans n58) h
    subst n58
    refine lv_tableIn (off := 276) (tgt := 284) hx hb d_Reckoner_operateWide_8 (by decide) (by decide) (by decide) (by decide) ?_
    refine lv_aload_n hx hb d_Reckoner_operateWide_284 rfl (lv_at hl 0 rfl) ?_
    refine g_Reckoner_4 hx hb hts hown hK hP hwf hj0 (hts _ u_400) d_Reckoner_operateWide_285 ?_
    obtain ⟨j59, e60, h⟩ := bd_ob h
    have hj59 : j59 < N 11 := (hwf.2.1 8 j0 4 _ (kp_r hkb hkp e60) (by decide) hj0)
    refine me_opt (j := j59) (kp_r hkb hkp e60) ?_
    refine lv_aload_n hx hb d_Reckoner_operateWide_288 rfl (lv_at hl 3 rfl) ?_
    refine lv_ldc2 hx hb hown (hts _ u_1206) d_Reckoner_operateWide_289 ?_
    obtain ⟨M61, r62, eM61, h⟩ := b2_ob h
    refine me_theni0 (M1 := M61) (me_runV (C := "FilterGuard$Num") (As := [.long 2]) (rest := [.ref (ad 11 j59)]) ⟨hx, hb, hml, hown, hts⟩ (c_Num_isExact1 l D ad ca N M21 M61 r62 j3 (2 : Int64) eM61 hwf hj3 _) rfl (by show fg_nm y_Num_isExact1 1; decide +kernel) u_1207 u_1208 u_1209 u_187 u_1210 ⟨Nat.le_of_ble_eq_true rfl, Nat.le_of_ble_eq_true rfl⟩ hX hz hK hP hD hwf hS hA hj3 (by decide) rfl rfl rfl hl.1 (Nat.le_of_ble_eq_true rfl) d_Reckoner_operateWide_292 ⟨Nat.le_of_ble_eq_true rfl, Nat.le_of_ble_eq_true rfl⟩) hP hD hK hS hA rfl rfl (fun H locs hw hP hD hS => ?_)
    obtain ⟨hwf, hk9, zr62⟩ := hw
    have hkp := hkp.tr hk9
    refine lv_if_eq (tgt := 304) hx hb d_Reckoner_operateWide_295 (by decide) (fun c63 => ?_) (fun c63 => ?_)
    · have h := if_t c63 h
      refine lv_aload_n hx hb d_Reckoner_operateWide_304 rfl (lv_at hl 3 rfl) ?_
      refine lv_ldc2 hx hb hown (hts _ u_1211) d_Reckoner_operateWide_305 ?_
      obtain ⟨M64, r65, eM64, h⟩ := b2_ob h
      refine me_theni0 (M1 := M64) (me_runV (C := "FilterGuard$Num") (As := [.long 4]) (rest := [.ref (ad 11 j59)]) ⟨hx, hb, hml, hown, hts⟩ (c_Num_isExact1 l D ad ca N M61 M64 r65 j3 (4 : Int64) eM64 hwf hj3 _) rfl (by show fg_nm y_Num_isExact1 1; decide +kernel) u_1207 u_1208 u_1209 u_187 u_1210 ⟨Nat.le_of_ble_eq_true rfl, Nat.le_of_ble_eq_true rfl⟩ hX hz hK hP hD hwf hS hA hj3 (by decide) rfl rfl rfl hl.1 (Nat.le_of_ble_eq_true rfl) d_Reckoner_operateWide_308 ⟨Nat.le_of_ble_eq_true rfl, Nat.le_of_ble_eq_true rfl⟩) hP hD hK hS hA rfl rfl (fun H locs hw hP hD hS => ?_)
      obtain ⟨hwf, hk9, zr65⟩ := hw
      have hkp := hkp.tr hk9
      refine lv_if_eq (tgt := 320) hx hb d_Reckoner_operateWide_311 (by decide) (fun c66 => ?_) (fun c66 => ?_)
      · have h := if_t c66 h
        refine lv_ldc2 hx hb hown (hts _ u_1139) d_Reckoner_operateWide_320 ?_
        exact b_323 M64 (-1 : Int64) j59 _ _ _ h hj59 hwf hkp hP hD hS (lv_sub hl [0, 2, 4] rfl)
      have h := if_f c66 h
      refine lv_ldc2 hx hb hown (hts _ u_1172) d_Reckoner_operateWide_314 ?_
      refine lv_goto (tgt := 323) hx hb d_Reckoner_operateWide_317 (by decide) ?_
      exact b_323 M64 (4294967295 : Int64) j59 _ _ _ h hj59 hwf hkp hP hD hS (lv_sub hl [0, 2, 4] rfl)
    have h := if_f c63 h
    refine lv_ldc2 hx hb hown (hts _ u_1216) d_Reckoner_operateWide_298 ?_
    refine lv_goto (tgt := 323) hx hb d_Reckoner_operateWide_301 (by decide) ?_
    exact b_323 M61 (65535 : Int64) j59 _ _ _ h hj59 hwf hkp hP hD hS (lv_sub hl [0, 2, 4] rfl)
  have h := if_f (fun z => n58 (ew22.trans z)) h
  have in23 := lv_neT n23 (show (0 : Int32).toInt = 0 from rfl)
  have in25 := lv_neT n25 (show (1 : Int32).toInt = 1 from rfl)
  have in27 := lv_neT n27 (show (2 : Int32).toInt = 2 from rfl)
  have in29 := lv_neT n29 (show (3 : Int32).toInt = 3 from rfl)
  have in31 := lv_neT n31 (show (4 : Int32).toInt = 4 from rfl)
  have in33 := lv_neT n33 (show (5 : Int32).toInt = 5 from rfl)
  have in35 := lv_neT n35 (show (6 : Int32).toInt = 6 from rfl)
  have in40 := lv_neT n40 (show (7 : Int32).toInt = 7 from rfl)
  have in43 := lv_neT n43 (show (8 : Int32).toInt = 8 from rfl)
  have in45 := lv_neT n45 (show (9 : Int32).toInt = 9 from rfl)
  have in47 := lv_neT n47 (show (10 : Int32).toInt = 10 from rfl)
  have in49 := lv_neT n49 (show (11 : Int32).toInt = 11 from rfl)
  have in54 := lv_neT n54 (show (12 : Int32).toInt = 12 from rfl)
  have in56 := lv_neT n56 (show (13 : Int32).toInt = 13 from rfl)
  have in58 := lv_neT n58 (show (14 : Int32).toInt = 14 from rfl)
  refine lv_tableOut (tgt := 363) hx hb d_Reckoner_operateWide_8 (by omega) (by decide) ?_
  refine lv_aload_n hx hb d_Reckoner_operateWide_363 rfl (lv_at hl 0 rfl) ?_
  refine lv_iload_n hx hb d_Reckoner_operateWide_364 rfl (lv_at hl 1 rfl) ?_
  refine lv_aload_n hx hb d_Reckoner_operateWide_365 rfl (lv_at hl 2 rfl) ?_
  refine lv_aload_n hx hb d_Reckoner_operateWide_366 rfl (lv_at hl 3 rfl) ?_
  obtain ⟨M67, eM67, h⟩ := bd_ob h
  refine me_thenv0 (M1 := M67) (me_runV (C := "FilterGuard$Reckoner") (As := [.int x1, .ref (ad 11 j2), .ref (ad 11 j3)]) (rest := []) ⟨hx, hb, hml, hown, hts⟩ (c_Reckoner_shift l D ad ca N M21 M67 j0 x1 j2 j3 eM67 hwf hj0 hj2 hj3 _) rfl (by show fg_nm y_Reckoner_shift 3; decide +kernel) u_1217 u_1219 u_26 u_186 u_1220 ⟨Nat.le_of_ble_eq_true rfl, Nat.le_of_ble_eq_true rfl⟩ hX hz hK hP hD hwf hS hA hj0 (by decide) rfl rfl rfl hl.1 (Nat.le_of_ble_eq_true rfl) d_Reckoner_operateWide_367 ⟨Nat.le_of_ble_eq_true rfl, Nat.le_of_ble_eq_true rfl⟩) hP hD hK hS hA rfl rfl (fun H locs hw hP hD hS => ?_)
  obtain ⟨hwf, hk9⟩ := hw
  have hkp := hkp.tr hk9
  exact b_370 M67 _ _ _ h hwf hkp hP hD hS (lv_sub hl [0, 4] rfl)
