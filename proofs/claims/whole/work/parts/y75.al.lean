theorem d_M_offsetOf_0 : decode prog_14_method_47_code 0 = .ok (.lload_n 0, 1) := by decide +kernel
theorem d_M_offsetOf_1 : decode prog_14_method_47_code 1 = .ok (.bipush 16, 2) := by decide +kernel
theorem d_M_offsetOf_3 : decode prog_14_method_47_code 3 = .ok (.lshr, 1) := by decide +kernel
theorem d_M_offsetOf_4 : decode prog_14_method_47_code 4 = .ok (.l2i, 1) := by decide +kernel
theorem d_M_offsetOf_5 : decode prog_14_method_47_code 5 = .ok (.i2s, 1) := by decide +kernel
theorem d_M_offsetOf_6 : decode prog_14_method_47_code 6 = .ok (.ireturn, 1) := by decide +kernel
abbrev y_M_offsetOf : MethodName := ⟨"FilterGuardModel", "offsetOf", "(J)I"⟩
def rm_M_offsetOf : Room := { frames := 1, cells := 0, slots := 0, locals := 20 }
abbrev q_M_offsetOf (D : va_G) (RZ : Int32) (A : Nat → Prop) : Array Value → Jvm.State → Outcome → Jvm.State → Prop := va_Qi (fun r (_ : Unit) => r = RZ ∧ True) (fg_B D A (fun _ => []) (fun _ => [])) A
set_option maxHeartbeats 4000000 in
set_option maxRecDepth 100000 in
theorem c_M_offsetOf (l : Launch) (D : va_G) (RZ : Int32) (x0 : Int64) (h : f_M_offsetOf x0 = (some RZ)) (sz : Nat) : Met l y_M_offsetOf (fg_w y_M_offsetOf prog_14_method_47_code 2 (some .int)) rm_M_offsetOf (va_Pc [.long x0] (fg_P D [] [] sz)) (q_M_offsetOf D RZ (va_A [] sz)) rm_M_offsetOf.cells rm_M_offsetOf.slots (va_A [] sz) := by
  refine fg_enter (fun A => q_M_offsetOf D RZ A) (by decide +kernel) (Nat.le_of_ble_eq_true rfl) ?_
  intro p e s m below meth c ls A hx hb hml hown hts hr hlocks hin hP hK hD hS hA hX hl
  have hl : lv_has ls 2 [(0, .long x0)] := hl
  unfold f_M_offsetOf at h
  refine lv_lload_n hx hb d_M_offsetOf_0 rfl (lv_at hl 0 rfl) ?_
  refine lv_bipush (v := 16) hx hb d_M_offsetOf_1 (by decide) ?_
  refine lv_lshr (v := jlshr x0 (16 : Int32)) hx hb d_M_offsetOf_3 rfl ?_
  refine lv_l2i (v := (jlshr x0 (16 : Int32)).toInt32) hx hb d_M_offsetOf_4 rfl ?_
  refine lv_i2s (v := ((jlshr x0 (16 : Int32)).toInt32).toInt16.toInt32) hx hb d_M_offsetOf_5 rfl ?_
  exact me_preti h hx hb hr hlocks hK hS d_M_offsetOf_6
theorem d_M_fieldOf_0 : decode prog_14_method_48_code 0 = .ok (.lload_n 0, 1) := by decide +kernel
theorem d_M_fieldOf_1 : decode prog_14_method_48_code 1 = .ok (.bipush 32, 2) := by decide +kernel
theorem d_M_fieldOf_3 : decode prog_14_method_48_code 3 = .ok (.lshr, 1) := by decide +kernel
theorem d_M_fieldOf_4 : decode prog_14_method_48_code 4 = .ok (.l2i, 1) := by decide +kernel
theorem d_M_fieldOf_5 : decode prog_14_method_48_code 5 = .ok (.ireturn, 1) := by decide +kernel
abbrev y_M_fieldOf : MethodName := ⟨"FilterGuardModel", "fieldOf", "(J)I"⟩
def rm_M_fieldOf : Room := { frames := 1, cells := 0, slots := 0, locals := 20 }
abbrev q_M_fieldOf (D : va_G) (RZ : Int32) (A : Nat → Prop) : Array Value → Jvm.State → Outcome → Jvm.State → Prop := va_Qi (fun r (_ : Unit) => r = RZ ∧ True) (fg_B D A (fun _ => []) (fun _ => [])) A
set_option maxHeartbeats 4000000 in
set_option maxRecDepth 100000 in
theorem c_M_fieldOf (l : Launch) (D : va_G) (RZ : Int32) (x0 : Int64) (h : f_M_fieldOf x0 = (some RZ)) (sz : Nat) : Met l y_M_fieldOf (fg_w y_M_fieldOf prog_14_method_48_code 2 (some .int)) rm_M_fieldOf (va_Pc [.long x0] (fg_P D [] [] sz)) (q_M_fieldOf D RZ (va_A [] sz)) rm_M_fieldOf.cells rm_M_fieldOf.slots (va_A [] sz) := by
  refine fg_enter (fun A => q_M_fieldOf D RZ A) (by decide +kernel) (Nat.le_of_ble_eq_true rfl) ?_
  intro p e s m below meth c ls A hx hb hml hown hts hr hlocks hin hP hK hD hS hA hX hl
  have hl : lv_has ls 2 [(0, .long x0)] := hl
  unfold f_M_fieldOf at h
  refine lv_lload_n hx hb d_M_fieldOf_0 rfl (lv_at hl 0 rfl) ?_
  refine lv_bipush (v := 32) hx hb d_M_fieldOf_1 (by decide) ?_
  refine lv_lshr (v := jlshr x0 (32 : Int32)) hx hb d_M_fieldOf_3 rfl ?_
  refine lv_l2i (v := (jlshr x0 (32 : Int32)).toInt32) hx hb d_M_fieldOf_4 rfl ?_
  exact me_preti h hx hb hr hlocks hK hS d_M_fieldOf_5
theorem d_M_memory_0 : decode prog_14_method_50_code 0 = .ok (.iload_n 0, 1) := by decide +kernel
theorem d_M_memory_1 : decode prog_14_method_50_code 1 = .ok (.lookupswitch (141) #[(24, 131), (97, 133), (98, 137), (99, 135), (105, 133), (106, 137), (107, 135), (113, 133), (114, 137), (115, 135), (121, 133), (122, 137), (123, 135), (195, 139), (219, 139)], 131) := by decide +kernel
theorem d_M_memory_132 : decode prog_14_method_50_code 132 = .ok (.iconst 1, 1) := by decide +kernel
theorem d_M_memory_133 : decode prog_14_method_50_code 133 = .ok (.ireturn, 1) := by decide +kernel
theorem d_M_memory_134 : decode prog_14_method_50_code 134 = .ok (.iconst 2, 1) := by decide +kernel
theorem d_M_memory_135 : decode prog_14_method_50_code 135 = .ok (.ireturn, 1) := by decide +kernel
theorem d_M_memory_138 : decode prog_14_method_50_code 138 = .ok (.iconst 4, 1) := by decide +kernel
theorem d_M_memory_139 : decode prog_14_method_50_code 139 = .ok (.ireturn, 1) := by decide +kernel
theorem d_M_memory_136 : decode prog_14_method_50_code 136 = .ok (.iconst 3, 1) := by decide +kernel
theorem d_M_memory_137 : decode prog_14_method_50_code 137 = .ok (.ireturn, 1) := by decide +kernel
theorem d_M_memory_140 : decode prog_14_method_50_code 140 = .ok (.iconst 5, 1) := by decide +kernel
theorem d_M_memory_141 : decode prog_14_method_50_code 141 = .ok (.ireturn, 1) := by decide +kernel
theorem d_M_memory_142 : decode prog_14_method_50_code 142 = .ok (.iconst 0, 1) := by decide +kernel
theorem d_M_memory_143 : decode prog_14_method_50_code 143 = .ok (.ireturn, 1) := by decide +kernel
abbrev y_M_memory : MethodName := ⟨"FilterGuardModel", "memory", "(I)I"⟩
def rm_M_memory : Room := { frames := 1, cells := 0, slots := 0, locals := 20 }
abbrev q_M_memory (D : va_G) (RZ : Int32) (A : Nat → Prop) : Array Value → Jvm.State → Outcome → Jvm.State → Prop := va_Qi (fun r (_ : Unit) => r = RZ ∧ True) (fg_B D A (fun _ => []) (fun _ => [])) A
set_option maxHeartbeats 4000000 in
set_option maxRecDepth 100000 in
theorem c_M_memory (l : Launch) (D : va_G) (RZ : Int32) (x0 : Int32) (h : f_M_memory x0 = (some RZ)) (sz : Nat) : Met l y_M_memory (fg_w y_M_memory prog_14_method_50_code 1 (some .int)) rm_M_memory (va_Pc [.int x0] (fg_P D [] [] sz)) (q_M_memory D RZ (va_A [] sz)) rm_M_memory.cells rm_M_memory.slots (va_A [] sz) := by
  refine fg_enter (fun A => q_M_memory D RZ A) (by decide +kernel) (Nat.le_of_ble_eq_true rfl) ?_
  intro p e s m below meth c ls A hx hb hml hown hts hr hlocks hin hP hK hD hS hA hX hl
  have hl : lv_has ls 1 [(0, .int x0)] := hl
  unfold f_M_memory at h
  refine lv_iload_n hx hb d_M_memory_0 rfl (lv_at hl 0 rfl) ?_
  refine lv_topi (fun w1 ew1 => ?_)
  by_cases n2 : w1 = 24
  · have h := if_t (ew1.symm.trans n2) h
    subst n2
    refine lv_lookup (off := 131) (tgt := 132) hx hb d_M_memory_1 (by decide) (by decide) (by decide) ?_
    refine lv_iconst (v := 1) hx hb d_M_memory_132 (by decide) ?_
    exact me_preti h hx hb hr hlocks hK hS d_M_memory_133
  have h := if_f (fun z => n2 (ew1.trans z)) h
  by_cases n3 : w1 = 97
  · have h := if_t (ew1.symm.trans n3) h
    subst n3
    refine lv_lookup (off := 133) (tgt := 134) hx hb d_M_memory_1 (by decide) (by decide) (by decide) ?_
    refine lv_iconst (v := 2) hx hb d_M_memory_134 (by decide) ?_
    exact me_preti h hx hb hr hlocks hK hS d_M_memory_135
  have h := if_f (fun z => n3 (ew1.trans z)) h
  by_cases n4 : w1 = 98
  · have h := if_t (ew1.symm.trans n4) h
    subst n4
    refine lv_lookup (off := 137) (tgt := 138) hx hb d_M_memory_1 (by decide) (by decide) (by decide) ?_
    refine lv_iconst (v := 4) hx hb d_M_memory_138 (by decide) ?_
    exact me_preti h hx hb hr hlocks hK hS d_M_memory_139
  have h := if_f (fun z => n4 (ew1.trans z)) h
  by_cases n5 : w1 = 99
  · have h := if_t (ew1.symm.trans n5) h
    subst n5
    refine lv_lookup (off := 135) (tgt := 136) hx hb d_M_memory_1 (by decide) (by decide) (by decide) ?_
    refine lv_iconst (v := 3) hx hb d_M_memory_136 (by decide) ?_
    exact me_preti h hx hb hr hlocks hK hS d_M_memory_137
  have h := if_f (fun z => n5 (ew1.trans z)) h
  by_cases n6 : w1 = 105
  · have h := if_t (ew1.symm.trans n6) h
    subst n6
    refine lv_lookup (off := 133) (tgt := 134) hx hb d_M_memory_1 (by decide) (by decide) (by decide) ?_
    refine lv_iconst (v := 2) hx hb d_M_memory_134 (by decide) ?_
    exact me_preti h hx hb hr hlocks hK hS d_M_memory_135
  have h := if_f (fun z => n6 (ew1.trans z)) h
  by_cases n7 : w1 = 106
  · have h := if_t (ew1.symm.trans n7) h
    subst n7
    refine lv_lookup (off := 137) (tgt := 138) hx hb d_M_memory_1 (by decide) (by decide) (by decide) ?_
    refine lv_iconst (v := 4) hx hb d_M_memory_138 (by decide) ?_
    exact me_preti h hx hb hr hlocks hK hS d_M_memory_139
  have h := if_f (fun z => n7 (ew1.trans z)) h
  by_cases n8 : w1 = 107
  · have h := if_t (ew1.symm.trans n8) h
    subst n8
    refine lv_lookup (off := 135) (tgt := 136) hx hb d_M_memory_1 (by decide) (by decide) (by decide) ?_
    refine lv_iconst (v := 3) hx hb d_M_memory_136 (by decide) ?_
    exact me_preti h hx hb hr hlocks hK hS d_M_memory_137
  have h := if_f (fun z => n8 (ew1.trans z)) h
  by_cases n9 : w1 = 113
  · have h := if_t (ew1.symm.trans n9) h
    subst n9
    refine lv_lookup (off := 133) (tgt := 134) hx hb d_M_memory_1 (by decide) (by decide) (by decide) ?_
    refine lv_iconst (v := 2) hx hb d_M_memory_134 (by decide) ?_
    exact me_preti h hx hb hr hlocks hK hS d_M_memory_135
  have h := if_f (fun z => n9 (ew1.trans z)) h
  by_cases n10 : w1 = 114
  · have h := if_t (ew1.symm.trans n10) h
    subst n10
    refine lv_lookup (off := 137) (tgt := 138) hx hb d_M_memory_1 (by decide) (by decide) (by decide) ?_
    refine lv_iconst (v := 4) hx hb d_M_memory_138 (by decide) ?_
    exact me_preti h hx hb hr hlocks hK hS d_M_memory_139
  have h := if_f (fun z => n10 (ew1.trans z)) h
  by_cases n11 : w1 = 115
  · have h := if_t (ew1.symm.trans n11) h
    subst n11
    refine lv_lookup (off := 135) (tgt := 136) hx hb d_M_memory_1 (by decide) (by decide) (by decide) ?_
    refine lv_iconst (v := 3) hx hb d_M_memory_136 (by decide) ?_
    exact me_preti h hx hb hr hlocks hK hS d_M_memory_137
  have h := if_f (fun z => n11 (ew1.trans z)) h
  by_cases n12 : w1 = 121
  · have h := if_t (ew1.symm.trans n12) h
    subst n12
    refine lv_lookup (off := 133) (tgt := 134) hx hb d_M_memory_1 (by decide) (by decide) (by decide) ?_
    refine lv_iconst (v := 2) hx hb d_M_memory_134 (by decide) ?_
    exact me_preti h hx hb hr hlocks hK hS d_M_memory_135
  have h := if_f (fun z => n12 (ew1.trans z)) h
  by_cases n13 : w1 = 122
  · have h := if_t (ew1.symm.trans n13) h
    subst n13
    refine lv_lookup (off := 137) (tgt := 138) hx hb d_M_memory_1 (by decide) (by decide) (by decide) ?_
    refine lv_iconst (v := 4) hx hb d_M_memory_138 (by decide) ?_
    exact me_preti h hx hb hr hlocks hK hS d_M_memory_139
  have h := if_f (fun z => n13 (ew1.trans z)) h
  by_cases n14 : w1 = 123
  · have h := if_t (ew1.symm.trans n14) h
    subst n14
    refine lv_lookup (off := 135) (tgt := 136) hx hb d_M_memory_1 (by decide) (by decide) (by decide) ?_
    refine lv_iconst (v := 3) hx hb d_M_memory_136 (by decide) ?_
    exact me_preti h hx hb hr hlocks hK hS d_M_memory_137
  have h := if_f (fun z => n14 (ew1.trans z)) h
  by_cases n15 : w1 = 195
  · have h := if_t (ew1.symm.trans n15) h
    subst n15
    refine lv_lookup (off := 139) (tgt := 140) hx hb d_M_memory_1 (by decide) (by decide) (by decide) ?_
    refine lv_iconst (v := 5) hx hb d_M_memory_140 (by decide) ?_
    exact me_preti h hx hb hr hlocks hK hS d_M_memory_141
  have h := if_f (fun z => n15 (ew1.trans z)) h
  by_cases n16 : w1 = 219
  · have h := if_t (ew1.symm.trans n16) h
    subst n16
    refine lv_lookup (off := 139) (tgt := 140) hx hb d_M_memory_1 (by decide) (by decide) (by decide) ?_
    refine lv_iconst (v := 5) hx hb d_M_memory_140 (by decide) ?_
    exact me_preti h hx hb hr hlocks hK hS d_M_memory_141
  have h := if_f (fun z => n16 (ew1.trans z)) h
  refine lv_lookup (off := 141) (tgt := 142) hx hb d_M_memory_1 (by decide) ((lv_osw (a := 24) (o := 131) n2 (by decide)).trans ((lv_osw (a := 97) (o := 133) n3 (by decide)).trans ((lv_osw (a := 98) (o := 137) n4 (by decide)).trans ((lv_osw (a := 99) (o := 135) n5 (by decide)).trans ((lv_osw (a := 105) (o := 133) n6 (by decide)).trans ((lv_osw (a := 106) (o := 137) n7 (by decide)).trans ((lv_osw (a := 107) (o := 135) n8 (by decide)).trans ((lv_osw (a := 113) (o := 133) n9 (by decide)).trans ((lv_osw (a := 114) (o := 137) n10 (by decide)).trans ((lv_osw (a := 115) (o := 135) n11 (by decide)).trans ((lv_osw (a := 121) (o := 133) n12 (by decide)).trans ((lv_osw (a := 122) (o := 137) n13 (by decide)).trans ((lv_osw (a := 123) (o := 135) n14 (by decide)).trans ((lv_osw (a := 195) (o := 139) n15 (by decide)).trans ((lv_osw (a := 219) (o := 139) n16 (by decide)).trans rfl))))))))))))))) (by decide) ?_
  refine lv_iconst (v := 0) hx hb d_M_memory_142 (by decide) ?_
  exact me_preti h hx hb hr hlocks hK hS d_M_memory_143
theorem d_M_instruction_0 : decode prog_14_method_49_code 0 = .ok (.iload_n 0, 1) := by decide +kernel
theorem d_M_instruction_1 : decode prog_14_method_49_code 1 = .ok (.iconst 4, 1) := by decide +kernel
theorem d_M_instruction_2 : decode prog_14_method_49_code 2 = .ok (.ishr, 1) := by decide +kernel
theorem d_M_instruction_3 : decode prog_14_method_49_code 3 = .ok (.istore_n 1, 1) := by decide +kernel
theorem d_M_instruction_4 : decode prog_14_method_49_code 4 = .ok (.iload_n 0, 1) := by decide +kernel
theorem d_M_instruction_5 : decode prog_14_method_49_code 5 = .ok (.bipush 15, 2) := by decide +kernel
theorem d_M_instruction_7 : decode prog_14_method_49_code 7 = .ok (.iand, 1) := by decide +kernel
theorem d_M_instruction_8 : decode prog_14_method_49_code 8 = .ok (.tableswitch 225 4 15 #[64, 162, 162, 125, 225, 225, 225, 225, 64, 162, 162, 125], 64) := by decide +kernel
theorem d_M_instruction_72 : decode prog_14_method_49_code 72 = .ok (.iload_n 0, 1) := by decide +kernel
theorem d_M_instruction_73 : decode prog_14_method_49_code 73 = .ok (.sipush 132, 3) := by decide +kernel
theorem d_M_instruction_76 : decode prog_14_method_49_code 76 = .ok (.if_icmp .ne 8, 3) := by decide +kernel
theorem d_M_instruction_84 : decode prog_14_method_49_code 84 = .ok (.iload_n 0, 1) := by decide +kernel
theorem d_M_instruction_85 : decode prog_14_method_49_code 85 = .ok (.sipush 212, 3) := by decide +kernel
theorem d_M_instruction_88 : decode prog_14_method_49_code 88 = .ok (.if_icmp .ne 8, 3) := by decide +kernel
theorem d_M_instruction_96 : decode prog_14_method_49_code 96 = .ok (.iload_n 0, 1) := by decide +kernel
theorem d_M_instruction_97 : decode prog_14_method_49_code 97 = .ok (.sipush 220, 3) := by decide +kernel
theorem d_M_instruction_100 : decode prog_14_method_49_code 100 = .ok (.if_icmp .ne 8, 3) := by decide +kernel
theorem d_M_instruction_108 : decode prog_14_method_49_code 108 = .ok (.iload_n 1, 1) := by decide +kernel
theorem d_M_instruction_109 : decode prog_14_method_49_code 109 = .ok (.bipush 8, 2) := by decide +kernel
theorem d_M_instruction_111 : decode prog_14_method_49_code 111 = .ok (.if_icmp .lt 15, 3) := by decide +kernel
theorem d_M_instruction_126 : decode prog_14_method_49_code 126 = .ok (.bipush 6, 2) := by decide +kernel
theorem d_M_instruction_128 : decode prog_14_method_49_code 128 = .ok (.goto 4, 3) := by decide +kernel
theorem d_M_instruction_132 : decode prog_14_method_49_code 132 = .ok (.ireturn, 1) := by decide +kernel
theorem d_M_instruction_114 : decode prog_14_method_49_code 114 = .ok (.iload_n 1, 1) := by decide +kernel
theorem d_M_instruction_115 : decode prog_14_method_49_code 115 = .ok (.bipush 8, 2) := by decide +kernel
theorem d_M_instruction_117 : decode prog_14_method_49_code 117 = .ok (.if_icmp .le 14, 3) := by decide +kernel
theorem d_M_instruction_131 : decode prog_14_method_49_code 131 = .ok (.iconst 0, 1) := by decide +kernel
theorem d_M_instruction_120 : decode prog_14_method_49_code 120 = .ok (.iload_n 1, 1) := by decide +kernel
theorem d_M_instruction_121 : decode prog_14_method_49_code 121 = .ok (.bipush 13, 2) := by decide +kernel
theorem d_M_instruction_123 : decode prog_14_method_49_code 123 = .ok (.if_icmp .ge 8, 3) := by decide +kernel
theorem d_M_instruction_103 : decode prog_14_method_49_code 103 = .ok (.bipush 9, 2) := by decide +kernel
theorem d_M_instruction_105 : decode prog_14_method_49_code 105 = .ok (.goto 27, 3) := by decide +kernel
theorem d_M_instruction_91 : decode prog_14_method_49_code 91 = .ok (.bipush 8, 2) := by decide +kernel
theorem d_M_instruction_93 : decode prog_14_method_49_code 93 = .ok (.goto 39, 3) := by decide +kernel
theorem d_M_instruction_79 : decode prog_14_method_49_code 79 = .ok (.bipush 7, 2) := by decide +kernel
theorem d_M_instruction_81 : decode prog_14_method_49_code 81 = .ok (.goto 51, 3) := by decide +kernel
theorem d_M_instruction_170 : decode prog_14_method_49_code 170 = .ok (.iload_n 0, 1) := by decide +kernel
theorem d_M_instruction_171 : decode prog_14_method_49_code 171 = .ok (.iconst 5, 1) := by decide +kernel
theorem d_M_instruction_172 : decode prog_14_method_49_code 172 = .ok (.if_icmp .ne 8, 3) := by decide +kernel
theorem d_M_instruction_180 : decode prog_14_method_49_code 180 = .ok (.iload_n 0, 1) := by decide +kernel
theorem d_M_instruction_181 : decode prog_14_method_49_code 181 = .ok (.sipush 133, 3) := by decide +kernel
theorem d_M_instruction_184 : decode prog_14_method_49_code 184 = .ok (.if_icmp .ne 8, 3) := by decide +kernel
theorem d_M_instruction_192 : decode prog_14_method_49_code 192 = .ok (.iload_n 0, 1) := by decide +kernel
theorem d_M_instruction_193 : decode prog_14_method_49_code 193 = .ok (.sipush 149, 3) := by decide +kernel
theorem d_M_instruction_196 : decode prog_14_method_49_code 196 = .ok (.if_icmp .ne 8, 3) := by decide +kernel
theorem d_M_instruction_204 : decode prog_14_method_49_code 204 = .ok (.iload_n 1, 1) := by decide +kernel
theorem d_M_instruction_205 : decode prog_14_method_49_code 205 = .ok (.ifCond .le 9, 3) := by decide +kernel
theorem d_M_instruction_214 : decode prog_14_method_49_code 214 = .ok (.iload_n 1, 1) := by decide +kernel
theorem d_M_instruction_215 : decode prog_14_method_49_code 215 = .ok (.bipush 9, 2) := by decide +kernel
theorem d_M_instruction_217 : decode prog_14_method_49_code 217 = .ok (.if_icmp .le 14, 3) := by decide +kernel
theorem d_M_instruction_231 : decode prog_14_method_49_code 231 = .ok (.iconst 0, 1) := by decide +kernel
theorem d_M_instruction_232 : decode prog_14_method_49_code 232 = .ok (.ireturn, 1) := by decide +kernel
theorem d_M_instruction_220 : decode prog_14_method_49_code 220 = .ok (.iload_n 1, 1) := by decide +kernel
theorem d_M_instruction_221 : decode prog_14_method_49_code 221 = .ok (.bipush 14, 2) := by decide +kernel
theorem d_M_instruction_223 : decode prog_14_method_49_code 223 = .ok (.if_icmp .ge 8, 3) := by decide +kernel
theorem d_M_instruction_226 : decode prog_14_method_49_code 226 = .ok (.bipush 11, 2) := by decide +kernel
theorem d_M_instruction_228 : decode prog_14_method_49_code 228 = .ok (.goto 4, 3) := by decide +kernel
theorem d_M_instruction_208 : decode prog_14_method_49_code 208 = .ok (.iload_n 1, 1) := by decide +kernel
theorem d_M_instruction_209 : decode prog_14_method_49_code 209 = .ok (.bipush 8, 2) := by decide +kernel
theorem d_M_instruction_211 : decode prog_14_method_49_code 211 = .ok (.if_icmp .lt 15, 3) := by decide +kernel
theorem d_M_instruction_199 : decode prog_14_method_49_code 199 = .ok (.bipush 13, 2) := by decide +kernel
theorem d_M_instruction_201 : decode prog_14_method_49_code 201 = .ok (.goto 31, 3) := by decide +kernel
theorem d_M_instruction_187 : decode prog_14_method_49_code 187 = .ok (.bipush 12, 2) := by decide +kernel
theorem d_M_instruction_189 : decode prog_14_method_49_code 189 = .ok (.goto 43, 3) := by decide +kernel
theorem d_M_instruction_175 : decode prog_14_method_49_code 175 = .ok (.bipush 10, 2) := by decide +kernel
theorem d_M_instruction_177 : decode prog_14_method_49_code 177 = .ok (.goto 55, 3) := by decide +kernel
theorem d_M_instruction_133 : decode prog_14_method_49_code 133 = .ok (.iload_n 0, 1) := by decide +kernel
theorem d_M_instruction_134 : decode prog_14_method_49_code 134 = .ok (.sipush 135, 3) := by decide +kernel
theorem d_M_instruction_137 : decode prog_14_method_49_code 137 = .ok (.if_icmp .ne 8, 3) := by decide +kernel
theorem d_M_instruction_145 : decode prog_14_method_49_code 145 = .ok (.iload_n 1, 1) := by decide +kernel
theorem d_M_instruction_146 : decode prog_14_method_49_code 146 = .ok (.bipush 8, 2) := by decide +kernel
theorem d_M_instruction_148 : decode prog_14_method_49_code 148 = .ok (.if_icmp .lt 15, 3) := by decide +kernel
theorem d_M_instruction_163 : decode prog_14_method_49_code 163 = .ok (.bipush 6, 2) := by decide +kernel
theorem d_M_instruction_165 : decode prog_14_method_49_code 165 = .ok (.goto 4, 3) := by decide +kernel
theorem d_M_instruction_169 : decode prog_14_method_49_code 169 = .ok (.ireturn, 1) := by decide +kernel
theorem d_M_instruction_151 : decode prog_14_method_49_code 151 = .ok (.iload_n 1, 1) := by decide +kernel
theorem d_M_instruction_152 : decode prog_14_method_49_code 152 = .ok (.bipush 8, 2) := by decide +kernel
theorem d_M_instruction_154 : decode prog_14_method_49_code 154 = .ok (.if_icmp .le 14, 3) := by decide +kernel
theorem d_M_instruction_168 : decode prog_14_method_49_code 168 = .ok (.iconst 0, 1) := by decide +kernel
theorem d_M_instruction_157 : decode prog_14_method_49_code 157 = .ok (.iload_n 1, 1) := by decide +kernel
theorem d_M_instruction_158 : decode prog_14_method_49_code 158 = .ok (.bipush 13, 2) := by decide +kernel
theorem d_M_instruction_160 : decode prog_14_method_49_code 160 = .ok (.if_icmp .ge 8, 3) := by decide +kernel
theorem d_M_instruction_140 : decode prog_14_method_49_code 140 = .ok (.bipush 7, 2) := by decide +kernel
theorem d_M_instruction_142 : decode prog_14_method_49_code 142 = .ok (.goto 27, 3) := by decide +kernel
theorem d_M_instruction_233 : decode prog_14_method_49_code 233 = .ok (.iload_n 0, 1) := by decide +kernel
theorem d_M_instruction_234 : decode prog_14_method_49_code 234 = .ok (.invokestatic 305, 3) := by decide +kernel
theorem u_2003 : Cond.methodLink "FilterGuardModel" 305 ⟨"FilterGuardModel", "memory", "(I)I"⟩ ∈ fg_g := fg_in (List.mem_of_getElem? (i := 2003) (by decide +kernel)) rfl
theorem u_2005 : Cond.code ⟨"FilterGuardModel", "memory", "(I)I"⟩ prog_14_method_50_code 1 (some .int) ∈ fg_g := fg_in (List.mem_of_getElem? (i := 2005) (by decide +kernel)) rfl
theorem u_2004 : Cond.static ⟨"FilterGuardModel", "memory", "(I)I"⟩ ∈ fg_g := fg_in (List.mem_of_getElem? (i := 2004) (by decide +kernel)) rfl
theorem d_M_instruction_237 : decode prog_14_method_49_code 237 = .ok (.ireturn, 1) := by decide +kernel
abbrev y_M_instruction : MethodName := ⟨"FilterGuardModel", "instruction", "(I)I"⟩
def rm_M_instruction : Room := { frames := 2, cells := 0, slots := 0, locals := 40 }
abbrev q_M_instruction (D : va_G) (RZ : Int32) (A : Nat → Prop) : Array Value → Jvm.State → Outcome → Jvm.State → Prop := va_Qi (fun r (_ : Unit) => r = RZ ∧ True) (fg_B D A (fun _ => []) (fun _ => [])) A
set_option maxHeartbeats 4000000 in
set_option maxRecDepth 100000 in
theorem c_M_instruction (l : Launch) (D : va_G) (RZ : Int32) (x0 : Int32) (h : f_M_instruction x0 = (some RZ)) (sz : Nat) : Met l y_M_instruction (fg_w y_M_instruction prog_14_method_49_code 2 (some .int)) rm_M_instruction (va_Pc [.int x0] (fg_P D [] [] sz)) (q_M_instruction D RZ (va_A [] sz)) rm_M_instruction.cells rm_M_instruction.slots (va_A [] sz) := by
  refine fg_enter (fun A => q_M_instruction D RZ A) (by decide +kernel) (Nat.le_of_ble_eq_true rfl) ?_
  intro p e s m below meth c ls A hx hb hml hown hts hr hlocks hin hP hK hD hS hA hX hl
  have hl : lv_has ls 2 [(0, .int x0)] := hl
  unfold f_M_instruction at h
  refine lv_iload_n hx hb d_M_instruction_0 rfl (lv_at hl 0 rfl) ?_
  refine lv_iconst (v := 4) hx hb d_M_instruction_1 (by decide) ?_
  refine lv_ishr hx hb d_M_instruction_2 ?_
  refine fg_topi (y := jishr x0 4) rfl ?_
  obtain ⟨v1, ev1, h⟩ := st_ob h
  refine fg_topi (y := v1) ev1.symm ?_
  refine lv_istore_n (lv' := [(1, .int v1), (0, .int x0)]) hx hb d_M_instruction_3 rfl hl (by decide) rfl (fun ls hl => ?_)
  refine lv_iload_n hx hb d_M_instruction_4 rfl (lv_at hl 1 rfl) ?_
  refine lv_bipush (v := 15) hx hb d_M_instruction_5 (by decide) ?_
  refine lv_iand hx hb d_M_instruction_7 ?_
  refine lv_topi (fun w2 ew2 => ?_)
  by_cases n3 : w2 = 4
  · have h := if_t (ew2.symm.trans n3) h
    subst n3
    refine lv_tableIn (off := 64) (tgt := 72) hx hb d_M_instruction_8 (by decide) (by decide) (by decide) (by decide) ?_
    refine lv_iload_n hx hb d_M_instruction_72 rfl (lv_at hl 1 rfl) ?_
    refine lv_sipush (v := 132) hx hb d_M_instruction_73 (by decide) ?_
    refine lv_icmp_ne (tgt := 84) hx hb d_M_instruction_76 (by decide) (fun c4 => ?_) (fun c4 => ?_)
    · have h := if_f c4 h
      refine lv_iload_n hx hb d_M_instruction_84 rfl (lv_at hl 1 rfl) ?_
      refine lv_sipush (v := 212) hx hb d_M_instruction_85 (by decide) ?_
      refine lv_icmp_ne (tgt := 96) hx hb d_M_instruction_88 (by decide) (fun c5 => ?_) (fun c5 => ?_)
      · have h := if_f c5 h
        refine lv_iload_n hx hb d_M_instruction_96 rfl (lv_at hl 1 rfl) ?_
        refine lv_sipush (v := 220) hx hb d_M_instruction_97 (by decide) ?_
        refine lv_icmp_ne (tgt := 108) hx hb d_M_instruction_100 (by decide) (fun c6 => ?_) (fun c6 => ?_)
        · have h := if_f c6 h
          refine lv_iload_n hx hb d_M_instruction_108 rfl (lv_at hl 0 rfl) ?_
          refine lv_bipush (v := 8) hx hb d_M_instruction_109 (by decide) ?_
          refine lv_icmp_lt (tgt := 126) hx hb d_M_instruction_111 (by decide) (fun c7 => ?_) (fun c7 => ?_)
          · have h := if_t c7 h
            refine lv_bipush (v := 6) hx hb d_M_instruction_126 (by decide) ?_
            refine lv_goto (tgt := 132) hx hb d_M_instruction_128 (by decide) ?_
            exact me_preti h hx hb hr hlocks hK hS d_M_instruction_132
          have h := if_f c7 h
          refine lv_iload_n hx hb d_M_instruction_114 rfl (lv_at hl 0 rfl) ?_
          refine lv_bipush (v := 8) hx hb d_M_instruction_115 (by decide) ?_
          refine lv_icmp_le (tgt := 131) hx hb d_M_instruction_117 (by decide) (fun c8 => ?_) (fun c8 => ?_)
          · have h := if_t c8 h
            refine lv_iconst (v := 0) hx hb d_M_instruction_131 (by decide) ?_
            exact me_preti h hx hb hr hlocks hK hS d_M_instruction_132
          have h := if_f c8 h
          refine lv_iload_n hx hb d_M_instruction_120 rfl (lv_at hl 0 rfl) ?_
          refine lv_bipush (v := 13) hx hb d_M_instruction_121 (by decide) ?_
          refine lv_icmp_ge (tgt := 131) hx hb d_M_instruction_123 (by decide) (fun c9 => ?_) (fun c9 => ?_)
          · have h := if_t c9 h
            refine lv_iconst (v := 0) hx hb d_M_instruction_131 (by decide) ?_
            exact me_preti h hx hb hr hlocks hK hS d_M_instruction_132
          have h := if_f c9 h
          refine lv_bipush (v := 6) hx hb d_M_instruction_126 (by decide) ?_
          refine lv_goto (tgt := 132) hx hb d_M_instruction_128 (by decide) ?_
          exact me_preti h hx hb hr hlocks hK hS d_M_instruction_132
        have h := if_t c6 h
        refine lv_bipush (v := 9) hx hb d_M_instruction_103 (by decide) ?_
        refine lv_goto (tgt := 132) hx hb d_M_instruction_105 (by decide) ?_
        exact me_preti h hx hb hr hlocks hK hS d_M_instruction_132
      have h := if_t c5 h
      refine lv_bipush (v := 8) hx hb d_M_instruction_91 (by decide) ?_
      refine lv_goto (tgt := 132) hx hb d_M_instruction_93 (by decide) ?_
      exact me_preti h hx hb hr hlocks hK hS d_M_instruction_132
    have h := if_t c4 h
    refine lv_bipush (v := 7) hx hb d_M_instruction_79 (by decide) ?_
    refine lv_goto (tgt := 132) hx hb d_M_instruction_81 (by decide) ?_
    exact me_preti h hx hb hr hlocks hK hS d_M_instruction_132
  have h := if_f (fun z => n3 (ew2.trans z)) h
  by_cases n10 : w2 = 5
  · have h := if_t (ew2.symm.trans n10) h
    subst n10
    refine lv_tableIn (off := 162) (tgt := 170) hx hb d_M_instruction_8 (by decide) (by decide) (by decide) (by decide) ?_
    refine lv_iload_n hx hb d_M_instruction_170 rfl (lv_at hl 1 rfl) ?_
    refine lv_iconst (v := 5) hx hb d_M_instruction_171 (by decide) ?_
    refine lv_icmp_ne (tgt := 180) hx hb d_M_instruction_172 (by decide) (fun c11 => ?_) (fun c11 => ?_)
    · have h := if_f c11 h
      refine lv_iload_n hx hb d_M_instruction_180 rfl (lv_at hl 1 rfl) ?_
      refine lv_sipush (v := 133) hx hb d_M_instruction_181 (by decide) ?_
      refine lv_icmp_ne (tgt := 192) hx hb d_M_instruction_184 (by decide) (fun c12 => ?_) (fun c12 => ?_)
      · have h := if_f c12 h
        refine lv_iload_n hx hb d_M_instruction_192 rfl (lv_at hl 1 rfl) ?_
        refine lv_sipush (v := 149) hx hb d_M_instruction_193 (by decide) ?_
        refine lv_icmp_ne (tgt := 204) hx hb d_M_instruction_196 (by decide) (fun c13 => ?_) (fun c13 => ?_)
        · have h := if_f c13 h
          refine lv_iload_n hx hb d_M_instruction_204 rfl (lv_at hl 0 rfl) ?_
          refine lv_if_le (tgt := 214) hx hb d_M_instruction_205 (by decide) (fun c14 => ?_) (fun c14 => ?_)
          · have h := if_t c14 h
            refine lv_iload_n hx hb d_M_instruction_214 rfl (lv_at hl 0 rfl) ?_
            refine lv_bipush (v := 9) hx hb d_M_instruction_215 (by decide) ?_
            refine lv_icmp_le (tgt := 231) hx hb d_M_instruction_217 (by decide) (fun c15 => ?_) (fun c15 => ?_)
            · have h := if_t c15 h
              refine lv_iconst (v := 0) hx hb d_M_instruction_231 (by decide) ?_
              exact me_preti h hx hb hr hlocks hK hS d_M_instruction_232
            have h := if_f c15 h
            refine lv_iload_n hx hb d_M_instruction_220 rfl (lv_at hl 0 rfl) ?_
            refine lv_bipush (v := 14) hx hb d_M_instruction_221 (by decide) ?_
            refine lv_icmp_ge (tgt := 231) hx hb d_M_instruction_223 (by decide) (fun c16 => ?_) (fun c16 => ?_)
            · have h := if_t c16 h
              refine lv_iconst (v := 0) hx hb d_M_instruction_231 (by decide) ?_
              exact me_preti h hx hb hr hlocks hK hS d_M_instruction_232
            have h := if_f c16 h
            refine lv_bipush (v := 11) hx hb d_M_instruction_226 (by decide) ?_
            refine lv_goto (tgt := 232) hx hb d_M_instruction_228 (by decide) ?_
            exact me_preti h hx hb hr hlocks hK hS d_M_instruction_232
          have h := if_f c14 h
          refine lv_iload_n hx hb d_M_instruction_208 rfl (lv_at hl 0 rfl) ?_
          refine lv_bipush (v := 8) hx hb d_M_instruction_209 (by decide) ?_
          refine lv_icmp_lt (tgt := 226) hx hb d_M_instruction_211 (by decide) (fun c17 => ?_) (fun c17 => ?_)
          · have h := if_t c17 h
            refine lv_bipush (v := 11) hx hb d_M_instruction_226 (by decide) ?_
            refine lv_goto (tgt := 232) hx hb d_M_instruction_228 (by decide) ?_
            exact me_preti h hx hb hr hlocks hK hS d_M_instruction_232
          have h := if_f c17 h
          refine lv_iload_n hx hb d_M_instruction_214 rfl (lv_at hl 0 rfl) ?_
          refine lv_bipush (v := 9) hx hb d_M_instruction_215 (by decide) ?_
          refine lv_icmp_le (tgt := 231) hx hb d_M_instruction_217 (by decide) (fun c18 => ?_) (fun c18 => ?_)
          · have h := if_t c18 h
            refine lv_iconst (v := 0) hx hb d_M_instruction_231 (by decide) ?_
            exact me_preti h hx hb hr hlocks hK hS d_M_instruction_232
          have h := if_f c18 h
          refine lv_iload_n hx hb d_M_instruction_220 rfl (lv_at hl 0 rfl) ?_
          refine lv_bipush (v := 14) hx hb d_M_instruction_221 (by decide) ?_
          refine lv_icmp_ge (tgt := 231) hx hb d_M_instruction_223 (by decide) (fun c19 => ?_) (fun c19 => ?_)
          · have h := if_t c19 h
            refine lv_iconst (v := 0) hx hb d_M_instruction_231 (by decide) ?_
            exact me_preti h hx hb hr hlocks hK hS d_M_instruction_232
          have h := if_f c19 h
          refine lv_bipush (v := 11) hx hb d_M_instruction_226 (by decide) ?_
          refine lv_goto (tgt := 232) hx hb d_M_instruction_228 (by decide) ?_
          exact me_preti h hx hb hr hlocks hK hS d_M_instruction_232
        have h := if_t c13 h
        refine lv_bipush (v := 13) hx hb d_M_instruction_199 (by decide) ?_
        refine lv_goto (tgt := 232) hx hb d_M_instruction_201 (by decide) ?_
        exact me_preti h hx hb hr hlocks hK hS d_M_instruction_232
      have h := if_t c12 h
      refine lv_bipush (v := 12) hx hb d_M_instruction_187 (by decide) ?_
      refine lv_goto (tgt := 232) hx hb d_M_instruction_189 (by decide) ?_
      exact me_preti h hx hb hr hlocks hK hS d_M_instruction_232
    have h := if_t c11 h
    refine lv_bipush (v := 10) hx hb d_M_instruction_175 (by decide) ?_
    refine lv_goto (tgt := 232) hx hb d_M_instruction_177 (by decide) ?_
    exact me_preti h hx hb hr hlocks hK hS d_M_instruction_232
  have h := if_f (fun z => n10 (ew2.trans z)) h
  by_cases n20 : w2 = 6
  · have h := if_t (ew2.symm.trans n20) h
    subst n20
    refine lv_tableIn (off := 162) (tgt := 170) hx hb d_M_instruction_8 (by decide) (by decide) (by decide) (by decide) ?_
    refine lv_iload_n hx hb d_M_instruction_170 rfl (lv_at hl 1 rfl) ?_
    refine lv_iconst (v := 5) hx hb d_M_instruction_171 (by decide) ?_
    refine lv_icmp_ne (tgt := 180) hx hb d_M_instruction_172 (by decide) (fun c21 => ?_) (fun c21 => ?_)
    · have h := if_f c21 h
      refine lv_iload_n hx hb d_M_instruction_180 rfl (lv_at hl 1 rfl) ?_
      refine lv_sipush (v := 133) hx hb d_M_instruction_181 (by decide) ?_
      refine lv_icmp_ne (tgt := 192) hx hb d_M_instruction_184 (by decide) (fun c22 => ?_) (fun c22 => ?_)
      · have h := if_f c22 h
        refine lv_iload_n hx hb d_M_instruction_192 rfl (lv_at hl 1 rfl) ?_
        refine lv_sipush (v := 149) hx hb d_M_instruction_193 (by decide) ?_
        refine lv_icmp_ne (tgt := 204) hx hb d_M_instruction_196 (by decide) (fun c23 => ?_) (fun c23 => ?_)
        · have h := if_f c23 h
          refine lv_iload_n hx hb d_M_instruction_204 rfl (lv_at hl 0 rfl) ?_
          refine lv_if_le (tgt := 214) hx hb d_M_instruction_205 (by decide) (fun c24 => ?_) (fun c24 => ?_)
          · have h := if_t c24 h
            refine lv_iload_n hx hb d_M_instruction_214 rfl (lv_at hl 0 rfl) ?_
            refine lv_bipush (v := 9) hx hb d_M_instruction_215 (by decide) ?_
            refine lv_icmp_le (tgt := 231) hx hb d_M_instruction_217 (by decide) (fun c25 => ?_) (fun c25 => ?_)
            · have h := if_t c25 h
              refine lv_iconst (v := 0) hx hb d_M_instruction_231 (by decide) ?_
              exact me_preti h hx hb hr hlocks hK hS d_M_instruction_232
            have h := if_f c25 h
            refine lv_iload_n hx hb d_M_instruction_220 rfl (lv_at hl 0 rfl) ?_
            refine lv_bipush (v := 14) hx hb d_M_instruction_221 (by decide) ?_
            refine lv_icmp_ge (tgt := 231) hx hb d_M_instruction_223 (by decide) (fun c26 => ?_) (fun c26 => ?_)
            · have h := if_t c26 h
              refine lv_iconst (v := 0) hx hb d_M_instruction_231 (by decide) ?_
              exact me_preti h hx hb hr hlocks hK hS d_M_instruction_232
            have h := if_f c26 h
            refine lv_bipush (v := 11) hx hb d_M_instruction_226 (by decide) ?_
            refine lv_goto (tgt := 232) hx hb d_M_instruction_228 (by decide) ?_
            exact me_preti h hx hb hr hlocks hK hS d_M_instruction_232
          have h := if_f c24 h
          refine lv_iload_n hx hb d_M_instruction_208 rfl (lv_at hl 0 rfl) ?_
          refine lv_bipush (v := 8) hx hb d_M_instruction_209 (by decide) ?_
          refine lv_icmp_lt (tgt := 226) hx hb d_M_instruction_211 (by decide) (fun c27 => ?_) (fun c27 => ?_)
          · have h := if_t c27 h
            refine lv_bipush (v := 11) hx hb d_M_instruction_226 (by decide) ?_
            refine lv_goto (tgt := 232) hx hb d_M_instruction_228 (by decide) ?_
            exact me_preti h hx hb hr hlocks hK hS d_M_instruction_232
          have h := if_f c27 h
          refine lv_iload_n hx hb d_M_instruction_214 rfl (lv_at hl 0 rfl) ?_
          refine lv_bipush (v := 9) hx hb d_M_instruction_215 (by decide) ?_
          refine lv_icmp_le (tgt := 231) hx hb d_M_instruction_217 (by decide) (fun c28 => ?_) (fun c28 => ?_)
          · have h := if_t c28 h
            refine lv_iconst (v := 0) hx hb d_M_instruction_231 (by decide) ?_
            exact me_preti h hx hb hr hlocks hK hS d_M_instruction_232
          have h := if_f c28 h
          refine lv_iload_n hx hb d_M_instruction_220 rfl (lv_at hl 0 rfl) ?_
          refine lv_bipush (v := 14) hx hb d_M_instruction_221 (by decide) ?_
          refine lv_icmp_ge (tgt := 231) hx hb d_M_instruction_223 (by decide) (fun c29 => ?_) (fun c29 => ?_)
          · have h := if_t c29 h
            refine lv_iconst (v := 0) hx hb d_M_instruction_231 (by decide) ?_
            exact me_preti h hx hb hr hlocks hK hS d_M_instruction_232
          have h := if_f c29 h
          refine lv_bipush (v := 11) hx hb d_M_instruction_226 (by decide) ?_
          refine lv_goto (tgt := 232) hx hb d_M_instruction_228 (by decide) ?_
          exact me_preti h hx hb hr hlocks hK hS d_M_instruction_232
        have h := if_t c23 h
        refine lv_bipush (v := 13) hx hb d_M_instruction_199 (by decide) ?_
        refine lv_goto (tgt := 232) hx hb d_M_instruction_201 (by decide) ?_
        exact me_preti h hx hb hr hlocks hK hS d_M_instruction_232
      have h := if_t c22 h
      refine lv_bipush (v := 12) hx hb d_M_instruction_187 (by decide) ?_
      refine lv_goto (tgt := 232) hx hb d_M_instruction_189 (by decide) ?_
      exact me_preti h hx hb hr hlocks hK hS d_M_instruction_232
    have h := if_t c21 h
    refine lv_bipush (v := 10) hx hb d_M_instruction_175 (by decide) ?_
    refine lv_goto (tgt := 232) hx hb d_M_instruction_177 (by decide) ?_
    exact me_preti h hx hb hr hlocks hK hS d_M_instruction_232
  have h := if_f (fun z => n20 (ew2.trans z)) h
  by_cases n30 : w2 = 7
  · have h := if_t (ew2.symm.trans n30) h
    subst n30
    refine lv_tableIn (off := 125) (tgt := 133) hx hb d_M_instruction_8 (by decide) (by decide) (by decide) (by decide) ?_
    refine lv_iload_n hx hb d_M_instruction_133 rfl (lv_at hl 1 rfl) ?_
    refine lv_sipush (v := 135) hx hb d_M_instruction_134 (by decide) ?_
    refine lv_icmp_ne (tgt := 145) hx hb d_M_instruction_137 (by decide) (fun c31 => ?_) (fun c31 => ?_)
    · have h := if_f c31 h
      refine lv_iload_n hx hb d_M_instruction_145 rfl (lv_at hl 0 rfl) ?_
      refine lv_bipush (v := 8) hx hb d_M_instruction_146 (by decide) ?_
      refine lv_icmp_lt (tgt := 163) hx hb d_M_instruction_148 (by decide) (fun c32 => ?_) (fun c32 => ?_)
      · have h := if_t c32 h
        refine lv_bipush (v := 6) hx hb d_M_instruction_163 (by decide) ?_
        refine lv_goto (tgt := 169) hx hb d_M_instruction_165 (by decide) ?_
        exact me_preti h hx hb hr hlocks hK hS d_M_instruction_169
      have h := if_f c32 h
      refine lv_iload_n hx hb d_M_instruction_151 rfl (lv_at hl 0 rfl) ?_
      refine lv_bipush (v := 8) hx hb d_M_instruction_152 (by decide) ?_
      refine lv_icmp_le (tgt := 168) hx hb d_M_instruction_154 (by decide) (fun c33 => ?_) (fun c33 => ?_)
      · have h := if_t c33 h
        refine lv_iconst (v := 0) hx hb d_M_instruction_168 (by decide) ?_
        exact me_preti h hx hb hr hlocks hK hS d_M_instruction_169
      have h := if_f c33 h
      refine lv_iload_n hx hb d_M_instruction_157 rfl (lv_at hl 0 rfl) ?_
      refine lv_bipush (v := 13) hx hb d_M_instruction_158 (by decide) ?_
      refine lv_icmp_ge (tgt := 168) hx hb d_M_instruction_160 (by decide) (fun c34 => ?_) (fun c34 => ?_)
      · have h := if_t c34 h
        refine lv_iconst (v := 0) hx hb d_M_instruction_168 (by decide) ?_
        exact me_preti h hx hb hr hlocks hK hS d_M_instruction_169
      have h := if_f c34 h
      refine lv_bipush (v := 6) hx hb d_M_instruction_163 (by decide) ?_
      refine lv_goto (tgt := 169) hx hb d_M_instruction_165 (by decide) ?_
      exact me_preti h hx hb hr hlocks hK hS d_M_instruction_169
    have h := if_t c31 h
    refine lv_bipush (v := 7) hx hb d_M_instruction_140 (by decide) ?_
    refine lv_goto (tgt := 169) hx hb d_M_instruction_142 (by decide) ?_
    exact me_preti h hx hb hr hlocks hK hS d_M_instruction_169
  have h := if_f (fun z => n30 (ew2.trans z)) h
  by_cases n35 : w2 = 8
  · have h := if_t (ew2.symm.trans n35) h
    subst n35
    refine lv_tableIn (off := 225) (tgt := 233) hx hb d_M_instruction_8 (by decide) (by decide) (by decide) (by decide) ?_
    refine lv_iload_n hx hb d_M_instruction_233 rfl (lv_at hl 1 rfl) ?_
    obtain ⟨r36, er36, h⟩ := bd_ob h
    refine me_pani0 (r0 := r36) (fg_runS (wc := []) (tc := []) (A2 := A) (As := [.int x0]) (rest := []) ⟨hx, hb, hml, hown, hts⟩ (c_M_memory l D r36 x0 er36 _) (by show fg_nm y_M_memory 1; decide +kernel) u_2003 u_2004 u_192 u_2005 ⟨Nat.le_of_ble_eq_true rfl, Nat.le_of_ble_eq_true rfl⟩ hX me_P0 (hK.sub (tys' := []) [] rfl) me_D0 rfl hl.1 (Nat.le_of_ble_eq_true rfl) d_M_instruction_234 ⟨Nat.le_of_ble_eq_true rfl, Nat.le_of_ble_eq_true rfl⟩) hK hS hA rfl rfl (fun H locs hw hS => ?_)
    exact me_preti h hx hb hr hlocks hK hS d_M_instruction_237
  have h := if_f (fun z => n35 (ew2.trans z)) h
  by_cases n37 : w2 = 9
  · have h := if_t (ew2.symm.trans n37) h
    subst n37
    refine lv_tableIn (off := 225) (tgt := 233) hx hb d_M_instruction_8 (by decide) (by decide) (by decide) (by decide) ?_
    refine lv_iload_n hx hb d_M_instruction_233 rfl (lv_at hl 1 rfl) ?_
    obtain ⟨r38, er38, h⟩ := bd_ob h
    refine me_pani0 (r0 := r38) (fg_runS (wc := []) (tc := []) (A2 := A) (As := [.int x0]) (rest := []) ⟨hx, hb, hml, hown, hts⟩ (c_M_memory l D r38 x0 er38 _) (by show fg_nm y_M_memory 1; decide +kernel) u_2003 u_2004 u_192 u_2005 ⟨Nat.le_of_ble_eq_true rfl, Nat.le_of_ble_eq_true rfl⟩ hX me_P0 (hK.sub (tys' := []) [] rfl) me_D0 rfl hl.1 (Nat.le_of_ble_eq_true rfl) d_M_instruction_234 ⟨Nat.le_of_ble_eq_true rfl, Nat.le_of_ble_eq_true rfl⟩) hK hS hA rfl rfl (fun H locs hw hS => ?_)
    exact me_preti h hx hb hr hlocks hK hS d_M_instruction_237
  have h := if_f (fun z => n37 (ew2.trans z)) h
  by_cases n39 : w2 = 10
  · have h := if_t (ew2.symm.trans n39) h
    subst n39
    refine lv_tableIn (off := 225) (tgt := 233) hx hb d_M_instruction_8 (by decide) (by decide) (by decide) (by decide) ?_
    refine lv_iload_n hx hb d_M_instruction_233 rfl (lv_at hl 1 rfl) ?_
    obtain ⟨r40, er40, h⟩ := bd_ob h
    refine me_pani0 (r0 := r40) (fg_runS (wc := []) (tc := []) (A2 := A) (As := [.int x0]) (rest := []) ⟨hx, hb, hml, hown, hts⟩ (c_M_memory l D r40 x0 er40 _) (by show fg_nm y_M_memory 1; decide +kernel) u_2003 u_2004 u_192 u_2005 ⟨Nat.le_of_ble_eq_true rfl, Nat.le_of_ble_eq_true rfl⟩ hX me_P0 (hK.sub (tys' := []) [] rfl) me_D0 rfl hl.1 (Nat.le_of_ble_eq_true rfl) d_M_instruction_234 ⟨Nat.le_of_ble_eq_true rfl, Nat.le_of_ble_eq_true rfl⟩) hK hS hA rfl rfl (fun H locs hw hS => ?_)
    exact me_preti h hx hb hr hlocks hK hS d_M_instruction_237
  have h := if_f (fun z => n39 (ew2.trans z)) h
  by_cases n41 : w2 = 11
  · have h := if_t (ew2.symm.trans n41) h
    subst n41
    refine lv_tableIn (off := 225) (tgt := 233) hx hb d_M_instruction_8 (by decide) (by decide) (by decide) (by decide) ?_
    refine lv_iload_n hx hb d_M_instruction_233 rfl (lv_at hl 1 rfl) ?_
    obtain ⟨r42, er42, h⟩ := bd_ob h
    refine me_pani0 (r0 := r42) (fg_runS (wc := []) (tc := []) (A2 := A) (As := [.int x0]) (rest := []) ⟨hx, hb, hml, hown, hts⟩ (c_M_memory l D r42 x0 er42 _) (by show fg_nm y_M_memory 1; decide +kernel) u_2003 u_2004 u_192 u_2005 ⟨Nat.le_of_ble_eq_true rfl, Nat.le_of_ble_eq_true rfl⟩ hX me_P0 (hK.sub (tys' := []) [] rfl) me_D0 rfl hl.1 (Nat.le_of_ble_eq_true rfl) d_M_instruction_234 ⟨Nat.le_of_ble_eq_true rfl, Nat.le_of_ble_eq_true rfl⟩) hK hS hA rfl rfl (fun H locs hw hS => ?_)
    exact me_preti h hx hb hr hlocks hK hS d_M_instruction_237
  have h := if_f (fun z => n41 (ew2.trans z)) h
  by_cases n43 : w2 = 12
  · have h := if_t (ew2.symm.trans n43) h
    subst n43
    refine lv_tableIn (off := 64) (tgt := 72) hx hb d_M_instruction_8 (by decide) (by decide) (by decide) (by decide) ?_
    refine lv_iload_n hx hb d_M_instruction_72 rfl (lv_at hl 1 rfl) ?_
    refine lv_sipush (v := 132) hx hb d_M_instruction_73 (by decide) ?_
    refine lv_icmp_ne (tgt := 84) hx hb d_M_instruction_76 (by decide) (fun c44 => ?_) (fun c44 => ?_)
    · have h := if_f c44 h
      refine lv_iload_n hx hb d_M_instruction_84 rfl (lv_at hl 1 rfl) ?_
      refine lv_sipush (v := 212) hx hb d_M_instruction_85 (by decide) ?_
      refine lv_icmp_ne (tgt := 96) hx hb d_M_instruction_88 (by decide) (fun c45 => ?_) (fun c45 => ?_)
      · have h := if_f c45 h
        refine lv_iload_n hx hb d_M_instruction_96 rfl (lv_at hl 1 rfl) ?_
        refine lv_sipush (v := 220) hx hb d_M_instruction_97 (by decide) ?_
        refine lv_icmp_ne (tgt := 108) hx hb d_M_instruction_100 (by decide) (fun c46 => ?_) (fun c46 => ?_)
        · have h := if_f c46 h
          refine lv_iload_n hx hb d_M_instruction_108 rfl (lv_at hl 0 rfl) ?_
          refine lv_bipush (v := 8) hx hb d_M_instruction_109 (by decide) ?_
          refine lv_icmp_lt (tgt := 126) hx hb d_M_instruction_111 (by decide) (fun c47 => ?_) (fun c47 => ?_)
          · have h := if_t c47 h
            refine lv_bipush (v := 6) hx hb d_M_instruction_126 (by decide) ?_
            refine lv_goto (tgt := 132) hx hb d_M_instruction_128 (by decide) ?_
            exact me_preti h hx hb hr hlocks hK hS d_M_instruction_132
          have h := if_f c47 h
          refine lv_iload_n hx hb d_M_instruction_114 rfl (lv_at hl 0 rfl) ?_
          refine lv_bipush (v := 8) hx hb d_M_instruction_115 (by decide) ?_
          refine lv_icmp_le (tgt := 131) hx hb d_M_instruction_117 (by decide) (fun c48 => ?_) (fun c48 => ?_)
          · have h := if_t c48 h
            refine lv_iconst (v := 0) hx hb d_M_instruction_131 (by decide) ?_
            exact me_preti h hx hb hr hlocks hK hS d_M_instruction_132
          have h := if_f c48 h
          refine lv_iload_n hx hb d_M_instruction_120 rfl (lv_at hl 0 rfl) ?_
          refine lv_bipush (v := 13) hx hb d_M_instruction_121 (by decide) ?_
          refine lv_icmp_ge (tgt := 131) hx hb d_M_instruction_123 (by decide) (fun c49 => ?_) (fun c49 => ?_)
          · have h := if_t c49 h
            refine lv_iconst (v := 0) hx hb d_M_instruction_131 (by decide) ?_
            exact me_preti h hx hb hr hlocks hK hS d_M_instruction_132
          have h := if_f c49 h
          refine lv_bipush (v := 6) hx hb d_M_instruction_126 (by decide) ?_
          refine lv_goto (tgt := 132) hx hb d_M_instruction_128 (by decide) ?_
          exact me_preti h hx hb hr hlocks hK hS d_M_instruction_132
        have h := if_t c46 h
        refine lv_bipush (v := 9) hx hb d_M_instruction_103 (by decide) ?_
        refine lv_goto (tgt := 132) hx hb d_M_instruction_105 (by decide) ?_
        exact me_preti h hx hb hr hlocks hK hS d_M_instruction_132
      have h := if_t c45 h
      refine lv_bipush (v := 8) hx hb d_M_instruction_91 (by decide) ?_
      refine lv_goto (tgt := 132) hx hb d_M_instruction_93 (by decide) ?_
      exact me_preti h hx hb hr hlocks hK hS d_M_instruction_132
    have h := if_t c44 h
    refine lv_bipush (v := 7) hx hb d_M_instruction_79 (by decide) ?_
    refine lv_goto (tgt := 132) hx hb d_M_instruction_81 (by decide) ?_
    exact me_preti h hx hb hr hlocks hK hS d_M_instruction_132
  have h := if_f (fun z => n43 (ew2.trans z)) h
  by_cases n50 : w2 = 13
  · have h := if_t (ew2.symm.trans n50) h
    subst n50
    refine lv_tableIn (off := 162) (tgt := 170) hx hb d_M_instruction_8 (by decide) (by decide) (by decide) (by decide) ?_
    refine lv_iload_n hx hb d_M_instruction_170 rfl (lv_at hl 1 rfl) ?_
    refine lv_iconst (v := 5) hx hb d_M_instruction_171 (by decide) ?_
    refine lv_icmp_ne (tgt := 180) hx hb d_M_instruction_172 (by decide) (fun c51 => ?_) (fun c51 => ?_)
    · have h := if_f c51 h
      refine lv_iload_n hx hb d_M_instruction_180 rfl (lv_at hl 1 rfl) ?_
      refine lv_sipush (v := 133) hx hb d_M_instruction_181 (by decide) ?_
      refine lv_icmp_ne (tgt := 192) hx hb d_M_instruction_184 (by decide) (fun c52 => ?_) (fun c52 => ?_)
      · have h := if_f c52 h
        refine lv_iload_n hx hb d_M_instruction_192 rfl (lv_at hl 1 rfl) ?_
        refine lv_sipush (v := 149) hx hb d_M_instruction_193 (by decide) ?_
        refine lv_icmp_ne (tgt := 204) hx hb d_M_instruction_196 (by decide) (fun c53 => ?_) (fun c53 => ?_)
        · have h := if_f c53 h
          refine lv_iload_n hx hb d_M_instruction_204 rfl (lv_at hl 0 rfl) ?_
          refine lv_if_le (tgt := 214) hx hb d_M_instruction_205 (by decide) (fun c54 => ?_) (fun c54 => ?_)
          · have h := if_t c54 h
            refine lv_iload_n hx hb d_M_instruction_214 rfl (lv_at hl 0 rfl) ?_
            refine lv_bipush (v := 9) hx hb d_M_instruction_215 (by decide) ?_
            refine lv_icmp_le (tgt := 231) hx hb d_M_instruction_217 (by decide) (fun c55 => ?_) (fun c55 => ?_)
            · have h := if_t c55 h
              refine lv_iconst (v := 0) hx hb d_M_instruction_231 (by decide) ?_
              exact me_preti h hx hb hr hlocks hK hS d_M_instruction_232
            have h := if_f c55 h
            refine lv_iload_n hx hb d_M_instruction_220 rfl (lv_at hl 0 rfl) ?_
            refine lv_bipush (v := 14) hx hb d_M_instruction_221 (by decide) ?_
            refine lv_icmp_ge (tgt := 231) hx hb d_M_instruction_223 (by decide) (fun c56 => ?_) (fun c56 => ?_)
            · have h := if_t c56 h
              refine lv_iconst (v := 0) hx hb d_M_instruction_231 (by decide) ?_
              exact me_preti h hx hb hr hlocks hK hS d_M_instruction_232
            have h := if_f c56 h
            refine lv_bipush (v := 11) hx hb d_M_instruction_226 (by decide) ?_
            refine lv_goto (tgt := 232) hx hb d_M_instruction_228 (by decide) ?_
            exact me_preti h hx hb hr hlocks hK hS d_M_instruction_232
          have h := if_f c54 h
          refine lv_iload_n hx hb d_M_instruction_208 rfl (lv_at hl 0 rfl) ?_
          refine lv_bipush (v := 8) hx hb d_M_instruction_209 (by decide) ?_
          refine lv_icmp_lt (tgt := 226) hx hb d_M_instruction_211 (by decide) (fun c57 => ?_) (fun c57 => ?_)
          · have h := if_t c57 h
            refine lv_bipush (v := 11) hx hb d_M_instruction_226 (by decide) ?_
            refine lv_goto (tgt := 232) hx hb d_M_instruction_228 (by decide) ?_
            exact me_preti h hx hb hr hlocks hK hS d_M_instruction_232
          have h := if_f c57 h
          refine lv_iload_n hx hb d_M_instruction_214 rfl (lv_at hl 0 rfl) ?_
          refine lv_bipush (v := 9) hx hb d_M_instruction_215 (by decide) ?_
          refine lv_icmp_le (tgt := 231) hx hb d_M_instruction_217 (by decide) (fun c58 => ?_) (fun c58 => ?_)
          · have h := if_t c58 h
            refine lv_iconst (v := 0) hx hb d_M_instruction_231 (by decide) ?_
            exact me_preti h hx hb hr hlocks hK hS d_M_instruction_232
          have h := if_f c58 h
          refine lv_iload_n hx hb d_M_instruction_220 rfl (lv_at hl 0 rfl) ?_
          refine lv_bipush (v := 14) hx hb d_M_instruction_221 (by decide) ?_
          refine lv_icmp_ge (tgt := 231) hx hb d_M_instruction_223 (by decide) (fun c59 => ?_) (fun c59 => ?_)
          · have h := if_t c59 h
            refine lv_iconst (v := 0) hx hb d_M_instruction_231 (by decide) ?_
            exact me_preti h hx hb hr hlocks hK hS d_M_instruction_232
          have h := if_f c59 h
          refine lv_bipush (v := 11) hx hb d_M_instruction_226 (by decide) ?_
          refine lv_goto (tgt := 232) hx hb d_M_instruction_228 (by decide) ?_
          exact me_preti h hx hb hr hlocks hK hS d_M_instruction_232
        have h := if_t c53 h
        refine lv_bipush (v := 13) hx hb d_M_instruction_199 (by decide) ?_
        refine lv_goto (tgt := 232) hx hb d_M_instruction_201 (by decide) ?_
        exact me_preti h hx hb hr hlocks hK hS d_M_instruction_232
      have h := if_t c52 h
      refine lv_bipush (v := 12) hx hb d_M_instruction_187 (by decide) ?_
      refine lv_goto (tgt := 232) hx hb d_M_instruction_189 (by decide) ?_
      exact me_preti h hx hb hr hlocks hK hS d_M_instruction_232
    have h := if_t c51 h
    refine lv_bipush (v := 10) hx hb d_M_instruction_175 (by decide) ?_
    refine lv_goto (tgt := 232) hx hb d_M_instruction_177 (by decide) ?_
    exact me_preti h hx hb hr hlocks hK hS d_M_instruction_232
  have h := if_f (fun z => n50 (ew2.trans z)) h
  by_cases n60 : w2 = 14
  · have h := if_t (ew2.symm.trans n60) h
    subst n60
    refine lv_tableIn (off := 162) (tgt := 170) hx hb d_M_instruction_8 (by decide) (by decide) (by decide) (by decide) ?_
    refine lv_iload_n hx hb d_M_instruction_170 rfl (lv_at hl 1 rfl) ?_
    refine lv_iconst (v := 5) hx hb d_M_instruction_171 (by decide) ?_
    refine lv_icmp_ne (tgt := 180) hx hb d_M_instruction_172 (by decide) (fun c61 => ?_) (fun c61 => ?_)
    · have h := if_f c61 h
      refine lv_iload_n hx hb d_M_instruction_180 rfl (lv_at hl 1 rfl) ?_
      refine lv_sipush (v := 133) hx hb d_M_instruction_181 (by decide) ?_
      refine lv_icmp_ne (tgt := 192) hx hb d_M_instruction_184 (by decide) (fun c62 => ?_) (fun c62 => ?_)
      · have h := if_f c62 h
        refine lv_iload_n hx hb d_M_instruction_192 rfl (lv_at hl 1 rfl) ?_
        refine lv_sipush (v := 149) hx hb d_M_instruction_193 (by decide) ?_
        refine lv_icmp_ne (tgt := 204) hx hb d_M_instruction_196 (by decide) (fun c63 => ?_) (fun c63 => ?_)
        · have h := if_f c63 h
          refine lv_iload_n hx hb d_M_instruction_204 rfl (lv_at hl 0 rfl) ?_
          refine lv_if_le (tgt := 214) hx hb d_M_instruction_205 (by decide) (fun c64 => ?_) (fun c64 => ?_)
          · have h := if_t c64 h
            refine lv_iload_n hx hb d_M_instruction_214 rfl (lv_at hl 0 rfl) ?_
            refine lv_bipush (v := 9) hx hb d_M_instruction_215 (by decide) ?_
            refine lv_icmp_le (tgt := 231) hx hb d_M_instruction_217 (by decide) (fun c65 => ?_) (fun c65 => ?_)
            · have h := if_t c65 h
              refine lv_iconst (v := 0) hx hb d_M_instruction_231 (by decide) ?_
              exact me_preti h hx hb hr hlocks hK hS d_M_instruction_232
            have h := if_f c65 h
            refine lv_iload_n hx hb d_M_instruction_220 rfl (lv_at hl 0 rfl) ?_
            refine lv_bipush (v := 14) hx hb d_M_instruction_221 (by decide) ?_
            refine lv_icmp_ge (tgt := 231) hx hb d_M_instruction_223 (by decide) (fun c66 => ?_) (fun c66 => ?_)
            · have h := if_t c66 h
              refine lv_iconst (v := 0) hx hb d_M_instruction_231 (by decide) ?_
              exact me_preti h hx hb hr hlocks hK hS d_M_instruction_232
            have h := if_f c66 h
            refine lv_bipush (v := 11) hx hb d_M_instruction_226 (by decide) ?_
            refine lv_goto (tgt := 232) hx hb d_M_instruction_228 (by decide) ?_
            exact me_preti h hx hb hr hlocks hK hS d_M_instruction_232
          have h := if_f c64 h
          refine lv_iload_n hx hb d_M_instruction_208 rfl (lv_at hl 0 rfl) ?_
          refine lv_bipush (v := 8) hx hb d_M_instruction_209 (by decide) ?_
          refine lv_icmp_lt (tgt := 226) hx hb d_M_instruction_211 (by decide) (fun c67 => ?_) (fun c67 => ?_)
          · have h := if_t c67 h
            refine lv_bipush (v := 11) hx hb d_M_instruction_226 (by decide) ?_
            refine lv_goto (tgt := 232) hx hb d_M_instruction_228 (by decide) ?_
            exact me_preti h hx hb hr hlocks hK hS d_M_instruction_232
          have h := if_f c67 h
          refine lv_iload_n hx hb d_M_instruction_214 rfl (lv_at hl 0 rfl) ?_
          refine lv_bipush (v := 9) hx hb d_M_instruction_215 (by decide) ?_
          refine lv_icmp_le (tgt := 231) hx hb d_M_instruction_217 (by decide) (fun c68 => ?_) (fun c68 => ?_)
          · have h := if_t c68 h
            refine lv_iconst (v := 0) hx hb d_M_instruction_231 (by decide) ?_
            exact me_preti h hx hb hr hlocks hK hS d_M_instruction_232
          have h := if_f c68 h
          refine lv_iload_n hx hb d_M_instruction_220 rfl (lv_at hl 0 rfl) ?_
          refine lv_bipush (v := 14) hx hb d_M_instruction_221 (by decide) ?_
          refine lv_icmp_ge (tgt := 231) hx hb d_M_instruction_223 (by decide) (fun c69 => ?_) (fun c69 => ?_)
          · have h := if_t c69 h
            refine lv_iconst (v := 0) hx hb d_M_instruction_231 (by decide) ?_
            exact me_preti h hx hb hr hlocks hK hS d_M_instruction_232
          have h := if_f c69 h
          refine lv_bipush (v := 11) hx hb d_M_instruction_226 (by decide) ?_
          refine lv_goto (tgt := 232) hx hb d_M_instruction_228 (by decide) ?_
          exact me_preti h hx hb hr hlocks hK hS d_M_instruction_232
        have h := if_t c63 h
        refine lv_bipush (v := 13) hx hb d_M_instruction_199 (by decide) ?_
        refine lv_goto (tgt := 232) hx hb d_M_instruction_201 (by decide) ?_
        exact me_preti h hx hb hr hlocks hK hS d_M_instruction_232
      have h := if_t c62 h
      refine lv_bipush (v := 12) hx hb d_M_instruction_187 (by decide) ?_
      refine lv_goto (tgt := 232) hx hb d_M_instruction_189 (by decide) ?_
      exact me_preti h hx hb hr hlocks hK hS d_M_instruction_232
    have h := if_t c61 h
    refine lv_bipush (v := 10) hx hb d_M_instruction_175 (by decide) ?_
    refine lv_goto (tgt := 232) hx hb d_M_instruction_177 (by decide) ?_
    exact me_preti h hx hb hr hlocks hK hS d_M_instruction_232
  have h := if_f (fun z => n60 (ew2.trans z)) h
  by_cases n70 : w2 = 15
  · have h := if_t (ew2.symm.trans n70) h
    subst n70
    refine lv_tableIn (off := 125) (tgt := 133) hx hb d_M_instruction_8 (by decide) (by decide) (by decide) (by decide) ?_
    refine lv_iload_n hx hb d_M_instruction_133 rfl (lv_at hl 1 rfl) ?_
    refine lv_sipush (v := 135) hx hb d_M_instruction_134 (by decide) ?_
    refine lv_icmp_ne (tgt := 145) hx hb d_M_instruction_137 (by decide) (fun c71 => ?_) (fun c71 => ?_)
    · have h := if_f c71 h
      refine lv_iload_n hx hb d_M_instruction_145 rfl (lv_at hl 0 rfl) ?_
      refine lv_bipush (v := 8) hx hb d_M_instruction_146 (by decide) ?_
      refine lv_icmp_lt (tgt := 163) hx hb d_M_instruction_148 (by decide) (fun c72 => ?_) (fun c72 => ?_)
      · have h := if_t c72 h
        refine lv_bipush (v := 6) hx hb d_M_instruction_163 (by decide) ?_
        refine lv_goto (tgt := 169) hx hb d_M_instruction_165 (by decide) ?_
        exact me_preti h hx hb hr hlocks hK hS d_M_instruction_169
      have h := if_f c72 h
      refine lv_iload_n hx hb d_M_instruction_151 rfl (lv_at hl 0 rfl) ?_
      refine lv_bipush (v := 8) hx hb d_M_instruction_152 (by decide) ?_
      refine lv_icmp_le (tgt := 168) hx hb d_M_instruction_154 (by decide) (fun c73 => ?_) (fun c73 => ?_)
      · have h := if_t c73 h
        refine lv_iconst (v := 0) hx hb d_M_instruction_168 (by decide) ?_
        exact me_preti h hx hb hr hlocks hK hS d_M_instruction_169
      have h := if_f c73 h
      refine lv_iload_n hx hb d_M_instruction_157 rfl (lv_at hl 0 rfl) ?_
      refine lv_bipush (v := 13) hx hb d_M_instruction_158 (by decide) ?_
      refine lv_icmp_ge (tgt := 168) hx hb d_M_instruction_160 (by decide) (fun c74 => ?_) (fun c74 => ?_)
      · have h := if_t c74 h
        refine lv_iconst (v := 0) hx hb d_M_instruction_168 (by decide) ?_
        exact me_preti h hx hb hr hlocks hK hS d_M_instruction_169
      have h := if_f c74 h
      refine lv_bipush (v := 6) hx hb d_M_instruction_163 (by decide) ?_
      refine lv_goto (tgt := 169) hx hb d_M_instruction_165 (by decide) ?_
      exact me_preti h hx hb hr hlocks hK hS d_M_instruction_169
    have h := if_t c71 h
    refine lv_bipush (v := 7) hx hb d_M_instruction_140 (by decide) ?_
    refine lv_goto (tgt := 169) hx hb d_M_instruction_142 (by decide) ?_
    exact me_preti h hx hb hr hlocks hK hS d_M_instruction_169
  have h := if_f (fun z => n70 (ew2.trans z)) h
  have in3 := lv_neT n3 (show (4 : Int32).toInt = 4 from rfl)
  have in10 := lv_neT n10 (show (5 : Int32).toInt = 5 from rfl)
  have in20 := lv_neT n20 (show (6 : Int32).toInt = 6 from rfl)
  have in30 := lv_neT n30 (show (7 : Int32).toInt = 7 from rfl)
  have in35 := lv_neT n35 (show (8 : Int32).toInt = 8 from rfl)
  have in37 := lv_neT n37 (show (9 : Int32).toInt = 9 from rfl)
  have in39 := lv_neT n39 (show (10 : Int32).toInt = 10 from rfl)
  have in41 := lv_neT n41 (show (11 : Int32).toInt = 11 from rfl)
  have in43 := lv_neT n43 (show (12 : Int32).toInt = 12 from rfl)
  have in50 := lv_neT n50 (show (13 : Int32).toInt = 13 from rfl)
  have in60 := lv_neT n60 (show (14 : Int32).toInt = 14 from rfl)
  have in70 := lv_neT n70 (show (15 : Int32).toInt = 15 from rfl)
  refine lv_tableOut (tgt := 233) hx hb d_M_instruction_8 (by omega) (by decide) ?_
  refine lv_iload_n hx hb d_M_instruction_233 rfl (lv_at hl 1 rfl) ?_
  obtain ⟨r75, er75, h⟩ := bd_ob h
  refine me_pani0 (r0 := r75) (fg_runS (wc := []) (tc := []) (A2 := A) (As := [.int x0]) (rest := []) ⟨hx, hb, hml, hown, hts⟩ (c_M_memory l D r75 x0 er75 _) (by show fg_nm y_M_memory 1; decide +kernel) u_2003 u_2004 u_192 u_2005 ⟨Nat.le_of_ble_eq_true rfl, Nat.le_of_ble_eq_true rfl⟩ hX me_P0 (hK.sub (tys' := []) [] rfl) me_D0 rfl hl.1 (Nat.le_of_ble_eq_true rfl) d_M_instruction_234 ⟨Nat.le_of_ble_eq_true rfl, Nat.le_of_ble_eq_true rfl⟩) hK hS hA rfl rfl (fun H locs hw hS => ?_)
  exact me_preti h hx hb hr hlocks hK hS d_M_instruction_237
theorem d_M_widthOf_0 : decode prog_14_method_51_code 0 = .ok (.iload_n 0, 1) := by decide +kernel
theorem d_M_widthOf_1 : decode prog_14_method_51_code 1 = .ok (.iconst 3, 1) := by decide +kernel
theorem d_M_widthOf_2 : decode prog_14_method_51_code 2 = .ok (.ishr, 1) := by decide +kernel
theorem d_M_widthOf_3 : decode prog_14_method_51_code 3 = .ok (.iconst 3, 1) := by decide +kernel
theorem d_M_widthOf_4 : decode prog_14_method_51_code 4 = .ok (.iand, 1) := by decide +kernel
theorem d_M_widthOf_5 : decode prog_14_method_51_code 5 = .ok (.istore_n 1, 1) := by decide +kernel
theorem d_M_widthOf_6 : decode prog_14_method_51_code 6 = .ok (.iload_n 1, 1) := by decide +kernel
theorem d_M_widthOf_7 : decode prog_14_method_51_code 7 = .ok (.iconst 3, 1) := by decide +kernel
theorem d_M_widthOf_8 : decode prog_14_method_51_code 8 = .ok (.if_icmp .ne 8, 3) := by decide +kernel
theorem d_M_widthOf_16 : decode prog_14_method_51_code 16 = .ok (.iload_n 1, 1) := by decide +kernel
theorem d_M_widthOf_17 : decode prog_14_method_51_code 17 = .ok (.ifCond .ne 7, 3) := by decide +kernel
theorem d_M_widthOf_24 : decode prog_14_method_51_code 24 = .ok (.iload_n 1, 1) := by decide +kernel
theorem d_M_widthOf_25 : decode prog_14_method_51_code 25 = .ok (.iconst 1, 1) := by decide +kernel
theorem d_M_widthOf_26 : decode prog_14_method_51_code 26 = .ok (.if_icmp .ne 7, 3) := by decide +kernel
theorem d_M_widthOf_33 : decode prog_14_method_51_code 33 = .ok (.iconst 1, 1) := by decide +kernel
theorem d_M_widthOf_34 : decode prog_14_method_51_code 34 = .ok (.ireturn, 1) := by decide +kernel
theorem d_M_widthOf_29 : decode prog_14_method_51_code 29 = .ok (.iconst 2, 1) := by decide +kernel
theorem d_M_widthOf_30 : decode prog_14_method_51_code 30 = .ok (.goto 4, 3) := by decide +kernel
theorem d_M_widthOf_20 : decode prog_14_method_51_code 20 = .ok (.iconst 4, 1) := by decide +kernel
theorem d_M_widthOf_21 : decode prog_14_method_51_code 21 = .ok (.goto 13, 3) := by decide +kernel
theorem d_M_widthOf_11 : decode prog_14_method_51_code 11 = .ok (.bipush 8, 2) := by decide +kernel
theorem d_M_widthOf_13 : decode prog_14_method_51_code 13 = .ok (.goto 21, 3) := by decide +kernel
abbrev y_M_widthOf : MethodName := ⟨"FilterGuardModel", "widthOf", "(I)I"⟩
def rm_M_widthOf : Room := { frames := 1, cells := 0, slots := 0, locals := 20 }
abbrev q_M_widthOf (D : va_G) (RZ : Int32) (A : Nat → Prop) : Array Value → Jvm.State → Outcome → Jvm.State → Prop := va_Qi (fun r (_ : Unit) => r = RZ ∧ True) (fg_B D A (fun _ => []) (fun _ => [])) A
set_option maxHeartbeats 4000000 in
set_option maxRecDepth 100000 in
theorem c_M_widthOf (l : Launch) (D : va_G) (RZ : Int32) (x0 : Int32) (h : f_M_widthOf x0 = (some RZ)) (sz : Nat) : Met l y_M_widthOf (fg_w y_M_widthOf prog_14_method_51_code 2 (some .int)) rm_M_widthOf (va_Pc [.int x0] (fg_P D [] [] sz)) (q_M_widthOf D RZ (va_A [] sz)) rm_M_widthOf.cells rm_M_widthOf.slots (va_A [] sz) := by
  refine fg_enter (fun A => q_M_widthOf D RZ A) (by decide +kernel) (Nat.le_of_ble_eq_true rfl) ?_
  intro p e s m below meth c ls A hx hb hml hown hts hr hlocks hin hP hK hD hS hA hX hl
  have hl : lv_has ls 2 [(0, .int x0)] := hl
  unfold f_M_widthOf at h
  refine lv_iload_n hx hb d_M_widthOf_0 rfl (lv_at hl 0 rfl) ?_
  refine lv_iconst (v := 3) hx hb d_M_widthOf_1 (by decide) ?_
  refine lv_ishr hx hb d_M_widthOf_2 ?_
  refine fg_topi (y := jishr x0 3) rfl ?_
  refine lv_iconst (v := 3) hx hb d_M_widthOf_3 (by decide) ?_
  refine lv_iand hx hb d_M_widthOf_4 ?_
  obtain ⟨v1, ev1, h⟩ := st_ob h
  refine fg_topi (y := v1) ev1.symm ?_
  refine lv_istore_n (lv' := [(1, .int v1), (0, .int x0)]) hx hb d_M_widthOf_5 rfl hl (by decide) rfl (fun ls hl => ?_)
  refine lv_iload_n hx hb d_M_widthOf_6 rfl (lv_at hl 0 rfl) ?_
  refine lv_iconst (v := 3) hx hb d_M_widthOf_7 (by decide) ?_
  refine lv_icmp_ne (tgt := 16) hx hb d_M_widthOf_8 (by decide) (fun c2 => ?_) (fun c2 => ?_)
  · have h := if_f c2 h
    refine lv_iload_n hx hb d_M_widthOf_16 rfl (lv_at hl 0 rfl) ?_
    refine lv_if_ne (tgt := 24) hx hb d_M_widthOf_17 (by decide) (fun c3 => ?_) (fun c3 => ?_)
    · have h := if_f c3 h
      refine lv_iload_n hx hb d_M_widthOf_24 rfl (lv_at hl 0 rfl) ?_
      refine lv_iconst (v := 1) hx hb d_M_widthOf_25 (by decide) ?_
      refine lv_icmp_ne (tgt := 33) hx hb d_M_widthOf_26 (by decide) (fun c4 => ?_) (fun c4 => ?_)
      · have h := if_f c4 h
        refine lv_iconst (v := 1) hx hb d_M_widthOf_33 (by decide) ?_
        exact me_preti h hx hb hr hlocks hK hS d_M_widthOf_34
      have h := if_t c4 h
      refine lv_iconst (v := 2) hx hb d_M_widthOf_29 (by decide) ?_
      refine lv_goto (tgt := 34) hx hb d_M_widthOf_30 (by decide) ?_
      exact me_preti h hx hb hr hlocks hK hS d_M_widthOf_34
    have h := if_t c3 h
    refine lv_iconst (v := 4) hx hb d_M_widthOf_20 (by decide) ?_
    refine lv_goto (tgt := 34) hx hb d_M_widthOf_21 (by decide) ?_
    exact me_preti h hx hb hr hlocks hK hS d_M_widthOf_34
  have h := if_t c2 h
  refine lv_bipush (v := 8) hx hb d_M_widthOf_11 (by decide) ?_
  refine lv_goto (tgt := 34) hx hb d_M_widthOf_13 (by decide) ?_
  exact me_preti h hx hb hr hlocks hK hS d_M_widthOf_34
theorem d_M_hasFrom_0 : decode prog_14_method_52_code 0 = .ok (.iload_n 0, 1) := by decide +kernel
theorem d_M_hasFrom_1 : decode prog_14_method_52_code 1 = .ok (.bipush 8, 2) := by decide +kernel
theorem d_M_hasFrom_3 : decode prog_14_method_52_code 3 = .ok (.iand, 1) := by decide +kernel
theorem d_M_hasFrom_4 : decode prog_14_method_52_code 4 = .ok (.ifCond .eq 7, 3) := by decide +kernel
theorem d_M_hasFrom_11 : decode prog_14_method_52_code 11 = .ok (.iconst 0, 1) := by decide +kernel
theorem d_M_hasFrom_12 : decode prog_14_method_52_code 12 = .ok (.ireturn, 1) := by decide +kernel
theorem d_M_hasFrom_7 : decode prog_14_method_52_code 7 = .ok (.iconst 1, 1) := by decide +kernel
theorem d_M_hasFrom_8 : decode prog_14_method_52_code 8 = .ok (.goto 4, 3) := by decide +kernel
abbrev y_M_hasFrom : MethodName := ⟨"FilterGuardModel", "hasFrom", "(I)Z"⟩
def rm_M_hasFrom : Room := { frames := 1, cells := 0, slots := 0, locals := 20 }
abbrev q_M_hasFrom (D : va_G) (RZ : Int32) (A : Nat → Prop) : Array Value → Jvm.State → Outcome → Jvm.State → Prop := va_Qi (fun r (_ : Unit) => r = RZ ∧ (RZ = 1 ∨ RZ = 0)) (fg_B D A (fun _ => []) (fun _ => [])) A
set_option maxHeartbeats 4000000 in
set_option maxRecDepth 100000 in
theorem c_M_hasFrom (l : Launch) (D : va_G) (RZ : Int32) (x0 : Int32) (h : f_M_hasFrom x0 = (some RZ)) (sz : Nat) : Met l y_M_hasFrom (fg_w y_M_hasFrom prog_14_method_52_code 1 (some .boolean)) rm_M_hasFrom (va_Pc [.int x0] (fg_P D [] [] sz)) (q_M_hasFrom D RZ (va_A [] sz)) rm_M_hasFrom.cells rm_M_hasFrom.slots (va_A [] sz) := by
  refine fg_enter (fun A => q_M_hasFrom D RZ A) (by decide +kernel) (Nat.le_of_ble_eq_true rfl) ?_
  intro p e s m below meth c ls A hx hb hml hown hts hr hlocks hin hP hK hD hS hA hX hl
  have hl : lv_has ls 1 [(0, .int x0)] := hl
  unfold f_M_hasFrom at h
  refine lv_iload_n hx hb d_M_hasFrom_0 rfl (lv_at hl 0 rfl) ?_
  refine lv_bipush (v := 8) hx hb d_M_hasFrom_1 (by decide) ?_
  refine lv_iand hx hb d_M_hasFrom_3 ?_
  refine lv_if_eq (tgt := 11) hx hb d_M_hasFrom_4 (by decide) (fun c1 => ?_) (fun c1 => ?_)
  · have h := if_t c1 h
    refine lv_iconst (v := 0) hx hb d_M_hasFrom_11 (by decide) ?_
    exact me_pretz h (by decide) hx hb hr hlocks hK hS d_M_hasFrom_12
  have h := if_f c1 h
  refine lv_iconst (v := 1) hx hb d_M_hasFrom_7 (by decide) ?_
  refine lv_goto (tgt := 12) hx hb d_M_hasFrom_8 (by decide) ?_
  exact me_pretz h (by decide) hx hb hr hlocks hK hS d_M_hasFrom_12
theorem d_M_isNarrow_0 : decode prog_14_method_53_code 0 = .ok (.iload_n 0, 1) := by decide +kernel
theorem d_M_isNarrow_1 : decode prog_14_method_53_code 1 = .ok (.bipush 7, 2) := by decide +kernel
theorem d_M_isNarrow_3 : decode prog_14_method_53_code 3 = .ok (.iand, 1) := by decide +kernel
theorem d_M_isNarrow_4 : decode prog_14_method_53_code 4 = .ok (.istore_n 1, 1) := by decide +kernel
theorem d_M_isNarrow_5 : decode prog_14_method_53_code 5 = .ok (.iload_n 1, 1) := by decide +kernel
theorem d_M_isNarrow_6 : decode prog_14_method_53_code 6 = .ok (.iconst 4, 1) := by decide +kernel
theorem d_M_isNarrow_7 : decode prog_14_method_53_code 7 = .ok (.if_icmp .eq 9, 3) := by decide +kernel
theorem d_M_isNarrow_16 : decode prog_14_method_53_code 16 = .ok (.iconst 1, 1) := by decide +kernel
theorem d_M_isNarrow_17 : decode prog_14_method_53_code 17 = .ok (.goto 4, 3) := by decide +kernel
theorem d_M_isNarrow_21 : decode prog_14_method_53_code 21 = .ok (.ireturn, 1) := by decide +kernel
theorem d_M_isNarrow_10 : decode prog_14_method_53_code 10 = .ok (.iload_n 1, 1) := by decide +kernel
theorem d_M_isNarrow_11 : decode prog_14_method_53_code 11 = .ok (.bipush 6, 2) := by decide +kernel
theorem d_M_isNarrow_13 : decode prog_14_method_53_code 13 = .ok (.if_icmp .ne 7, 3) := by decide +kernel
theorem d_M_isNarrow_20 : decode prog_14_method_53_code 20 = .ok (.iconst 0, 1) := by decide +kernel
abbrev y_M_isNarrow : MethodName := ⟨"FilterGuardModel", "isNarrow", "(I)Z"⟩
def rm_M_isNarrow : Room := { frames := 1, cells := 0, slots := 0, locals := 20 }
abbrev q_M_isNarrow (D : va_G) (RZ : Int32) (A : Nat → Prop) : Array Value → Jvm.State → Outcome → Jvm.State → Prop := va_Qi (fun r (_ : Unit) => r = RZ ∧ (RZ = 1 ∨ RZ = 0)) (fg_B D A (fun _ => []) (fun _ => [])) A
set_option maxHeartbeats 4000000 in
set_option maxRecDepth 100000 in
theorem c_M_isNarrow (l : Launch) (D : va_G) (RZ : Int32) (x0 : Int32) (h : f_M_isNarrow x0 = (some RZ)) (sz : Nat) : Met l y_M_isNarrow (fg_w y_M_isNarrow prog_14_method_53_code 2 (some .boolean)) rm_M_isNarrow (va_Pc [.int x0] (fg_P D [] [] sz)) (q_M_isNarrow D RZ (va_A [] sz)) rm_M_isNarrow.cells rm_M_isNarrow.slots (va_A [] sz) := by
  refine fg_enter (fun A => q_M_isNarrow D RZ A) (by decide +kernel) (Nat.le_of_ble_eq_true rfl) ?_
  intro p e s m below meth c ls A hx hb hml hown hts hr hlocks hin hP hK hD hS hA hX hl
  have hl : lv_has ls 2 [(0, .int x0)] := hl
  unfold f_M_isNarrow at h
  refine lv_iload_n hx hb d_M_isNarrow_0 rfl (lv_at hl 0 rfl) ?_
  refine lv_bipush (v := 7) hx hb d_M_isNarrow_1 (by decide) ?_
  refine lv_iand hx hb d_M_isNarrow_3 ?_
  obtain ⟨v1, ev1, h⟩ := st_ob h
  refine fg_topi (y := v1) ev1.symm ?_
  refine lv_istore_n (lv' := [(1, .int v1), (0, .int x0)]) hx hb d_M_isNarrow_4 rfl hl (by decide) rfl (fun ls hl => ?_)
  refine lv_iload_n hx hb d_M_isNarrow_5 rfl (lv_at hl 0 rfl) ?_
  refine lv_iconst (v := 4) hx hb d_M_isNarrow_6 (by decide) ?_
  refine lv_icmp_eq (tgt := 16) hx hb d_M_isNarrow_7 (by decide) (fun c2 => ?_) (fun c2 => ?_)
  · have h := if_t c2 h
    refine lv_iconst (v := 1) hx hb d_M_isNarrow_16 (by decide) ?_
    refine lv_goto (tgt := 21) hx hb d_M_isNarrow_17 (by decide) ?_
    exact me_pretz h (by decide) hx hb hr hlocks hK hS d_M_isNarrow_21
  have h := if_f c2 h
  refine lv_iload_n hx hb d_M_isNarrow_10 rfl (lv_at hl 0 rfl) ?_
  refine lv_bipush (v := 6) hx hb d_M_isNarrow_11 (by decide) ?_
  refine lv_icmp_ne (tgt := 20) hx hb d_M_isNarrow_13 (by decide) (fun c3 => ?_) (fun c3 => ?_)
  · have h := if_f c3 h
    refine lv_iconst (v := 0) hx hb d_M_isNarrow_20 (by decide) ?_
    exact me_pretz h (by decide) hx hb hr hlocks hK hS d_M_isNarrow_21
  have h := if_t c3 h
  refine lv_iconst (v := 1) hx hb d_M_isNarrow_16 (by decide) ?_
  refine lv_goto (tgt := 21) hx hb d_M_isNarrow_17 (by decide) ?_
  exact me_pretz h (by decide) hx hb hr hlocks hK hS d_M_isNarrow_21
