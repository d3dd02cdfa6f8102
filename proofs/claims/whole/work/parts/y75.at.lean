theorem d_M_relationOf_0 : decode prog_14_method_88_code 0 = .ok (.iload_n 0, 1) := by decide +kernel
theorem d_M_relationOf_1 : decode prog_14_method_88_code 1 = .ok (.bipush 8, 2) := by decide +kernel
theorem d_M_relationOf_3 : decode prog_14_method_88_code 3 = .ok (.if_icmp .ge 9, 3) := by decide +kernel
theorem d_M_relationOf_12 : decode prog_14_method_88_code 12 = .ok (.iload_n 0, 1) := by decide +kernel
theorem d_M_relationOf_13 : decode prog_14_method_88_code 13 = .ok (.iconst 3, 1) := by decide +kernel
theorem d_M_relationOf_14 : decode prog_14_method_88_code 14 = .ok (.isub, 1) := by decide +kernel
theorem d_M_relationOf_15 : decode prog_14_method_88_code 15 = .ok (.ireturn, 1) := by decide +kernel
theorem d_M_relationOf_6 : decode prog_14_method_88_code 6 = .ok (.iload_n 0, 1) := by decide +kernel
theorem d_M_relationOf_7 : decode prog_14_method_88_code 7 = .ok (.iconst 1, 1) := by decide +kernel
theorem d_M_relationOf_8 : decode prog_14_method_88_code 8 = .ok (.isub, 1) := by decide +kernel
theorem d_M_relationOf_9 : decode prog_14_method_88_code 9 = .ok (.goto 6, 3) := by decide +kernel
abbrev y_M_relationOf : MethodName := ⟨"FilterGuardModel", "relationOf", "(I)I"⟩
def rm_M_relationOf : Room := { frames := 1, cells := 0, slots := 0, locals := 20 }
abbrev q_M_relationOf (D : va_G) (RZ : Int32) (A : Nat → Prop) : Array Value → Jvm.State → Outcome → Jvm.State → Prop := va_Qi (fun r (_ : Unit) => r = RZ ∧ True) (fg_B D A (fun _ => []) (fun _ => [])) A
set_option maxHeartbeats 4000000 in
set_option maxRecDepth 100000 in
theorem c_M_relationOf (l : Launch) (D : va_G) (RZ : Int32) (x0 : Int32) (h : f_M_relationOf x0 = (some RZ)) (sz : Nat) : Met l y_M_relationOf (fg_w y_M_relationOf prog_14_method_88_code 1 (some .int)) rm_M_relationOf (va_Pc [.int x0] (fg_P D [] [] sz)) (q_M_relationOf D RZ (va_A [] sz)) rm_M_relationOf.cells rm_M_relationOf.slots (va_A [] sz) := by
  refine fg_enter (fun A => q_M_relationOf D RZ A) (by decide +kernel) (Nat.le_of_ble_eq_true rfl) ?_
  intro p e s m below meth c ls A hx hb hml hown hts hr hlocks hin hP hK hD hS hA hX hl
  have hl : lv_has ls 1 [(0, .int x0)] := hl
  unfold f_M_relationOf at h
  refine lv_iload_n hx hb d_M_relationOf_0 rfl (lv_at hl 0 rfl) ?_
  refine lv_bipush (v := 8) hx hb d_M_relationOf_1 (by decide) ?_
  refine lv_icmp_ge (tgt := 12) hx hb d_M_relationOf_3 (by decide) (fun c1 => ?_) (fun c1 => ?_)
  · have h := if_t c1 h
    refine lv_iload_n hx hb d_M_relationOf_12 rfl (lv_at hl 0 rfl) ?_
    refine lv_iconst (v := 3) hx hb d_M_relationOf_13 (by decide) ?_
    refine lv_isub hx hb d_M_relationOf_14 ?_
    exact me_preti h hx hb hr hlocks hK hS d_M_relationOf_15
  have h := if_f c1 h
  refine lv_iload_n hx hb d_M_relationOf_6 rfl (lv_at hl 0 rfl) ?_
  refine lv_iconst (v := 1) hx hb d_M_relationOf_7 (by decide) ?_
  refine lv_isub hx hb d_M_relationOf_8 ?_
  refine lv_goto (tgt := 15) hx hb d_M_relationOf_9 (by decide) ?_
  exact me_preti h hx hb hr hlocks hK hS d_M_relationOf_15
theorem d_M_contrary_0 : decode prog_14_method_89_code 0 = .ok (.iload_n 0, 1) := by decide +kernel
theorem d_M_contrary_1 : decode prog_14_method_89_code 1 = .ok (.tableswitch 84 0 10 #[59, 66, 71, 63, 61, 76, 81, 74, 69, 84, 79], 59) := by decide +kernel
theorem d_M_contrary_60 : decode prog_14_method_89_code 60 = .ok (.iconst 4, 1) := by decide +kernel
theorem d_M_contrary_61 : decode prog_14_method_89_code 61 = .ok (.ireturn, 1) := by decide +kernel
theorem d_M_contrary_67 : decode prog_14_method_89_code 67 = .ok (.bipush 8, 2) := by decide +kernel
theorem d_M_contrary_69 : decode prog_14_method_89_code 69 = .ok (.ireturn, 1) := by decide +kernel
theorem d_M_contrary_72 : decode prog_14_method_89_code 72 = .ok (.bipush 7, 2) := by decide +kernel
theorem d_M_contrary_74 : decode prog_14_method_89_code 74 = .ok (.ireturn, 1) := by decide +kernel
theorem d_M_contrary_64 : decode prog_14_method_89_code 64 = .ok (.bipush 11, 2) := by decide +kernel
theorem d_M_contrary_66 : decode prog_14_method_89_code 66 = .ok (.ireturn, 1) := by decide +kernel
theorem d_M_contrary_62 : decode prog_14_method_89_code 62 = .ok (.iconst 0, 1) := by decide +kernel
theorem d_M_contrary_63 : decode prog_14_method_89_code 63 = .ok (.ireturn, 1) := by decide +kernel
theorem d_M_contrary_77 : decode prog_14_method_89_code 77 = .ok (.bipush 10, 2) := by decide +kernel
theorem d_M_contrary_79 : decode prog_14_method_89_code 79 = .ok (.ireturn, 1) := by decide +kernel
theorem d_M_contrary_82 : decode prog_14_method_89_code 82 = .ok (.bipush 9, 2) := by decide +kernel
theorem d_M_contrary_84 : decode prog_14_method_89_code 84 = .ok (.ireturn, 1) := by decide +kernel
theorem d_M_contrary_75 : decode prog_14_method_89_code 75 = .ok (.iconst 2, 1) := by decide +kernel
theorem d_M_contrary_76 : decode prog_14_method_89_code 76 = .ok (.ireturn, 1) := by decide +kernel
theorem d_M_contrary_70 : decode prog_14_method_89_code 70 = .ok (.iconst 1, 1) := by decide +kernel
theorem d_M_contrary_71 : decode prog_14_method_89_code 71 = .ok (.ireturn, 1) := by decide +kernel
theorem d_M_contrary_85 : decode prog_14_method_89_code 85 = .ok (.bipush 6, 2) := by decide +kernel
theorem d_M_contrary_87 : decode prog_14_method_89_code 87 = .ok (.ireturn, 1) := by decide +kernel
theorem d_M_contrary_80 : decode prog_14_method_89_code 80 = .ok (.iconst 5, 1) := by decide +kernel
theorem d_M_contrary_81 : decode prog_14_method_89_code 81 = .ok (.ireturn, 1) := by decide +kernel
abbrev y_M_contrary : MethodName := ⟨"FilterGuardModel", "contrary", "(I)I"⟩
def rm_M_contrary : Room := { frames := 1, cells := 0, slots := 0, locals := 20 }
abbrev q_M_contrary (D : va_G) (RZ : Int32) (A : Nat → Prop) : Array Value → Jvm.State → Outcome → Jvm.State → Prop := va_Qi (fun r (_ : Unit) => r = RZ ∧ True) (fg_B D A (fun _ => []) (fun _ => [])) A
set_option maxHeartbeats 4000000 in
set_option maxRecDepth 100000 in
theorem c_M_contrary (l : Launch) (D : va_G) (RZ : Int32) (x0 : Int32) (h : f_M_contrary x0 = (some RZ)) (sz : Nat) : Met l y_M_contrary (fg_w y_M_contrary prog_14_method_89_code 1 (some .int)) rm_M_contrary (va_Pc [.int x0] (fg_P D [] [] sz)) (q_M_contrary D RZ (va_A [] sz)) rm_M_contrary.cells rm_M_contrary.slots (va_A [] sz) := by
  refine fg_enter (fun A => q_M_contrary D RZ A) (by decide +kernel) (Nat.le_of_ble_eq_true rfl) ?_
  intro p e s m below meth c ls A hx hb hml hown hts hr hlocks hin hP hK hD hS hA hX hl
  have hl : lv_has ls 1 [(0, .int x0)] := hl
  unfold f_M_contrary at h
  refine lv_iload_n hx hb d_M_contrary_0 rfl (lv_at hl 0 rfl) ?_
  refine lv_topi (fun w1 ew1 => ?_)
  by_cases n2 : w1 = 0
  · have h := if_t (ew1.symm.trans n2) h
    subst n2
    refine lv_tableIn (off := 59) (tgt := 60) hx hb d_M_contrary_1 (by decide) (by decide) (by decide) (by decide) ?_
    refine lv_iconst (v := 4) hx hb d_M_contrary_60 (by decide) ?_
    exact me_preti h hx hb hr hlocks hK hS d_M_contrary_61
  have h := if_f (fun z => n2 (ew1.trans z)) h
  by_cases n3 : w1 = 1
  · have h := if_t (ew1.symm.trans n3) h
    subst n3
    refine lv_tableIn (off := 66) (tgt := 67) hx hb d_M_contrary_1 (by decide) (by decide) (by decide) (by decide) ?_
    refine lv_bipush (v := 8) hx hb d_M_contrary_67 (by decide) ?_
    exact me_preti h hx hb hr hlocks hK hS d_M_contrary_69
  have h := if_f (fun z => n3 (ew1.trans z)) h
  by_cases n4 : w1 = 2
  · have h := if_t (ew1.symm.trans n4) h
    subst n4
    refine lv_tableIn (off := 71) (tgt := 72) hx hb d_M_contrary_1 (by decide) (by decide) (by decide) (by decide) ?_
    refine lv_bipush (v := 7) hx hb d_M_contrary_72 (by decide) ?_
    exact me_preti h hx hb hr hlocks hK hS d_M_contrary_74
  have h := if_f (fun z => n4 (ew1.trans z)) h
  by_cases n5 : w1 = 3
  · have h := if_t (ew1.symm.trans n5) h
    subst n5
    refine lv_tableIn (off := 63) (tgt := 64) hx hb d_M_contrary_1 (by decide) (by decide) (by decide) (by decide) ?_
    refine lv_bipush (v := 11) hx hb d_M_contrary_64 (by decide) ?_
    exact me_preti h hx hb hr hlocks hK hS d_M_contrary_66
  have h := if_f (fun z => n5 (ew1.trans z)) h
  by_cases n6 : w1 = 4
  · have h := if_t (ew1.symm.trans n6) h
    subst n6
    refine lv_tableIn (off := 61) (tgt := 62) hx hb d_M_contrary_1 (by decide) (by decide) (by decide) (by decide) ?_
    refine lv_iconst (v := 0) hx hb d_M_contrary_62 (by decide) ?_
    exact me_preti h hx hb hr hlocks hK hS d_M_contrary_63
  have h := if_f (fun z => n6 (ew1.trans z)) h
  by_cases n7 : w1 = 5
  · have h := if_t (ew1.symm.trans n7) h
    subst n7
    refine lv_tableIn (off := 76) (tgt := 77) hx hb d_M_contrary_1 (by decide) (by decide) (by decide) (by decide) ?_
    refine lv_bipush (v := 10) hx hb d_M_contrary_77 (by decide) ?_
    exact me_preti h hx hb hr hlocks hK hS d_M_contrary_79
  have h := if_f (fun z => n7 (ew1.trans z)) h
  by_cases n8 : w1 = 6
  · have h := if_t (ew1.symm.trans n8) h
    subst n8
    refine lv_tableIn (off := 81) (tgt := 82) hx hb d_M_contrary_1 (by decide) (by decide) (by decide) (by decide) ?_
    refine lv_bipush (v := 9) hx hb d_M_contrary_82 (by decide) ?_
    exact me_preti h hx hb hr hlocks hK hS d_M_contrary_84
  have h := if_f (fun z => n8 (ew1.trans z)) h
  by_cases n9 : w1 = 7
  · have h := if_t (ew1.symm.trans n9) h
    subst n9
    refine lv_tableIn (off := 74) (tgt := 75) hx hb d_M_contrary_1 (by decide) (by decide) (by decide) (by decide) ?_
    refine lv_iconst (v := 2) hx hb d_M_contrary_75 (by decide) ?_
    exact me_preti h hx hb hr hlocks hK hS d_M_contrary_76
  have h := if_f (fun z => n9 (ew1.trans z)) h
  by_cases n10 : w1 = 8
  · have h := if_t (ew1.symm.trans n10) h
    subst n10
    refine lv_tableIn (off := 69) (tgt := 70) hx hb d_M_contrary_1 (by decide) (by decide) (by decide) (by decide) ?_
    refine lv_iconst (v := 1) hx hb d_M_contrary_70 (by decide) ?_
    exact me_preti h hx hb hr hlocks hK hS d_M_contrary_71
  have h := if_f (fun z => n10 (ew1.trans z)) h
  by_cases n11 : w1 = 9
  · have h := if_t (ew1.symm.trans n11) h
    subst n11
    refine lv_tableIn (off := 84) (tgt := 85) hx hb d_M_contrary_1 (by decide) (by decide) (by decide) (by decide) ?_
    refine lv_bipush (v := 6) hx hb d_M_contrary_85 (by decide) ?_
    exact me_preti h hx hb hr hlocks hK hS d_M_contrary_87
  have h := if_f (fun z => n11 (ew1.trans z)) h
  by_cases n12 : w1 = 10
  · have h := if_t (ew1.symm.trans n12) h
    subst n12
    refine lv_tableIn (off := 79) (tgt := 80) hx hb d_M_contrary_1 (by decide) (by decide) (by decide) (by decide) ?_
    refine lv_iconst (v := 5) hx hb d_M_contrary_80 (by decide) ?_
    exact me_preti h hx hb hr hlocks hK hS d_M_contrary_81
  have h := if_f (fun z => n12 (ew1.trans z)) h
  have in2 := lv_neT n2 (show (0 : Int32).toInt = 0 from rfl)
  have in3 := lv_neT n3 (show (1 : Int32).toInt = 1 from rfl)
  have in4 := lv_neT n4 (show (2 : Int32).toInt = 2 from rfl)
  have in5 := lv_neT n5 (show (3 : Int32).toInt = 3 from rfl)
  have in6 := lv_neT n6 (show (4 : Int32).toInt = 4 from rfl)
  have in7 := lv_neT n7 (show (5 : Int32).toInt = 5 from rfl)
  have in8 := lv_neT n8 (show (6 : Int32).toInt = 6 from rfl)
  have in9 := lv_neT n9 (show (7 : Int32).toInt = 7 from rfl)
  have in10 := lv_neT n10 (show (8 : Int32).toInt = 8 from rfl)
  have in11 := lv_neT n11 (show (9 : Int32).toInt = 9 from rfl)
  have in12 := lv_neT n12 (show (10 : Int32).toInt = 10 from rfl)
  refine lv_tableOut (tgt := 85) hx hb d_M_contrary_1 (by omega) (by decide) ?_
  refine lv_bipush (v := 6) hx hb d_M_contrary_85 (by decide) ?_
  exact me_preti h hx hb hr hlocks hK hS d_M_contrary_87
theorem d_M_decide_6 : decode prog_14_method_90_code 6 = .ok (.iload 4, 2) := by decide +kernel
theorem d_M_decide_8 : decode prog_14_method_90_code 8 = .ok (.iload_n 1, 1) := by decide +kernel
theorem d_M_decide_9 : decode prog_14_method_90_code 9 = .ok (.invokestatic 357, 3) := by decide +kernel
theorem d_M_decide_12 : decode prog_14_method_90_code 12 = .ok (.bipush 75, 2) := by decide +kernel
theorem d_M_decide_14 : decode prog_14_method_90_code 14 = .ok (.iadd, 1) := by decide +kernel
theorem d_M_decide_15 : decode prog_14_method_90_code 15 = .ok (.if_icmp .ge 73, 3) := by decide +kernel
theorem d_M_decide_88 : decode prog_14_method_90_code 88 = .ok (.return_, 1) := by decide +kernel
theorem d_M_decide_18 : decode prog_14_method_90_code 18 = .ok (.aload_n 0, 1) := by decide +kernel
theorem d_M_decide_19 : decode prog_14_method_90_code 19 = .ok (.getfield 89, 3) := by decide +kernel
theorem d_M_decide_22 : decode prog_14_method_90_code 22 = .ok (.iload 4, 2) := by decide +kernel
theorem d_M_decide_24 : decode prog_14_method_90_code 24 = .ok (.baload, 1) := by decide +kernel
theorem d_M_decide_25 : decode prog_14_method_90_code 25 = .ok (.bipush 8, 2) := by decide +kernel
theorem d_M_decide_27 : decode prog_14_method_90_code 27 = .ok (.if_icmp .ne 55, 3) := by decide +kernel
theorem d_M_decide_82 : decode prog_14_method_90_code 82 = .ok (.iinc 4 1, 3) := by decide +kernel
theorem d_M_decide_85 : decode prog_14_method_90_code 85 = .ok (.goto (-79), 3) := by decide +kernel
theorem d_M_decide_30 : decode prog_14_method_90_code 30 = .ok (.aload_n 0, 1) := by decide +kernel
theorem d_M_decide_31 : decode prog_14_method_90_code 31 = .ok (.getfield 98, 3) := by decide +kernel
theorem d_M_decide_34 : decode prog_14_method_90_code 34 = .ok (.iload 4, 2) := by decide +kernel
theorem d_M_decide_36 : decode prog_14_method_90_code 36 = .ok (.iaload, 1) := by decide +kernel
theorem d_M_decide_37 : decode prog_14_method_90_code 37 = .ok (.iload_n 2, 1) := by decide +kernel
theorem d_M_decide_38 : decode prog_14_method_90_code 38 = .ok (.if_icmp .eq 6, 3) := by decide +kernel
theorem d_M_decide_44 : decode prog_14_method_90_code 44 = .ok (.aload_n 0, 1) := by decide +kernel
theorem d_M_decide_45 : decode prog_14_method_90_code 45 = .ok (.getfield 95, 3) := by decide +kernel
theorem d_M_decide_48 : decode prog_14_method_90_code 48 = .ok (.iload 4, 2) := by decide +kernel
theorem d_M_decide_50 : decode prog_14_method_90_code 50 = .ok (.iaload, 1) := by decide +kernel
theorem d_M_decide_51 : decode prog_14_method_90_code 51 = .ok (.istore 5, 2) := by decide +kernel
theorem d_M_decide_53 : decode prog_14_method_90_code 53 = .ok (.aload_n 0, 1) := by decide +kernel
theorem d_M_decide_54 : decode prog_14_method_90_code 54 = .ok (.iload 4, 2) := by decide +kernel
theorem d_M_decide_56 : decode prog_14_method_90_code 56 = .ok (.lconst 0, 1) := by decide +kernel
theorem d_M_decide_57 : decode prog_14_method_90_code 57 = .ok (.invokevirtual 375, 3) := by decide +kernel
theorem d_M_decide_60 : decode prog_14_method_90_code 60 = .ok (.iload_n 3, 1) := by decide +kernel
theorem d_M_decide_61 : decode prog_14_method_90_code 61 = .ok (.ifCond .ne 21, 3) := by decide +kernel
theorem d_M_decide_64 : decode prog_14_method_90_code 64 = .ok (.aload_n 0, 1) := by decide +kernel
theorem d_M_decide_65 : decode prog_14_method_90_code 65 = .ok (.getfield 89, 3) := by decide +kernel
theorem d_M_decide_68 : decode prog_14_method_90_code 68 = .ok (.iload 4, 2) := by decide +kernel
theorem d_M_decide_70 : decode prog_14_method_90_code 70 = .ok (.bipush 7, 2) := by decide +kernel
theorem d_M_decide_72 : decode prog_14_method_90_code 72 = .ok (.bastore, 1) := by decide +kernel
theorem d_M_decide_73 : decode prog_14_method_90_code 73 = .ok (.aload_n 0, 1) := by decide +kernel
theorem d_M_decide_74 : decode prog_14_method_90_code 74 = .ok (.getfield 95, 3) := by decide +kernel
theorem d_M_decide_77 : decode prog_14_method_90_code 77 = .ok (.iload 4, 2) := by decide +kernel
theorem d_M_decide_79 : decode prog_14_method_90_code 79 = .ok (.iload 5, 2) := by decide +kernel
theorem d_M_decide_81 : decode prog_14_method_90_code 81 = .ok (.iastore, 1) := by decide +kernel
theorem d_M_decide_41 : decode prog_14_method_90_code 41 = .ok (.goto 41, 3) := by decide +kernel
theorem d_M_decide_0 : decode prog_14_method_90_code 0 = .ok (.iload_n 1, 1) := by decide +kernel
theorem d_M_decide_1 : decode prog_14_method_90_code 1 = .ok (.invokestatic 357, 3) := by decide +kernel
theorem d_M_decide_4 : decode prog_14_method_90_code 4 = .ok (.istore 4, 2) := by decide +kernel
abbrev y_M_decide : MethodName := ⟨"FilterGuardModel", "decide", "(IIZ)V"⟩
def rm_M_decide : Room := { frames := 4, cells := 0, slots := 0, locals := 86 }
abbrev q_M_decide (D : va_G) (ad : Nat → Nat → Nat) (ca : Nat → ClassId) (N : Nat → Nat) (M0 MZ : me_M) (A : Nat → Prop) : Array Value → Jvm.State → Outcome → Jvm.State → Prop := va_Qv (fun (_ : Unit) => me_wf N MZ ∧ me_kp M0 MZ) (fg_B D A (fun _ => me_W ad ca MZ) (fun _ => [])) A
set_option maxHeartbeats 4000000 in
set_option maxRecDepth 100000 in
theorem c_M_decide (l : Launch) (D : va_G) (ad : Nat → Nat → Nat) (ca : Nat → ClassId) (N : Nat → Nat) (M0 MZ : me_M) (j0 : Nat) (x1 : Int32) (x2 : Int32) (x3 : Int32) (h : f_M_decide M0 j0 x1 x2 x3 = (some MZ)) (hwf : me_wf N M0) (hj0 : j0 < N 1) (zx3 : x3 = 1 ∨ x3 = 0) (sz : Nat) : Met l y_M_decide (fg_w y_M_decide prog_14_method_90_code 6 none) rm_M_decide (va_Pc [.ref (ad 1 j0), .int x1, .int x2, .int x3] (fz_P D (me_T ca) (me_W ad ca M0) sz)) (q_M_decide D ad ca N M0 MZ (va_A (me_W ad ca M0) sz)) rm_M_decide.cells rm_M_decide.slots (va_A (me_W ad ca M0) sz) := by
  refine fz_enter (fun A => q_M_decide D ad ca N M0 MZ A) (by decide +kernel) (Nat.le_of_ble_eq_true rfl) ?_
  intro p e s m below meth c ls A hx hb hml hown hts hr hlocks hin hP hK hD hS hA hX hl hz
  have hl : lv_has ls 6 [(0, .ref (ad 1 j0)), (1, .int x1), (2, .int x2), (3, .int x3)] := hl
  unfold f_M_decide at h
  have hkp : me_kp M0 M0 := me_kp.rf
  have hkb := hkp
  have b_6 : ∀ (fu : Nat), ∀ (M : me_M) (y4 : Int32) (H : Heap) (locs : List Loc) (ls : Array Slot), f_M_decide_l6 j0 x1 x2 x3 fu M y4 = (some MZ) → me_wf N M → me_kp M0 M → va_P D classes (me_W ad ca M) H → va_D A (me_W ad ca M) → va_S A s.heap H locs → lv_has ls 6 [(0, .ref (ad 1 j0)), (1, .int x1), (2, .int x2), (3, .int x3), (4, .int y4)] → W p l e rm_M_decide s m [.ref (ad 1 j0), .int x1, .int x2, .int x3].toArray below meth c H locs 0 0 (MQ below (q_M_decide D ad ca N M0 MZ A) [.ref (ad 1 j0), .int x1, .int x2, .int x3].toArray s rm_M_decide.cells rm_M_decide.slots A) (F0 m 6 ls []) := by
    intro fu
    induction fu with
    | zero =>
      intro M y4 H locs ls h hwf hkp hP hD hS hl
      cases h
    | succ fu ih =>
      intro M y4 H locs ls h hwf hkp hP hD hS hl
      unfold f_M_decide_l6 at h
      have hkb := hkp
      refine lv_iload hx hb d_M_decide_6 (lv_at hl 4 rfl) ?_
      refine lv_iload_n hx hb d_M_decide_8 rfl (lv_at hl 1 rfl) ?_
      obtain ⟨r1, er1, h⟩ := bd_ob h
      refine me_pani' (r0 := r1) (fg_runS (wc := []) (tc := []) (A2 := A) (As := [.int x1]) (rest := [.int y4]) ⟨hx, hb, hml, hown, hts⟩ (c_M_rowOf l D r1 x1 er1 _) (by show fg_nm y_M_rowOf 1; decide +kernel) u_2060 u_2061 u_192 u_2062 ⟨Nat.le_of_ble_eq_true rfl, Nat.le_of_ble_eq_true rfl⟩ hX me_P0 (hK.sub (tys' := []) [] rfl) me_D0 rfl hl.1 (Nat.le_of_ble_eq_true rfl) d_M_decide_9 ⟨Nat.le_of_ble_eq_true rfl, Nat.le_of_ble_eq_true rfl⟩) hP hD hK hS hA rfl rfl (fun H locs hw hP hD hS => ?_)
      refine lv_bipush (v := 75) hx hb d_M_decide_12 (by decide) ?_
      refine lv_iadd hx hb d_M_decide_14 ?_
      refine lv_icmp_ge (tgt := 88) hx hb d_M_decide_15 (by decide) (fun c2 => ?_) (fun c2 => ?_)
      · have h := if_t c2 h
        exact me_retv (me_kp M0) h hx hb hr hlocks hwf hkp hP hK hD hS d_M_decide_88
      have h := if_f c2 h
      refine lv_aload_n hx hb d_M_decide_18 rfl (lv_at hl 0 rfl) ?_
      refine g_M_47 hx hb hts hown hK hP hwf hj0 (hts _ u_1788) d_M_decide_19 ?_
      obtain ⟨j3, e4, h⟩ := bd_ob h
      have hj3 : j3 < N 14 := (hwf.2.1 1 j0 47 _ e4 (by decide) hj0)
      refine me_opt (j := j3) e4 ?_
      refine lv_iload hx hb d_M_decide_22 (lv_at hl 4 rfl) ?_
      obtain ⟨g5, h⟩ := gd_ob h
      refine me_bald hx hb hK hP hwf hj3 g5 d_M_decide_24 ?_
      refine lv_bipush (v := 8) hx hb d_M_decide_25 (by decide) ?_
      refine lv_icmp_ne (tgt := 82) hx hb d_M_decide_27 (by decide) (fun c6 => ?_) (fun c6 => ?_)
      · have h := if_f c6 h
        refine lv_iinc (v := y4 + 1) (lv' := [(4, .int (y4 + 1)), (0, .ref (ad 1 j0)), (1, .int x1), (2, .int x2), (3, .int x3)]) hx hb d_M_decide_82 hl (k := 4) rfl (by rfl) (by decide) rfl (fun ls hl => ?_)
        refine lv_goto (tgt := 6) hx hb d_M_decide_85 (by decide) ?_
        exact ih M (y4 + 1) _ _ _ h hwf hkp hP hD hS (lv_sub hl [1, 2, 3, 4, 0] rfl)
      have h := if_t c6 h
      refine lv_aload_n hx hb d_M_decide_30 rfl (lv_at hl 0 rfl) ?_
      refine g_M_50 hx hb hts hown hK hP hwf hj0 (hts _ u_1791) d_M_decide_31 ?_
      obtain ⟨j7, e8, h⟩ := bd_ob h
      have hj7 : j7 < N 13 := (hwf.2.1 1 j0 50 _ e8 (by decide) hj0)
      refine me_opt (j := j7) e8 ?_
      refine lv_iload hx hb d_M_decide_34 (lv_at hl 4 rfl) ?_
      obtain ⟨g9, h⟩ := gd_ob h
      refine me_iald hx hb hK hP hwf hj7 g9 d_M_decide_36 ?_
      refine lv_iload_n hx hb d_M_decide_37 rfl (lv_at hl 2 rfl) ?_
      refine lv_icmp_eq (tgt := 44) hx hb d_M_decide_38 (by decide) (fun c10 => ?_) (fun c10 => ?_)
      · have h := if_t c10 h
        refine lv_aload_n hx hb d_M_decide_44 rfl (lv_at hl 0 rfl) ?_
        refine g_M_49 hx hb hts hown hK hP hwf hj0 (hts _ u_1790) d_M_decide_45 ?_
        obtain ⟨j11, e12, h⟩ := bd_ob h
        have hj11 : j11 < N 13 := (hwf.2.1 1 j0 49 _ e12 (by decide) hj0)
        refine me_opt (j := j11) e12 ?_
        refine lv_iload hx hb d_M_decide_48 (lv_at hl 4 rfl) ?_
        obtain ⟨g13, h⟩ := gd_ob h
        refine me_iald hx hb hK hP hwf hj11 g13 d_M_decide_50 ?_
        obtain ⟨v14, ev14, h⟩ := st_ob h
        refine fg_topi (y := v14) ev14.symm ?_
        refine lv_istore (lv' := [(5, .int v14), (0, .ref (ad 1 j0)), (1, .int x1), (2, .int x2), (3, .int x3), (4, .int y4)]) hx hb d_M_decide_51 hl (by decide) rfl (fun ls hl => ?_)
        refine lv_aload_n hx hb d_M_decide_53 rfl (lv_at hl 1 rfl) ?_
        refine lv_iload hx hb d_M_decide_54 (lv_at hl 5 rfl) ?_
        refine lv_lconst (v := 0) hx hb d_M_decide_56 (by decide) ?_
        obtain ⟨M15, eM15, h⟩ := bd_ob h
        refine me_thenv0 (M1 := M15) (me_runV (C := "FilterGuardModel") (As := [.int y4, .long 0]) (rest := []) ⟨hx, hb, hml, hown, hts⟩ (c_M_toNumber l D ad ca N M M15 j0 y4 (0 : Int64) eM15 hwf hj0 _) rfl (by show fg_nm y_M_toNumber 2; decide +kernel) u_2112 u_2114 u_107 u_192 u_2115 ⟨Nat.le_of_ble_eq_true rfl, Nat.le_of_ble_eq_true rfl⟩ hX hz hK hP hD hwf hS hA hj0 (by decide) rfl rfl rfl hl.1 (Nat.le_of_ble_eq_true rfl) d_M_decide_57 ⟨Nat.le_of_ble_eq_true rfl, Nat.le_of_ble_eq_true rfl⟩) hP hD hK hS hA rfl rfl (fun H locs hw hP hD hS => ?_)
        obtain ⟨hwf, hk9⟩ := hw
        have hkp := hkp.tr hk9
        refine lv_iload_n hx hb d_M_decide_60 rfl (lv_at hl 4 rfl) ?_
        refine lv_if_ne (tgt := 82) hx hb d_M_decide_61 (by decide) (fun c16 => ?_) (fun c16 => ?_)
        · have h := if_f c16 h
          refine lv_iinc (v := y4 + 1) (lv' := [(4, .int (y4 + 1)), (5, .int v14), (0, .ref (ad 1 j0)), (1, .int x1), (2, .int x2), (3, .int x3)]) hx hb d_M_decide_82 hl (k := 5) rfl (by rfl) (by decide) rfl (fun ls hl => ?_)
          refine lv_goto (tgt := 6) hx hb d_M_decide_85 (by decide) ?_
          exact ih M15 (y4 + 1) _ _ _ h hwf hkp hP hD hS (lv_sub hl [2, 3, 4, 5, 0] rfl)
        have h := if_t c16 h
        refine lv_aload_n hx hb d_M_decide_64 rfl (lv_at hl 1 rfl) ?_
        refine g_M_47 hx hb hts hown hK hP hwf hj0 (hts _ u_1788) d_M_decide_65 ?_
        refine me_opt (j := j3) (kp_r hkb hkp e4) ?_
        refine lv_iload hx hb d_M_decide_68 (lv_at hl 5 rfl) ?_
        refine lv_bipush (v := 7) hx hb d_M_decide_70 (by decide) ?_
        obtain ⟨M17, eM17, h⟩ := st_ob h
        refine me_bast eM17 hx hb hK hP hD hwf hS hj3 (kp_z hkb.z hkp.z g5) d_M_decide_72 (fun H locs hP hD hwf hS => ?_)
        have hkp := kp_I eM17 hkp
        refine lv_aload_n hx hb d_M_decide_73 rfl (lv_at hl 1 rfl) ?_
        refine g_M_49 hx hb hts hown hK hP hwf hj0 (hts _ u_1790) d_M_decide_74 ?_
        refine me_opt (j := j11) (kp_r hkb hkp e12) ?_
        refine lv_iload hx hb d_M_decide_77 (lv_at hl 5 rfl) ?_
        refine lv_iload hx hb d_M_decide_79 (lv_at hl 0 rfl) ?_
        obtain ⟨M18, eM18, h⟩ := st_ob h
        refine me_iast eM18 hx hb hK hP hD hwf hS hj11 (kp_z hkb.z hkp.z g13) d_M_decide_81 (fun H locs hP hD hwf hS => ?_)
        have hkp := kp_I eM18 hkp
        refine lv_iinc (v := y4 + 1) (lv' := [(4, .int (y4 + 1)), (5, .int v14), (0, .ref (ad 1 j0)), (1, .int x1), (2, .int x2), (3, .int x3)]) hx hb d_M_decide_82 hl (k := 5) rfl (by rfl) (by decide) rfl (fun ls hl => ?_)
        refine lv_goto (tgt := 6) hx hb d_M_decide_85 (by decide) ?_
        exact ih M18 (y4 + 1) _ _ _ h hwf hkp hP hD hS (lv_sub hl [2, 3, 4, 5, 0] rfl)
      have h := if_f c10 h
      refine lv_goto (tgt := 82) hx hb d_M_decide_41 (by decide) ?_
      refine lv_iinc (v := y4 + 1) (lv' := [(4, .int (y4 + 1)), (0, .ref (ad 1 j0)), (1, .int x1), (2, .int x2), (3, .int x3)]) hx hb d_M_decide_82 hl (k := 4) rfl (by rfl) (by decide) rfl (fun ls hl => ?_)
      refine lv_goto (tgt := 6) hx hb d_M_decide_85 (by decide) ?_
      exact ih M (y4 + 1) _ _ _ h hwf hkp hP hD hS (lv_sub hl [1, 2, 3, 4, 0] rfl)
  refine lv_iload_n hx hb d_M_decide_0 rfl (lv_at hl 1 rfl) ?_
  obtain ⟨r19, er19, h⟩ := bd_ob h
  refine me_pani' (r0 := r19) (fg_runS (wc := []) (tc := []) (A2 := A) (As := [.int x1]) (rest := []) ⟨hx, hb, hml, hown, hts⟩ (c_M_rowOf l D r19 x1 er19 _) (by show fg_nm y_M_rowOf 1; decide +kernel) u_2060 u_2061 u_192 u_2062 ⟨Nat.le_of_ble_eq_true rfl, Nat.le_of_ble_eq_true rfl⟩ hX me_P0 (hK.sub (tys' := []) [] rfl) me_D0 rfl hl.1 (Nat.le_of_ble_eq_true rfl) d_M_decide_1 ⟨Nat.le_of_ble_eq_true rfl, Nat.le_of_ble_eq_true rfl⟩) hP hD hK hS hA rfl rfl (fun H locs hw hP hD hS => ?_)
  refine lv_istore (lv' := [(4, .int r19), (0, .ref (ad 1 j0)), (1, .int x1), (2, .int x2), (3, .int x3)]) hx hb d_M_decide_4 hl (by decide) rfl (fun ls hl => ?_)
  exact b_6 _ M0 r19 _ _ _ h hwf hkp hP hD hS (lv_sub hl [1, 2, 3, 4, 0] rfl)
theorem d_M_widen_6 : decode prog_14_method_91_code 6 = .ok (.iload 4, 2) := by decide +kernel
theorem d_M_widen_8 : decode prog_14_method_91_code 8 = .ok (.iload_n 1, 1) := by decide +kernel
theorem d_M_widen_9 : decode prog_14_method_91_code 9 = .ok (.invokestatic 357, 3) := by decide +kernel
theorem d_M_widen_12 : decode prog_14_method_91_code 12 = .ok (.bipush 75, 2) := by decide +kernel
theorem d_M_widen_14 : decode prog_14_method_91_code 14 = .ok (.iadd, 1) := by decide +kernel
theorem d_M_widen_15 : decode prog_14_method_91_code 15 = .ok (.if_icmp .ge 50, 3) := by decide +kernel
theorem d_M_widen_65 : decode prog_14_method_91_code 65 = .ok (.return_, 1) := by decide +kernel
theorem d_M_widen_18 : decode prog_14_method_91_code 18 = .ok (.aload_n 0, 1) := by decide +kernel
theorem d_M_widen_19 : decode prog_14_method_91_code 19 = .ok (.getfield 89, 3) := by decide +kernel
theorem d_M_widen_22 : decode prog_14_method_91_code 22 = .ok (.iload 4, 2) := by decide +kernel
theorem d_M_widen_24 : decode prog_14_method_91_code 24 = .ok (.baload, 1) := by decide +kernel
theorem d_M_widen_25 : decode prog_14_method_91_code 25 = .ok (.iconst 4, 1) := by decide +kernel
theorem d_M_widen_26 : decode prog_14_method_91_code 26 = .ok (.if_icmp .ne 33, 3) := by decide +kernel
theorem d_M_widen_59 : decode prog_14_method_91_code 59 = .ok (.iinc 4 1, 3) := by decide +kernel
theorem d_M_widen_62 : decode prog_14_method_91_code 62 = .ok (.goto (-56), 3) := by decide +kernel
theorem d_M_widen_29 : decode prog_14_method_91_code 29 = .ok (.aload_n 0, 1) := by decide +kernel
theorem d_M_widen_30 : decode prog_14_method_91_code 30 = .ok (.getfield 98, 3) := by decide +kernel
theorem d_M_widen_33 : decode prog_14_method_91_code 33 = .ok (.iload 4, 2) := by decide +kernel
theorem d_M_widen_35 : decode prog_14_method_91_code 35 = .ok (.iaload, 1) := by decide +kernel
theorem d_M_widen_36 : decode prog_14_method_91_code 36 = .ok (.iload_n 2, 1) := by decide +kernel
theorem d_M_widen_37 : decode prog_14_method_91_code 37 = .ok (.if_icmp .ne 22, 3) := by decide +kernel
theorem d_M_widen_40 : decode prog_14_method_91_code 40 = .ok (.aload_n 0, 1) := by decide +kernel
theorem d_M_widen_41 : decode prog_14_method_91_code 41 = .ok (.getfield 101, 3) := by decide +kernel
theorem d_M_widen_44 : decode prog_14_method_91_code 44 = .ok (.iload 4, 2) := by decide +kernel
theorem d_M_widen_46 : decode prog_14_method_91_code 46 = .ok (.iaload, 1) := by decide +kernel
theorem d_M_widen_47 : decode prog_14_method_91_code 47 = .ok (.iload_n 3, 1) := by decide +kernel
theorem d_M_widen_48 : decode prog_14_method_91_code 48 = .ok (.if_icmp .ge 11, 3) := by decide +kernel
theorem d_M_widen_51 : decode prog_14_method_91_code 51 = .ok (.aload_n 0, 1) := by decide +kernel
theorem d_M_widen_52 : decode prog_14_method_91_code 52 = .ok (.getfield 101, 3) := by decide +kernel
theorem d_M_widen_55 : decode prog_14_method_91_code 55 = .ok (.iload 4, 2) := by decide +kernel
theorem d_M_widen_57 : decode prog_14_method_91_code 57 = .ok (.iload_n 3, 1) := by decide +kernel
theorem d_M_widen_58 : decode prog_14_method_91_code 58 = .ok (.iastore, 1) := by decide +kernel
theorem d_M_widen_0 : decode prog_14_method_91_code 0 = .ok (.iload_n 1, 1) := by decide +kernel
theorem d_M_widen_1 : decode prog_14_method_91_code 1 = .ok (.invokestatic 357, 3) := by decide +kernel
theorem d_M_widen_4 : decode prog_14_method_91_code 4 = .ok (.istore 4, 2) := by decide +kernel
abbrev y_M_widen : MethodName := ⟨"FilterGuardModel", "widen", "(III)V"⟩
def rm_M_widen : Room := { frames := 2, cells := 0, slots := 0, locals := 40 }
abbrev q_M_widen (D : va_G) (ad : Nat → Nat → Nat) (ca : Nat → ClassId) (N : Nat → Nat) (M0 MZ : me_M) (A : Nat → Prop) : Array Value → Jvm.State → Outcome → Jvm.State → Prop := va_Qv (fun (_ : Unit) => me_wf N MZ ∧ me_kp M0 MZ) (fg_B D A (fun _ => me_W ad ca MZ) (fun _ => [])) A
set_option maxHeartbeats 4000000 in
set_option maxRecDepth 100000 in
theorem c_M_widen (l : Launch) (D : va_G) (ad : Nat → Nat → Nat) (ca : Nat → ClassId) (N : Nat → Nat) (M0 MZ : me_M) (j0 : Nat) (x1 : Int32) (x2 : Int32) (x3 : Int32) (h : f_M_widen M0 j0 x1 x2 x3 = (some MZ)) (hwf : me_wf N M0) (hj0 : j0 < N 1) (sz : Nat) : Met l y_M_widen (fg_w y_M_widen prog_14_method_91_code 5 none) rm_M_widen (va_Pc [.ref (ad 1 j0), .int x1, .int x2, .int x3] (fz_P D (me_T ca) (me_W ad ca M0) sz)) (q_M_widen D ad ca N M0 MZ (va_A (me_W ad ca M0) sz)) rm_M_widen.cells rm_M_widen.slots (va_A (me_W ad ca M0) sz) := by
  refine fz_enter (fun A => q_M_widen D ad ca N M0 MZ A) (by decide +kernel) (Nat.le_of_ble_eq_true rfl) ?_
  intro p e s m below meth c ls A hx hb hml hown hts hr hlocks hin hP hK hD hS hA hX hl hz
  have hl : lv_has ls 5 [(0, .ref (ad 1 j0)), (1, .int x1), (2, .int x2), (3, .int x3)] := hl
  unfold f_M_widen at h
  have hkp : me_kp M0 M0 := me_kp.rf
  have hkb := hkp
  have b_6 : ∀ (fu : Nat), ∀ (M : me_M) (y4 : Int32) (H : Heap) (locs : List Loc) (ls : Array Slot), f_M_widen_l6 j0 x1 x2 x3 fu M y4 = (some MZ) → me_wf N M → me_kp M0 M → va_P D classes (me_W ad ca M) H → va_D A (me_W ad ca M) → va_S A s.heap H locs → lv_has ls 5 [(0, .ref (ad 1 j0)), (1, .int x1), (2, .int x2), (3, .int x3), (4, .int y4)] → W p l e rm_M_widen s m [.ref (ad 1 j0), .int x1, .int x2, .int x3].toArray below meth c H locs 0 0 (MQ below (q_M_widen D ad ca N M0 MZ A) [.ref (ad 1 j0), .int x1, .int x2, .int x3].toArray s rm_M_widen.cells rm_M_widen.slots A) (F0 m 6 ls []) := by
    intro fu
    induction fu with
    | zero =>
      intro M y4 H locs ls h hwf hkp hP hD hS hl
      cases h
    | succ fu ih =>
      intro M y4 H locs ls h hwf hkp hP hD hS hl
      unfold f_M_widen_l6 at h
      have hkb := hkp
      refine lv_iload hx hb d_M_widen_6 (lv_at hl 4 rfl) ?_
      refine lv_iload_n hx hb d_M_widen_8 rfl (lv_at hl 1 rfl) ?_
      obtain ⟨r1, er1, h⟩ := bd_ob h
      refine me_pani' (r0 := r1) (fg_runS (wc := []) (tc := []) (A2 := A) (As := [.int x1]) (rest := [.int y4]) ⟨hx, hb, hml, hown, hts⟩ (c_M_rowOf l D r1 x1 er1 _) (by show fg_nm y_M_rowOf 1; decide +kernel) u_2060 u_2061 u_192 u_2062 ⟨Nat.le_of_ble_eq_true rfl, Nat.le_of_ble_eq_true rfl⟩ hX me_P0 (hK.sub (tys' := []) [] rfl) me_D0 rfl hl.1 (Nat.le_of_ble_eq_true rfl) d_M_widen_9 ⟨Nat.le_of_ble_eq_true rfl, Nat.le_of_ble_eq_true rfl⟩) hP hD hK hS hA rfl rfl (fun H locs hw hP hD hS => ?_)
      refine lv_bipush (v := 75) hx hb d_M_widen_12 (by decide) ?_
      refine lv_iadd hx hb d_M_widen_14 ?_
      refine lv_icmp_ge (tgt := 65) hx hb d_M_widen_15 (by decide) (fun c2 => ?_) (fun c2 => ?_)
      · have h := if_t c2 h
        exact me_retv (me_kp M0) h hx hb hr hlocks hwf hkp hP hK hD hS d_M_widen_65
      have h := if_f c2 h
      refine lv_aload_n hx hb d_M_widen_18 rfl (lv_at hl 0 rfl) ?_
      refine g_M_47 hx hb hts hown hK hP hwf hj0 (hts _ u_1788) d_M_widen_19 ?_
      obtain ⟨j3, e4, h⟩ := bd_ob h
      have hj3 : j3 < N 14 := (hwf.2.1 1 j0 47 _ e4 (by decide) hj0)
      refine me_opt (j := j3) e4 ?_
      refine lv_iload hx hb d_M_widen_22 (lv_at hl 4 rfl) ?_
      obtain ⟨g5, h⟩ := gd_ob h
      refine me_bald hx hb hK hP hwf hj3 g5 d_M_widen_24 ?_
      refine lv_iconst (v := 4) hx hb d_M_widen_25 (by decide) ?_
      refine lv_icmp_ne (tgt := 59) hx hb d_M_widen_26 (by decide) (fun c6 => ?_) (fun c6 => ?_)
      · have h := if_f c6 h
        refine lv_iinc (v := y4 + 1) (lv' := [(4, .int (y4 + 1)), (0, .ref (ad 1 j0)), (1, .int x1), (2, .int x2), (3, .int x3)]) hx hb d_M_widen_59 hl (k := 4) rfl (by rfl) (by decide) rfl (fun ls hl => ?_)
        refine lv_goto (tgt := 6) hx hb d_M_widen_62 (by decide) ?_
        exact ih M (y4 + 1) _ _ _ h hwf hkp hP hD hS (lv_sub hl [1, 2, 3, 4, 0] rfl)
      have h := if_t c6 h
      refine lv_aload_n hx hb d_M_widen_29 rfl (lv_at hl 0 rfl) ?_
      refine g_M_50 hx hb hts hown hK hP hwf hj0 (hts _ u_1791) d_M_widen_30 ?_
      obtain ⟨j7, e8, h⟩ := bd_ob h
      have hj7 : j7 < N 13 := (hwf.2.1 1 j0 50 _ e8 (by decide) hj0)
      refine me_opt (j := j7) e8 ?_
      refine lv_iload hx hb d_M_widen_33 (lv_at hl 4 rfl) ?_
      obtain ⟨g9, h⟩ := gd_ob h
      refine me_iald hx hb hK hP hwf hj7 g9 d_M_widen_35 ?_
      refine lv_iload_n hx hb d_M_widen_36 rfl (lv_at hl 2 rfl) ?_
      refine lv_icmp_ne (tgt := 59) hx hb d_M_widen_37 (by decide) (fun c10 => ?_) (fun c10 => ?_)
      · have h := if_f c10 h
        refine lv_iinc (v := y4 + 1) (lv' := [(4, .int (y4 + 1)), (0, .ref (ad 1 j0)), (1, .int x1), (2, .int x2), (3, .int x3)]) hx hb d_M_widen_59 hl (k := 4) rfl (by rfl) (by decide) rfl (fun ls hl => ?_)
        refine lv_goto (tgt := 6) hx hb d_M_widen_62 (by decide) ?_
        exact ih M (y4 + 1) _ _ _ h hwf hkp hP hD hS (lv_sub hl [1, 2, 3, 4, 0] rfl)
      have h := if_t c10 h
      refine lv_aload_n hx hb d_M_widen_40 rfl (lv_at hl 0 rfl) ?_
      refine g_M_51 hx hb hts hown hK hP hwf hj0 (hts _ u_1792) d_M_widen_41 ?_
      obtain ⟨j11, e12, h⟩ := bd_ob h
      have hj11 : j11 < N 13 := (hwf.2.1 1 j0 51 _ e12 (by decide) hj0)
      refine me_opt (j := j11) e12 ?_
      refine lv_iload hx hb d_M_widen_44 (lv_at hl 4 rfl) ?_
      obtain ⟨g13, h⟩ := gd_ob h
      refine me_iald hx hb hK hP hwf hj11 g13 d_M_widen_46 ?_
      refine lv_iload_n hx hb d_M_widen_47 rfl (lv_at hl 3 rfl) ?_
      refine lv_icmp_ge (tgt := 59) hx hb d_M_widen_48 (by decide) (fun c14 => ?_) (fun c14 => ?_)
      · have h := if_t c14 h
        refine lv_iinc (v := y4 + 1) (lv' := [(4, .int (y4 + 1)), (0, .ref (ad 1 j0)), (1, .int x1), (2, .int x2), (3, .int x3)]) hx hb d_M_widen_59 hl (k := 4) rfl (by rfl) (by decide) rfl (fun ls hl => ?_)
        refine lv_goto (tgt := 6) hx hb d_M_widen_62 (by decide) ?_
        exact ih M (y4 + 1) _ _ _ h hwf hkp hP hD hS (lv_sub hl [1, 2, 3, 4, 0] rfl)
      have h := if_f c14 h
      refine lv_aload_n hx hb d_M_widen_51 rfl (lv_at hl 0 rfl) ?_
      refine g_M_51 hx hb hts hown hK hP hwf hj0 (hts _ u_1792) d_M_widen_52 ?_
      refine me_opt (j := j11) e12 ?_
      refine lv_iload hx hb d_M_widen_55 (lv_at hl 4 rfl) ?_
      refine lv_iload_n hx hb d_M_widen_57 rfl (lv_at hl 3 rfl) ?_
      obtain ⟨M15, eM15, h⟩ := st_ob h
      refine me_iast eM15 hx hb hK hP hD hwf hS hj11 g13 d_M_widen_58 (fun H locs hP hD hwf hS => ?_)
      have hkp := kp_I eM15 hkp
      refine lv_iinc (v := y4 + 1) (lv' := [(4, .int (y4 + 1)), (0, .ref (ad 1 j0)), (1, .int x1), (2, .int x2), (3, .int x3)]) hx hb d_M_widen_59 hl (k := 4) rfl (by rfl) (by decide) rfl (fun ls hl => ?_)
      refine lv_goto (tgt := 6) hx hb d_M_widen_62 (by decide) ?_
      exact ih M15 (y4 + 1) _ _ _ h hwf hkp hP hD hS (lv_sub hl [1, 2, 3, 4, 0] rfl)
  refine lv_iload_n hx hb d_M_widen_0 rfl (lv_at hl 1 rfl) ?_
  obtain ⟨r16, er16, h⟩ := bd_ob h
  refine me_pani' (r0 := r16) (fg_runS (wc := []) (tc := []) (A2 := A) (As := [.int x1]) (rest := []) ⟨hx, hb, hml, hown, hts⟩ (c_M_rowOf l D r16 x1 er16 _) (by show fg_nm y_M_rowOf 1; decide +kernel) u_2060 u_2061 u_192 u_2062 ⟨Nat.le_of_ble_eq_true rfl, Nat.le_of_ble_eq_true rfl⟩ hX me_P0 (hK.sub (tys' := []) [] rfl) me_D0 rfl hl.1 (Nat.le_of_ble_eq_true rfl) d_M_widen_1 ⟨Nat.le_of_ble_eq_true rfl, Nat.le_of_ble_eq_true rfl⟩) hP hD hK hS hA rfl rfl (fun H locs hw hP hD hS => ?_)
  refine lv_istore (lv' := [(4, .int r16), (0, .ref (ad 1 j0)), (1, .int x1), (2, .int x2), (3, .int x3)]) hx hb d_M_widen_4 hl (by decide) rfl (fun ls hl => ?_)
  exact b_6 _ M0 r16 _ _ _ h hwf hkp hP hD hS (lv_sub hl [1, 2, 3, 4, 0] rfl)
theorem d_M_isZero_0 : decode prog_14_method_92_code 0 = .ok (.aload_n 0, 1) := by decide +kernel
theorem d_M_isZero_1 : decode prog_14_method_92_code 1 = .ok (.iload_n 1, 1) := by decide +kernel
theorem d_M_isZero_2 : decode prog_14_method_92_code 2 = .ok (.invokevirtual 378, 3) := by decide +kernel
theorem d_M_isZero_5 : decode prog_14_method_92_code 5 = .ok (.ifCond .eq 26, 3) := by decide +kernel
theorem d_M_isZero_31 : decode prog_14_method_92_code 31 = .ok (.iconst 0, 1) := by decide +kernel
theorem d_M_isZero_32 : decode prog_14_method_92_code 32 = .ok (.ireturn, 1) := by decide +kernel
theorem d_M_isZero_8 : decode prog_14_method_92_code 8 = .ok (.aload_n 0, 1) := by decide +kernel
theorem d_M_isZero_9 : decode prog_14_method_92_code 9 = .ok (.iload_n 1, 1) := by decide +kernel
theorem d_M_isZero_10 : decode prog_14_method_92_code 10 = .ok (.invokevirtual 192, 3) := by decide +kernel
theorem d_M_isZero_13 : decode prog_14_method_92_code 13 = .ok (.ifCond .eq 18, 3) := by decide +kernel
theorem d_M_isZero_16 : decode prog_14_method_92_code 16 = .ok (.aload_n 0, 1) := by decide +kernel
theorem d_M_isZero_17 : decode prog_14_method_92_code 17 = .ok (.getfield 104, 3) := by decide +kernel
theorem d_M_isZero_20 : decode prog_14_method_92_code 20 = .ok (.iload_n 1, 1) := by decide +kernel
theorem d_M_isZero_21 : decode prog_14_method_92_code 21 = .ok (.laload, 1) := by decide +kernel
theorem d_M_isZero_22 : decode prog_14_method_92_code 22 = .ok (.lconst 0, 1) := by decide +kernel
theorem d_M_isZero_23 : decode prog_14_method_92_code 23 = .ok (.lcmp, 1) := by decide +kernel
theorem d_M_isZero_24 : decode prog_14_method_92_code 24 = .ok (.ifCond .ne 7, 3) := by decide +kernel
theorem d_M_isZero_27 : decode prog_14_method_92_code 27 = .ok (.iconst 1, 1) := by decide +kernel
theorem d_M_isZero_28 : decode prog_14_method_92_code 28 = .ok (.goto 4, 3) := by decide +kernel
abbrev y_M_isZero : MethodName := ⟨"FilterGuardModel", "isZero", "(I)Z"⟩
def rm_M_isZero : Room := { frames := 2, cells := 0, slots := 0, locals := 41 }
abbrev q_M_isZero (D : va_G) (ad : Nat → Nat → Nat) (ca : Nat → ClassId) (N : Nat → Nat) (M0 MZ : me_M) (RZ : Int32) (A : Nat → Prop) : Array Value → Jvm.State → Outcome → Jvm.State → Prop := va_Qi (fun r (_ : Unit) => r = RZ ∧ me_wf N MZ ∧ me_kp M0 MZ ∧ (RZ = 1 ∨ RZ = 0)) (fg_B D A (fun _ => me_W ad ca MZ) (fun _ => [])) A
set_option maxHeartbeats 4000000 in
set_option maxRecDepth 100000 in
theorem c_M_isZero (l : Launch) (D : va_G) (ad : Nat → Nat → Nat) (ca : Nat → ClassId) (N : Nat → Nat) (M0 MZ : me_M) (RZ : Int32) (j0 : Nat) (x1 : Int32) (h : f_M_isZero M0 j0 x1 = (some (MZ, RZ))) (hwf : me_wf N M0) (hj0 : j0 < N 1) (sz : Nat) : Met l y_M_isZero (fg_w y_M_isZero prog_14_method_92_code 2 (some .boolean)) rm_M_isZero (va_Pc [.ref (ad 1 j0), .int x1] (fz_P D (me_T ca) (me_W ad ca M0) sz)) (q_M_isZero D ad ca N M0 MZ RZ (va_A (me_W ad ca M0) sz)) rm_M_isZero.cells rm_M_isZero.slots (va_A (me_W ad ca M0) sz) := by
  refine fz_enter (fun A => q_M_isZero D ad ca N M0 MZ RZ A) (by decide +kernel) (Nat.le_of_ble_eq_true rfl) ?_
  intro p e s m below meth c ls A hx hb hml hown hts hr hlocks hin hP hK hD hS hA hX hl hz
  have hl : lv_has ls 2 [(0, .ref (ad 1 j0)), (1, .int x1)] := hl
  unfold f_M_isZero at h
  have hkp : me_kp M0 M0 := me_kp.rf
  have hkb := hkp
  refine lv_aload_n hx hb d_M_isZero_0 rfl (lv_at hl 0 rfl) ?_
  refine lv_iload_n hx hb d_M_isZero_1 rfl (lv_at hl 1 rfl) ?_
  obtain ⟨M1, r2, eM1, h⟩ := b2_ob h
  refine me_theni0 (M1 := M1) (me_runV (C := "FilterGuardModel") (As := [.int x1]) (rest := []) ⟨hx, hb, hml, hown, hts⟩ (c_M_isNumber l D ad ca N M0 M1 r2 j0 x1 eM1 hwf hj0 _) rfl (by show fg_nm y_M_isNumber 1; decide +kernel) u_2187 u_2189 u_121 u_192 u_2190 ⟨Nat.le_of_ble_eq_true rfl, Nat.le_of_ble_eq_true rfl⟩ hX hz hK hP hD hwf hS hA hj0 (by decide) rfl rfl rfl hl.1 (Nat.le_of_ble_eq_true rfl) d_M_isZero_2 ⟨Nat.le_of_ble_eq_true rfl, Nat.le_of_ble_eq_true rfl⟩) hP hD hK hS hA rfl rfl (fun H locs hw hP hD hS => ?_)
  obtain ⟨hwf, hk9, zr2⟩ := hw
  have hkp := hkp.tr hk9
  refine lv_if_eq (tgt := 31) hx hb d_M_isZero_5 (by decide) (fun c3 => ?_) (fun c3 => ?_)
  · have h := if_t c3 h
    refine lv_iconst (v := 0) hx hb d_M_isZero_31 (by decide) ?_
    exact me_retz (me_kp M0) h (by decide) hx hb hr hlocks hwf hkp hP hK hD hS d_M_isZero_32
  have h := if_f c3 h
  refine lv_aload_n hx hb d_M_isZero_8 rfl (lv_at hl 0 rfl) ?_
  refine lv_iload_n hx hb d_M_isZero_9 rfl (lv_at hl 1 rfl) ?_
  obtain ⟨M4, r5, eM4, h⟩ := b2_ob h
  refine me_theni0 (M1 := M4) (me_runV (C := "FilterGuardModel") (As := [.int x1]) (rest := []) ⟨hx, hb, hml, hown, hts⟩ (c_M_isExact l D ad ca N M1 M4 r5 j0 x1 eM4 hwf hj0 _) rfl (by show fg_nm y_M_isExact 1; decide +kernel) u_2251 u_2253 u_136 u_192 u_2254 ⟨Nat.le_of_ble_eq_true rfl, Nat.le_of_ble_eq_true rfl⟩ hX hz hK hP hD hwf hS hA hj0 (by decide) rfl rfl rfl hl.1 (Nat.le_of_ble_eq_true rfl) d_M_isZero_10 ⟨Nat.le_of_ble_eq_true rfl, Nat.le_of_ble_eq_true rfl⟩) hP hD hK hS hA rfl rfl (fun H locs hw hP hD hS => ?_)
  obtain ⟨hwf, hk9, zr5⟩ := hw
  have hkp := hkp.tr hk9
  refine lv_if_eq (tgt := 31) hx hb d_M_isZero_13 (by decide) (fun c6 => ?_) (fun c6 => ?_)
  · have h := if_t c6 h
    refine lv_iconst (v := 0) hx hb d_M_isZero_31 (by decide) ?_
    exact me_retz (me_kp M0) h (by decide) hx hb hr hlocks hwf hkp hP hK hD hS d_M_isZero_32
  have h := if_f c6 h
  refine lv_aload_n hx hb d_M_isZero_16 rfl (lv_at hl 0 rfl) ?_
  refine g_M_52 hx hb hts hown hK hP hwf hj0 (hts _ u_1793) d_M_isZero_17 ?_
  obtain ⟨j7, e8, h⟩ := bd_ob h
  have hj7 : j7 < N 16 := (hwf.2.1 1 j0 52 _ (kp_r hkb hkp e8) (by decide) hj0)
  refine me_opt (j := j7) (kp_r hkb hkp e8) ?_
  refine lv_iload_n hx hb d_M_isZero_20 rfl (lv_at hl 1 rfl) ?_
  obtain ⟨g9, h⟩ := gd_ob h
  refine me_lald hx hb hK hP hwf hj7 (kp_z hkb.z hkp.z g9) d_M_isZero_21 ?_
  refine lv_lconst (v := 0) hx hb d_M_isZero_22 (by decide) ?_
  refine W.lcmp hx hb d_M_isZero_23 ?_
  refine lv_if_ne (tgt := 31) hx hb d_M_isZero_24 (by decide) (fun c10 => ?_) (fun c10 => ?_)
  · have h := if_f (fun z => c10 ((lg_cmp_eq _ _).mpr z)) h
    refine lv_iconst (v := 0) hx hb d_M_isZero_31 (by decide) ?_
    exact me_retz (me_kp M0) h (by decide) hx hb hr hlocks hwf hkp hP hK hD hS d_M_isZero_32
  have h := if_t ((lg_cmp_eq _ _).mp c10) h
  refine lv_iconst (v := 1) hx hb d_M_isZero_27 (by decide) ?_
  refine lv_goto (tgt := 32) hx hb d_M_isZero_28 (by decide) ?_
  exact me_retz (me_kp M0) h (by decide) hx hb hr hlocks hwf hkp hP hK hD hS d_M_isZero_32
theorem d_M_numbers_229 : decode prog_14_method_94_code 229 = .ok (.aload_n 0, 1) := by decide +kernel
theorem d_M_numbers_230 : decode prog_14_method_94_code 230 = .ok (.iload_n 1, 1) := by decide +kernel
theorem d_M_numbers_231 : decode prog_14_method_94_code 231 = .ok (.iload 6, 2) := by decide +kernel
theorem d_M_numbers_233 : decode prog_14_method_94_code 233 = .ok (.iload 7, 2) := by decide +kernel
theorem d_M_numbers_235 : decode prog_14_method_94_code 235 = .ok (.iload 4, 2) := by decide +kernel
theorem d_M_numbers_237 : decode prog_14_method_94_code 237 = .ok (.invokevirtual 477, 3) := by decide +kernel
theorem u_2226 : Cond.methodLink "FilterGuardModel" 477 ⟨"FilterGuardModel", "holds", "(IIIZ)Z"⟩ ∈ fg_g := fg_in (List.mem_of_getElem? (i := 2226) (by decide +kernel)) rfl
theorem u_2229 : Cond.code ⟨"FilterGuardModel", "holds", "(IIIZ)Z"⟩ prog_14_method_42_code 9 (some .boolean) ∈ fg_g := fg_in (List.mem_of_getElem? (i := 2229) (by decide +kernel)) rfl
theorem u_2228 : Cond.instanceMethod ⟨"FilterGuardModel", "holds", "(IIIZ)Z"⟩ ∈ fg_g := fg_in (List.mem_of_getElem? (i := 2228) (by decide +kernel)) rfl
theorem u_130 : Cond.selects "FilterGuardModel" ⟨"FilterGuardModel", "holds", "(IIIZ)Z"⟩ ⟨"FilterGuardModel", "holds", "(IIIZ)Z"⟩ ∈ fg_g := fg_in (List.mem_of_getElem? (i := 130) (by decide +kernel)) rfl
theorem d_M_numbers_240 : decode prog_14_method_94_code 240 = .ok (.istore 8, 2) := by decide +kernel
theorem d_M_numbers_242 : decode prog_14_method_94_code 242 = .ok (.aload_n 0, 1) := by decide +kernel
theorem d_M_numbers_243 : decode prog_14_method_94_code 243 = .ok (.iload_n 1, 1) := by decide +kernel
theorem d_M_numbers_244 : decode prog_14_method_94_code 244 = .ok (.invokestatic 481, 3) := by decide +kernel
theorem u_2270 : Cond.methodLink "FilterGuardModel" 481 ⟨"FilterGuardModel", "contrary", "(I)I"⟩ ∈ fg_g := fg_in (List.mem_of_getElem? (i := 2270) (by decide +kernel)) rfl
theorem u_2272 : Cond.code ⟨"FilterGuardModel", "contrary", "(I)I"⟩ prog_14_method_89_code 1 (some .int) ∈ fg_g := fg_in (List.mem_of_getElem? (i := 2272) (by decide +kernel)) rfl
theorem u_2271 : Cond.static ⟨"FilterGuardModel", "contrary", "(I)I"⟩ ∈ fg_g := fg_in (List.mem_of_getElem? (i := 2271) (by decide +kernel)) rfl
theorem d_M_numbers_247 : decode prog_14_method_94_code 247 = .ok (.iload_n 2, 1) := by decide +kernel
theorem d_M_numbers_248 : decode prog_14_method_94_code 248 = .ok (.iload_n 3, 1) := by decide +kernel
theorem d_M_numbers_249 : decode prog_14_method_94_code 249 = .ok (.iload 4, 2) := by decide +kernel
theorem d_M_numbers_251 : decode prog_14_method_94_code 251 = .ok (.invokevirtual 477, 3) := by decide +kernel
theorem d_M_numbers_254 : decode prog_14_method_94_code 254 = .ok (.istore 9, 2) := by decide +kernel
theorem d_M_numbers_256 : decode prog_14_method_94_code 256 = .ok (.aload_n 0, 1) := by decide +kernel
theorem d_M_numbers_257 : decode prog_14_method_94_code 257 = .ok (.iload 8, 2) := by decide +kernel
theorem d_M_numbers_259 : decode prog_14_method_94_code 259 = .ok (.ifCond .eq 7, 3) := by decide +kernel
theorem d_M_numbers_266 : decode prog_14_method_94_code 266 = .ok (.iconst 0, 1) := by decide +kernel
theorem d_M_numbers_267 : decode prog_14_method_94_code 267 = .ok (.iload 9, 2) := by decide +kernel
theorem d_M_numbers_269 : decode prog_14_method_94_code 269 = .ok (.ifCond .eq 7, 3) := by decide +kernel
theorem d_M_numbers_276 : decode prog_14_method_94_code 276 = .ok (.iconst 0, 1) := by decide +kernel
theorem d_M_numbers_277 : decode prog_14_method_94_code 277 = .ok (.iadd, 1) := by decide +kernel
theorem d_M_numbers_278 : decode prog_14_method_94_code 278 = .ok (.putfield 454, 3) := by decide +kernel
theorem u_1809 : Cond.fieldLink "FilterGuardModel" 454 "FilterGuardModel" "ways" "I" ∈ fg_g := fg_in (List.mem_of_getElem? (i := 1809) (by decide +kernel)) rfl
theorem p_M_68 {p : Program} {l : Launch} {e : Env} {R : Room} {s : Jvm.State} {m : MethodId} {args : Array Value} {below : List Frame} {meth : Method} {c : Code} {H : Heap} {locs : List Loc} {cells slots : Nat} {Q : Jvm.State → Prop} {cc : ByteArray} {pc : Nat} {ls : Array Slot} {rest : List Value} {D : va_G} {A : Nat → Prop} {H0 : Heap} {ad : Nat → Nat → Nat} {ca : Nat → ClassId} {M M1 : me_M} {N : Nat → Nat} {own : String} {index j : Nat} {v : Int32} (he : M1 = wI M 1 j 68 v) (hexec : p.tables.exec = Jvm.exec) (hb : c.code = cc) (hts : ∀ w ∈ fg_g, w.before args s = true) (hown : s.vm.findClass own = some m.cls) (hK : va_K D classes (me_T ca) s) (hP : va_P D classes (me_W ad ca M) H) (hD : va_D A (me_W ad ca M)) (hwf : me_wf N M) (hS : va_S A H0 H locs) (hj : j < N 1) (hlink : (Cond.fieldLink own index "FilterGuardModel" "ways" "I").before args s = true) (hdg : decode cc pc = .ok (.putfield index, 3)) (kk : ∀ (H1 : Heap) (locs1 : List Loc), va_P D classes (me_W ad ca M1) H1 → va_D A (me_W ad ca M1) → me_wf N M1 → va_S A H0 H1 locs1 → W p l e R s m args below meth c H1 locs1 cells slots Q (F0 m (pc + 3) ls rest)) : W p l e R s m args below meth c H locs cells slots Q (F0 m pc ls (.int v :: .ref (ad 1 j) :: rest)) := by
  subst he
  exact me_put (M1 := wI M 1 j 68 v) (k := 1) (f := 68) (C := "FilterGuardModel") (T := F_M) (Nf := 75) hexec hb hts i_M t_M t_M_ok n_M hown hK hP hD hwf hS hj (by decide) rfl (by decide) (by decide) hlink (fun _ h9 => h9) rfl rfl rfl rfl (fun a b h => me_wIE h) (me_fIw (by decide) (by decide)) hdg (fun H1 locs1 a1 a2 a3 => kk H1 locs1 a1 a2 (me_wfI hwf (fun z => absurd z (by decide)) (fun z => absurd z (by decide))) a3)
theorem d_M_numbers_281 : decode prog_14_method_94_code 281 = .ok (.return_, 1) := by decide +kernel
theorem d_M_numbers_272 : decode prog_14_method_94_code 272 = .ok (.iconst 2, 1) := by decide +kernel
theorem d_M_numbers_273 : decode prog_14_method_94_code 273 = .ok (.goto 4, 3) := by decide +kernel
theorem d_M_numbers_262 : decode prog_14_method_94_code 262 = .ok (.iconst 1, 1) := by decide +kernel
theorem d_M_numbers_263 : decode prog_14_method_94_code 263 = .ok (.goto 4, 3) := by decide +kernel
theorem d_M_numbers_210 : decode prog_14_method_94_code 210 = .ok (.istore 7, 2) := by decide +kernel
theorem d_M_numbers_212 : decode prog_14_method_94_code 212 = .ok (.iload_n 3, 1) := by decide +kernel
theorem d_M_numbers_213 : decode prog_14_method_94_code 213 = .ok (.sipush 30078, 3) := by decide +kernel
theorem d_M_numbers_216 : decode prog_14_method_94_code 216 = .ok (.if_icmp .ne 13, 3) := by decide +kernel
theorem d_M_numbers_219 : decode prog_14_method_94_code 219 = .ok (.aload_n 0, 1) := by decide +kernel
theorem d_M_numbers_220 : decode prog_14_method_94_code 220 = .ok (.sipush 30078, 3) := by decide +kernel
theorem d_M_numbers_223 : decode prog_14_method_94_code 223 = .ok (.sipush 30079, 3) := by decide +kernel
theorem d_M_numbers_226 : decode prog_14_method_94_code 226 = .ok (.invokevirtual 208, 3) := by decide +kernel
theorem d_M_numbers_145 : decode prog_14_method_94_code 145 = .ok (.aload_n 0, 1) := by decide +kernel
theorem d_M_numbers_146 : decode prog_14_method_94_code 146 = .ok (.getfield 454, 3) := by decide +kernel
theorem g_M_68 {p : Program} {l : Launch} {e : Env} {R : Room} {s : Jvm.State} {m : MethodId} {args : Array Value} {below : List Frame} {meth : Method} {c : Code} {H : Heap} {locs : List Loc} {cells slots : Nat} {Q : Jvm.State → Prop} {cc : ByteArray} {pc : Nat} {ls : Array Slot} {rest : List Value} {D : va_G} {ad : Nat → Nat → Nat} {ca : Nat → ClassId} {M : me_M} {N : Nat → Nat} {own : String} {index j : Nat} (hexec : p.tables.exec = Jvm.exec) (hb : c.code = cc) (hts : ∀ w ∈ fg_g, w.before args s = true) (hown : s.vm.findClass own = some m.cls) (hK : va_K D classes (me_T ca) s) (hP : va_P D classes (me_W ad ca M) H) (hwf : me_wf N M) (hj : j < N 1) (hlink : (Cond.fieldLink own index "FilterGuardModel" "ways" "I").before args s = true) (hdg : decode cc pc = .ok (.getfield index, 3)) (kk : W p l e R s m args below meth c H locs cells slots Q (F0 m (pc + 3) ls (.int (mI M 1 j 68) :: rest))) : W p l e R s m args below meth c H locs cells slots Q (F0 m pc ls (.ref (ad 1 j) :: rest)) := me_get (k := 1) (f := 68) (C := "FilterGuardModel") (T := F_M) (Nf := 75) hexec hb hts i_M hown hK hP hwf hj (by decide) rfl (by decide) (by decide) hlink (fun _ h9 => h9) hdg kk
theorem d_M_numbers_149 : decode prog_14_method_94_code 149 = .ok (.iconst 2, 1) := by decide +kernel
theorem d_M_numbers_150 : decode prog_14_method_94_code 150 = .ok (.if_icmp .ne 17, 3) := by decide +kernel
theorem d_M_numbers_167 : decode prog_14_method_94_code 167 = .ok (.return_, 1) := by decide +kernel
theorem d_M_numbers_153 : decode prog_14_method_94_code 153 = .ok (.aload_n 0, 1) := by decide +kernel
theorem d_M_numbers_154 : decode prog_14_method_94_code 154 = .ok (.iload_n 1, 1) := by decide +kernel
theorem d_M_numbers_155 : decode prog_14_method_94_code 155 = .ok (.invokestatic 481, 3) := by decide +kernel
theorem d_M_numbers_158 : decode prog_14_method_94_code 158 = .ok (.iload_n 2, 1) := by decide +kernel
theorem d_M_numbers_159 : decode prog_14_method_94_code 159 = .ok (.iload_n 3, 1) := by decide +kernel
theorem d_M_numbers_160 : decode prog_14_method_94_code 160 = .ok (.iload 4, 2) := by decide +kernel
theorem d_M_numbers_162 : decode prog_14_method_94_code 162 = .ok (.invokevirtual 477, 3) := by decide +kernel
theorem d_M_numbers_165 : decode prog_14_method_94_code 165 = .ok (.istore 7, 2) := by decide +kernel
theorem d_M_numbers_122 : decode prog_14_method_94_code 122 = .ok (.iadd, 1) := by decide +kernel
theorem d_M_numbers_123 : decode prog_14_method_94_code 123 = .ok (.putfield 454, 3) := by decide +kernel
theorem d_M_numbers_126 : decode prog_14_method_94_code 126 = .ok (.aload_n 0, 1) := by decide +kernel
theorem d_M_numbers_127 : decode prog_14_method_94_code 127 = .ok (.getfield 454, 3) := by decide +kernel
theorem d_M_numbers_130 : decode prog_14_method_94_code 130 = .ok (.iconst 1, 1) := by decide +kernel
theorem d_M_numbers_131 : decode prog_14_method_94_code 131 = .ok (.if_icmp .ne 14, 3) := by decide +kernel
theorem d_M_numbers_134 : decode prog_14_method_94_code 134 = .ok (.aload_n 0, 1) := by decide +kernel
theorem d_M_numbers_135 : decode prog_14_method_94_code 135 = .ok (.iload_n 1, 1) := by decide +kernel
theorem d_M_numbers_136 : decode prog_14_method_94_code 136 = .ok (.iload_n 2, 1) := by decide +kernel
theorem d_M_numbers_137 : decode prog_14_method_94_code 137 = .ok (.iload_n 3, 1) := by decide +kernel
theorem d_M_numbers_138 : decode prog_14_method_94_code 138 = .ok (.iload 4, 2) := by decide +kernel
theorem d_M_numbers_140 : decode prog_14_method_94_code 140 = .ok (.invokevirtual 477, 3) := by decide +kernel
theorem d_M_numbers_143 : decode prog_14_method_94_code 143 = .ok (.istore 6, 2) := by decide +kernel
theorem d_M_numbers_112 : decode prog_14_method_94_code 112 = .ok (.iload 7, 2) := by decide +kernel
theorem d_M_numbers_114 : decode prog_14_method_94_code 114 = .ok (.ifCond .eq 7, 3) := by decide +kernel
theorem d_M_numbers_121 : decode prog_14_method_94_code 121 = .ok (.iconst 0, 1) := by decide +kernel
theorem d_M_numbers_117 : decode prog_14_method_94_code 117 = .ok (.iconst 2, 1) := by decide +kernel
theorem d_M_numbers_118 : decode prog_14_method_94_code 118 = .ok (.goto 4, 3) := by decide +kernel
theorem d_M_numbers_99 : decode prog_14_method_94_code 99 = .ok (.istore 7, 2) := by decide +kernel
theorem d_M_numbers_101 : decode prog_14_method_94_code 101 = .ok (.aload_n 0, 1) := by decide +kernel
theorem d_M_numbers_102 : decode prog_14_method_94_code 102 = .ok (.iload 6, 2) := by decide +kernel
theorem d_M_numbers_104 : decode prog_14_method_94_code 104 = .ok (.ifCond .eq 7, 3) := by decide +kernel
theorem d_M_numbers_111 : decode prog_14_method_94_code 111 = .ok (.iconst 0, 1) := by decide +kernel
theorem d_M_numbers_107 : decode prog_14_method_94_code 107 = .ok (.iconst 1, 1) := by decide +kernel
theorem d_M_numbers_108 : decode prog_14_method_94_code 108 = .ok (.goto 4, 3) := by decide +kernel
theorem d_M_numbers_94 : decode prog_14_method_94_code 94 = .ok (.iconst 1, 1) := by decide +kernel
theorem d_M_numbers_95 : decode prog_14_method_94_code 95 = .ok (.goto 4, 3) := by decide +kernel
theorem d_M_numbers_52 : decode prog_14_method_94_code 52 = .ok (.istore 6, 2) := by decide +kernel
theorem d_M_numbers_54 : decode prog_14_method_94_code 54 = .ok (.aload_n 0, 1) := by decide +kernel
theorem d_M_numbers_55 : decode prog_14_method_94_code 55 = .ok (.iload_n 2, 1) := by decide +kernel
theorem d_M_numbers_56 : decode prog_14_method_94_code 56 = .ok (.sipush 30079, 3) := by decide +kernel
theorem d_M_numbers_59 : decode prog_14_method_94_code 59 = .ok (.invokevirtual 208, 3) := by decide +kernel
theorem d_M_numbers_62 : decode prog_14_method_94_code 62 = .ok (.aload_n 0, 1) := by decide +kernel
theorem d_M_numbers_63 : decode prog_14_method_94_code 63 = .ok (.iload_n 3, 1) := by decide +kernel
theorem d_M_numbers_64 : decode prog_14_method_94_code 64 = .ok (.sipush 30080, 3) := by decide +kernel
theorem d_M_numbers_67 : decode prog_14_method_94_code 67 = .ok (.invokevirtual 208, 3) := by decide +kernel
theorem d_M_numbers_70 : decode prog_14_method_94_code 70 = .ok (.iload_n 2, 1) := by decide +kernel
theorem d_M_numbers_71 : decode prog_14_method_94_code 71 = .ok (.iload_n 3, 1) := by decide +kernel
theorem d_M_numbers_72 : decode prog_14_method_94_code 72 = .ok (.if_icmp .eq 22, 3) := by decide +kernel
theorem d_M_numbers_75 : decode prog_14_method_94_code 75 = .ok (.aload_n 0, 1) := by decide +kernel
theorem d_M_numbers_76 : decode prog_14_method_94_code 76 = .ok (.iload_n 1, 1) := by decide +kernel
theorem d_M_numbers_77 : decode prog_14_method_94_code 77 = .ok (.invokestatic 481, 3) := by decide +kernel
theorem d_M_numbers_80 : decode prog_14_method_94_code 80 = .ok (.sipush 30079, 3) := by decide +kernel
theorem d_M_numbers_83 : decode prog_14_method_94_code 83 = .ok (.sipush 30080, 3) := by decide +kernel
theorem d_M_numbers_86 : decode prog_14_method_94_code 86 = .ok (.iload 4, 2) := by decide +kernel
theorem d_M_numbers_88 : decode prog_14_method_94_code 88 = .ok (.invokevirtual 477, 3) := by decide +kernel
theorem d_M_numbers_91 : decode prog_14_method_94_code 91 = .ok (.ifCond .eq 7, 3) := by decide +kernel
theorem d_M_numbers_98 : decode prog_14_method_94_code 98 = .ok (.iconst 0, 1) := by decide +kernel
theorem d_M_numbers_47 : decode prog_14_method_94_code 47 = .ok (.iconst 1, 1) := by decide +kernel
theorem d_M_numbers_48 : decode prog_14_method_94_code 48 = .ok (.goto 4, 3) := by decide +kernel
theorem d_M_numbers_0 : decode prog_14_method_94_code 0 = .ok (.aload_n 0, 1) := by decide +kernel
theorem d_M_numbers_1 : decode prog_14_method_94_code 1 = .ok (.getfield 457, 3) := by decide +kernel
theorem u_1803 : Cond.fieldLink "FilterGuardModel" 457 "FilterGuardModel" "waiting" "I" ∈ fg_g := fg_in (List.mem_of_getElem? (i := 1803) (by decide +kernel)) rfl
theorem g_M_62 {p : Program} {l : Launch} {e : Env} {R : Room} {s : Jvm.State} {m : MethodId} {args : Array Value} {below : List Frame} {meth : Method} {c : Code} {H : Heap} {locs : List Loc} {cells slots : Nat} {Q : Jvm.State → Prop} {cc : ByteArray} {pc : Nat} {ls : Array Slot} {rest : List Value} {D : va_G} {ad : Nat → Nat → Nat} {ca : Nat → ClassId} {M : me_M} {N : Nat → Nat} {own : String} {index j : Nat} (hexec : p.tables.exec = Jvm.exec) (hb : c.code = cc) (hts : ∀ w ∈ fg_g, w.before args s = true) (hown : s.vm.findClass own = some m.cls) (hK : va_K D classes (me_T ca) s) (hP : va_P D classes (me_W ad ca M) H) (hwf : me_wf N M) (hj : j < N 1) (hlink : (Cond.fieldLink own index "FilterGuardModel" "waiting" "I").before args s = true) (hdg : decode cc pc = .ok (.getfield index, 3)) (kk : W p l e R s m args below meth c H locs cells slots Q (F0 m (pc + 3) ls (.int (mI M 1 j 62) :: rest))) : W p l e R s m args below meth c H locs cells slots Q (F0 m pc ls (.ref (ad 1 j) :: rest)) := me_get (k := 1) (f := 62) (C := "FilterGuardModel") (T := F_M) (Nf := 75) hexec hb hts i_M hown hK hP hwf hj (by decide) rfl (by decide) (by decide) hlink (fun _ h9 => h9) hdg kk
theorem d_M_numbers_4 : decode prog_14_method_94_code 4 = .ok (.sipush 200, 3) := by decide +kernel
theorem d_M_numbers_7 : decode prog_14_method_94_code 7 = .ok (.if_icmp .ne 161, 3) := by decide +kernel
theorem d_M_numbers_168 : decode prog_14_method_94_code 168 = .ok (.aload_n 0, 1) := by decide +kernel
theorem d_M_numbers_169 : decode prog_14_method_94_code 169 = .ok (.iconst 0, 1) := by decide +kernel
theorem d_M_numbers_170 : decode prog_14_method_94_code 170 = .ok (.iload 5, 2) := by decide +kernel
theorem d_M_numbers_172 : decode prog_14_method_94_code 172 = .ok (.invokevirtual 467, 3) := by decide +kernel
theorem u_2088 : Cond.methodLink "FilterGuardModel" 467 ⟨"FilterGuardModel", "copyState", "(II)V"⟩ ∈ fg_g := fg_in (List.mem_of_getElem? (i := 2088) (by decide +kernel)) rfl
theorem u_2091 : Cond.code ⟨"FilterGuardModel", "copyState", "(II)V"⟩ prog_14_method_60_code 4 none ∈ fg_g := fg_in (List.mem_of_getElem? (i := 2091) (by decide +kernel)) rfl
theorem u_2090 : Cond.instanceMethod ⟨"FilterGuardModel", "copyState", "(II)V"⟩ ∈ fg_g := fg_in (List.mem_of_getElem? (i := 2090) (by decide +kernel)) rfl
theorem u_101 : Cond.selects "FilterGuardModel" ⟨"FilterGuardModel", "copyState", "(II)V"⟩ ⟨"FilterGuardModel", "copyState", "(II)V"⟩ ∈ fg_g := fg_in (List.mem_of_getElem? (i := 101) (by decide +kernel)) rfl
theorem d_M_numbers_175 : decode prog_14_method_94_code 175 = .ok (.iload_n 2, 1) := by decide +kernel
theorem d_M_numbers_176 : decode prog_14_method_94_code 176 = .ok (.iload_n 3, 1) := by decide +kernel
theorem d_M_numbers_177 : decode prog_14_method_94_code 177 = .ok (.if_icmp .ne 4, 3) := by decide +kernel
theorem d_M_numbers_181 : decode prog_14_method_94_code 181 = .ok (.iload 5, 2) := by decide +kernel
theorem d_M_numbers_183 : decode prog_14_method_94_code 183 = .ok (.invokestatic 357, 3) := by decide +kernel
theorem d_M_numbers_186 : decode prog_14_method_94_code 186 = .ok (.iload_n 2, 1) := by decide +kernel
theorem d_M_numbers_187 : decode prog_14_method_94_code 187 = .ok (.iadd, 1) := by decide +kernel
theorem d_M_numbers_188 : decode prog_14_method_94_code 188 = .ok (.istore 6, 2) := by decide +kernel
theorem d_M_numbers_190 : decode prog_14_method_94_code 190 = .ok (.iload_n 3, 1) := by decide +kernel
theorem d_M_numbers_191 : decode prog_14_method_94_code 191 = .ok (.sipush 30078, 3) := by decide +kernel
theorem d_M_numbers_194 : decode prog_14_method_94_code 194 = .ok (.if_icmp .ne 9, 3) := by decide +kernel
theorem d_M_numbers_203 : decode prog_14_method_94_code 203 = .ok (.iload 5, 2) := by decide +kernel
theorem d_M_numbers_205 : decode prog_14_method_94_code 205 = .ok (.invokestatic 357, 3) := by decide +kernel
theorem d_M_numbers_208 : decode prog_14_method_94_code 208 = .ok (.iload_n 3, 1) := by decide +kernel
theorem d_M_numbers_209 : decode prog_14_method_94_code 209 = .ok (.iadd, 1) := by decide +kernel
theorem d_M_numbers_197 : decode prog_14_method_94_code 197 = .ok (.sipush 30079, 3) := by decide +kernel
theorem d_M_numbers_200 : decode prog_14_method_94_code 200 = .ok (.goto 10, 3) := by decide +kernel
theorem d_M_numbers_180 : decode prog_14_method_94_code 180 = .ok (.return_, 1) := by decide +kernel
theorem d_M_numbers_10 : decode prog_14_method_94_code 10 = .ok (.aload_n 0, 1) := by decide +kernel
theorem d_M_numbers_11 : decode prog_14_method_94_code 11 = .ok (.iload_n 2, 1) := by decide +kernel
theorem d_M_numbers_12 : decode prog_14_method_94_code 12 = .ok (.sipush 30079, 3) := by decide +kernel
theorem d_M_numbers_15 : decode prog_14_method_94_code 15 = .ok (.invokevirtual 208, 3) := by decide +kernel
theorem d_M_numbers_18 : decode prog_14_method_94_code 18 = .ok (.aload_n 0, 1) := by decide +kernel
theorem d_M_numbers_19 : decode prog_14_method_94_code 19 = .ok (.iload_n 3, 1) := by decide +kernel
theorem d_M_numbers_20 : decode prog_14_method_94_code 20 = .ok (.sipush 30080, 3) := by decide +kernel
theorem d_M_numbers_23 : decode prog_14_method_94_code 23 = .ok (.invokevirtual 208, 3) := by decide +kernel
theorem d_M_numbers_26 : decode prog_14_method_94_code 26 = .ok (.iload_n 2, 1) := by decide +kernel
theorem d_M_numbers_27 : decode prog_14_method_94_code 27 = .ok (.iload_n 3, 1) := by decide +kernel
theorem d_M_numbers_28 : decode prog_14_method_94_code 28 = .ok (.if_icmp .eq 19, 3) := by decide +kernel
theorem d_M_numbers_31 : decode prog_14_method_94_code 31 = .ok (.aload_n 0, 1) := by decide +kernel
theorem d_M_numbers_32 : decode prog_14_method_94_code 32 = .ok (.iload_n 1, 1) := by decide +kernel
theorem d_M_numbers_33 : decode prog_14_method_94_code 33 = .ok (.sipush 30079, 3) := by decide +kernel
theorem d_M_numbers_36 : decode prog_14_method_94_code 36 = .ok (.sipush 30080, 3) := by decide +kernel
theorem d_M_numbers_39 : decode prog_14_method_94_code 39 = .ok (.iload 4, 2) := by decide +kernel
theorem d_M_numbers_41 : decode prog_14_method_94_code 41 = .ok (.invokevirtual 477, 3) := by decide +kernel
theorem d_M_numbers_44 : decode prog_14_method_94_code 44 = .ok (.ifCond .eq 7, 3) := by decide +kernel
theorem d_M_numbers_51 : decode prog_14_method_94_code 51 = .ok (.iconst 0, 1) := by decide +kernel
abbrev y_M_numbers : MethodName := ⟨"FilterGuardModel", "numbers", "(IIIZI)V"⟩
def rm_M_numbers : Room := { frames := 7, cells := 0, slots := 0, locals := 169 }
abbrev q_M_numbers (D : va_G) (ad : Nat → Nat → Nat) (ca : Nat → ClassId) (N : Nat → Nat) (M0 MZ : me_M) (A : Nat → Prop) : Array Value → Jvm.State → Outcome → Jvm.State → Prop := va_Qv (fun (_ : Unit) => me_wf N MZ ∧ me_kp M0 MZ) (fg_B D A (fun _ => me_W ad ca MZ) (fun _ => [])) A
set_option maxHeartbeats 4000000 in
set_option maxRecDepth 100000 in
theorem c_M_numbers (l : Launch) (D : va_G) (ad : Nat → Nat → Nat) (ca : Nat → ClassId) (N : Nat → Nat) (M0 MZ : me_M) (j0 : Nat) (x1 : Int32) (x2 : Int32) (x3 : Int32) (x4 : Int32) (x5 : Int32) (h : f_M_numbers M0 j0 x1 x2 x3 x4 x5 = (some MZ)) (hwf : me_wf N M0) (hj0 : j0 < N 1) (zx4 : x4 = 1 ∨ x4 = 0) (sz : Nat) : Met l y_M_numbers (fg_w y_M_numbers prog_14_method_94_code 10 none) rm_M_numbers (va_Pc [.ref (ad 1 j0), .int x1, .int x2, .int x3, .int x4, .int x5] (fz_P D (me_T ca) (me_W ad ca M0) sz)) (q_M_numbers D ad ca N M0 MZ (va_A (me_W ad ca M0) sz)) rm_M_numbers.cells rm_M_numbers.slots (va_A (me_W ad ca M0) sz) := by
  refine fz_enter (fun A => q_M_numbers D ad ca N M0 MZ A) (by decide +kernel) (Nat.le_of_ble_eq_true rfl) ?_
  intro p e s m below meth c ls A hx hb hml hown hts hr hlocks hin hP hK hD hS hA hX hl hz
  have hl : lv_has ls 10 [(0, .ref (ad 1 j0)), (1, .int x1), (2, .int x2), (3, .int x3), (4, .int x4), (5, .int x5)] := hl
  unfold f_M_numbers at h
  have hkp : me_kp M0 M0 := me_kp.rf
  have hkb := hkp
  have b_229 : ∀ (M : me_M) (y6 : Int32) (y7 : Int32) (H : Heap) (locs : List Loc) (ls : Array Slot), f_M_numbers_b229 j0 x1 x2 x3 x4 M y6 y7 = (some MZ) → me_wf N M → me_kp M0 M → va_P D classes (me_W ad ca M) H → va_D A (me_W ad ca M) → va_S A s.heap H locs → lv_has ls 10 [(0, .ref (ad 1 j0)), (1, .int x1), (2, .int x2), (3, .int x3), (4, .int x4), (6, .int y6), (7, .int y7)] → W p l e rm_M_numbers s m [.ref (ad 1 j0), .int x1, .int x2, .int x3, .int x4, .int x5].toArray below meth c H locs 0 0 (MQ below (q_M_numbers D ad ca N M0 MZ A) [.ref (ad 1 j0), .int x1, .int x2, .int x3, .int x4, .int x5].toArray s rm_M_numbers.cells rm_M_numbers.slots A) (F0 m 229 ls []) := by
    intro M y6 y7 H locs ls h hwf hkp hP hD hS hl
    unfold f_M_numbers_b229 at h
    have hkb := hkp
    refine lv_aload_n hx hb d_M_numbers_229 rfl (lv_at hl 0 rfl) ?_
    refine lv_iload_n hx hb d_M_numbers_230 rfl (lv_at hl 1 rfl) ?_
    refine lv_iload hx hb d_M_numbers_231 (lv_at hl 5 rfl) ?_
    refine lv_iload hx hb d_M_numbers_233 (lv_at hl 6 rfl) ?_
    refine lv_iload hx hb d_M_numbers_235 (lv_at hl 4 rfl) ?_
    obtain ⟨M1, r2, eM1, h⟩ := b2_ob h
    refine me_theni0 (M1 := M1) (me_runV (C := "FilterGuardModel") (As := [.int x1, .int y6, .int y7, .int x4]) (rest := []) ⟨hx, hb, hml, hown, hts⟩ (c_M_holds l D ad ca N M M1 r2 j0 x1 y6 y7 x4 eM1 hwf hj0 zx4 _) rfl (by show fg_nm y_M_holds 4; decide +kernel) u_2226 u_2228 u_130 u_192 u_2229 ⟨Nat.le_of_ble_eq_true rfl, Nat.le_of_ble_eq_true rfl⟩ hX hz hK hP hD hwf hS hA hj0 (by decide) rfl rfl rfl hl.1 (Nat.le_of_ble_eq_true rfl) d_M_numbers_237 ⟨Nat.le_of_ble_eq_true rfl, Nat.le_of_ble_eq_true rfl⟩) hP hD hK hS hA rfl rfl (fun H locs hw hP hD hS => ?_)
    obtain ⟨hwf, hk9, zr2⟩ := hw
    have hkp := hkp.tr hk9
    refine lv_istore (lv' := [(8, .int r2), (0, .ref (ad 1 j0)), (1, .int x1), (2, .int x2), (3, .int x3), (4, .int x4), (6, .int y6), (7, .int y7)]) hx hb d_M_numbers_240 hl (by decide) rfl (fun ls hl => ?_)
    refine lv_aload_n hx hb d_M_numbers_242 rfl (lv_at hl 1 rfl) ?_
    refine lv_iload_n hx hb d_M_numbers_243 rfl (lv_at hl 2 rfl) ?_
    obtain ⟨r3, er3, h⟩ := bd_ob h
    refine me_pani' (r0 := r3) (fg_runS (wc := []) (tc := []) (A2 := A) (As := [.int x1]) (rest := [.ref (ad 1 j0)]) ⟨hx, hb, hml, hown, hts⟩ (c_M_contrary l D r3 x1 er3 _) (by show fg_nm y_M_contrary 1; decide +kernel) u_2270 u_2271 u_192 u_2272 ⟨Nat.le_of_ble_eq_true rfl, Nat.le_of_ble_eq_true rfl⟩ hX me_P0 (hK.sub (tys' := []) [] rfl) me_D0 rfl hl.1 (Nat.le_of_ble_eq_true rfl) d_M_numbers_244 ⟨Nat.le_of_ble_eq_true rfl, Nat.le_of_ble_eq_true rfl⟩) hP hD hK hS hA rfl rfl (fun H locs hw hP hD hS => ?_)
    refine lv_iload_n hx hb d_M_numbers_247 rfl (lv_at hl 3 rfl) ?_
    refine lv_iload_n hx hb d_M_numbers_248 rfl (lv_at hl 4 rfl) ?_
    refine lv_iload hx hb d_M_numbers_249 (lv_at hl 5 rfl) ?_
    obtain ⟨M4, r5, eM4, h⟩ := b2_ob h
    refine me_theni0 (M1 := M4) (me_runV (C := "FilterGuardModel") (As := [.int r3, .int x2, .int x3, .int x4]) (rest := []) ⟨hx, hb, hml, hown, hts⟩ (c_M_holds l D ad ca N M1 M4 r5 j0 r3 x2 x3 x4 eM4 hwf hj0 zx4 _) rfl (by show fg_nm y_M_holds 4; decide +kernel) u_2226 u_2228 u_130 u_192 u_2229 ⟨Nat.le_of_ble_eq_true rfl, Nat.le_of_ble_eq_true rfl⟩ hX hz hK hP hD hwf hS hA hj0 (by decide) rfl rfl rfl hl.1 (Nat.le_of_ble_eq_true rfl) d_M_numbers_251 ⟨Nat.le_of_ble_eq_true rfl, Nat.le_of_ble_eq_true rfl⟩) hP hD hK hS hA rfl rfl (fun H locs hw hP hD hS => ?_)
    obtain ⟨hwf, hk9, zr5⟩ := hw
    have hkp := hkp.tr hk9
    refine lv_istore (lv' := [(9, .int r5), (8, .int r2), (0, .ref (ad 1 j0)), (1, .int x1), (2, .int x2), (3, .int x3), (4, .int x4), (6, .int y6), (7, .int y7)]) hx hb d_M_numbers_254 hl (by decide) rfl (fun ls hl => ?_)
    refine lv_aload_n hx hb d_M_numbers_256 rfl (lv_at hl 2 rfl) ?_
    refine lv_iload hx hb d_M_numbers_257 (lv_at hl 1 rfl) ?_
    refine lv_if_eq (tgt := 266) hx hb d_M_numbers_259 (by decide) (fun c6 => ?_) (fun c6 => ?_)
    · have h := if_t c6 h
      refine lv_iconst (v := 0) hx hb d_M_numbers_266 (by decide) ?_
      refine lv_iload hx hb d_M_numbers_267 (lv_at hl 0 rfl) ?_
      refine lv_if_eq (tgt := 276) hx hb d_M_numbers_269 (by decide) (fun c7 => ?_) (fun c7 => ?_)
      · have h := if_t c7 h
        refine lv_iconst (v := 0) hx hb d_M_numbers_276 (by decide) ?_
        refine lv_iadd hx hb d_M_numbers_277 ?_
        refine fg_topi (y := 0) (by decide) ?_
        obtain ⟨M8, eM8, h⟩ := st_ob h
        refine p_M_68 eM8 hx hb hts hown hK hP hD hwf hS hj0 (hts _ u_1809) d_M_numbers_278 (fun H locs hP hD hwf hS => ?_)
        have hkp := kp_I eM8 hkp
        exact me_retv (me_kp M0) h hx hb hr hlocks hwf hkp hP hK hD hS d_M_numbers_281
      have h := if_f c7 h
      refine lv_iconst (v := 2) hx hb d_M_numbers_272 (by decide) ?_
      refine lv_goto (tgt := 277) hx hb d_M_numbers_273 (by decide) ?_
      refine lv_iadd hx hb d_M_numbers_277 ?_
      refine fg_topi (y := 2) (by decide) ?_
      obtain ⟨M9, eM9, h⟩ := st_ob h
      refine p_M_68 eM9 hx hb hts hown hK hP hD hwf hS hj0 (hts _ u_1809) d_M_numbers_278 (fun H locs hP hD hwf hS => ?_)
      have hkp := kp_I eM9 hkp
      exact me_retv (me_kp M0) h hx hb hr hlocks hwf hkp hP hK hD hS d_M_numbers_281
    have h := if_f c6 h
    refine lv_iconst (v := 1) hx hb d_M_numbers_262 (by decide) ?_
    refine lv_goto (tgt := 267) hx hb d_M_numbers_263 (by decide) ?_
    refine lv_iload hx hb d_M_numbers_267 (lv_at hl 0 rfl) ?_
    refine lv_if_eq (tgt := 276) hx hb d_M_numbers_269 (by decide) (fun c10 => ?_) (fun c10 => ?_)
    · have h := if_t c10 h
      refine lv_iconst (v := 0) hx hb d_M_numbers_276 (by decide) ?_
      refine lv_iadd hx hb d_M_numbers_277 ?_
      refine fg_topi (y := 1) (by decide) ?_
      obtain ⟨M11, eM11, h⟩ := st_ob h
      refine p_M_68 eM11 hx hb hts hown hK hP hD hwf hS hj0 (hts _ u_1809) d_M_numbers_278 (fun H locs hP hD hwf hS => ?_)
      have hkp := kp_I eM11 hkp
      exact me_retv (me_kp M0) h hx hb hr hlocks hwf hkp hP hK hD hS d_M_numbers_281
    have h := if_f c10 h
    refine lv_iconst (v := 2) hx hb d_M_numbers_272 (by decide) ?_
    refine lv_goto (tgt := 277) hx hb d_M_numbers_273 (by decide) ?_
    refine lv_iadd hx hb d_M_numbers_277 ?_
    refine fg_topi (y := 3) (by decide) ?_
    obtain ⟨M12, eM12, h⟩ := st_ob h
    refine p_M_68 eM12 hx hb hts hown hK hP hD hwf hS hj0 (hts _ u_1809) d_M_numbers_278 (fun H locs hP hD hwf hS => ?_)
    have hkp := kp_I eM12 hkp
    exact me_retv (me_kp M0) h hx hb hr hlocks hwf hkp hP hK hD hS d_M_numbers_281
  have b_210 : ∀ (M : me_M) (y6 : Int32) (s0 : Int32) (H : Heap) (locs : List Loc) (ls : Array Slot), f_M_numbers_b210 j0 x1 x2 x3 x4 M y6 s0 = (some MZ) → me_wf N M → me_kp M0 M → va_P D classes (me_W ad ca M) H → va_D A (me_W ad ca M) → va_S A s.heap H locs → lv_has ls 10 [(0, .ref (ad 1 j0)), (1, .int x1), (2, .int x2), (3, .int x3), (4, .int x4), (6, .int y6)] → W p l e rm_M_numbers s m [.ref (ad 1 j0), .int x1, .int x2, .int x3, .int x4, .int x5].toArray below meth c H locs 0 0 (MQ below (q_M_numbers D ad ca N M0 MZ A) [.ref (ad 1 j0), .int x1, .int x2, .int x3, .int x4, .int x5].toArray s rm_M_numbers.cells rm_M_numbers.slots A) (F0 m 210 ls [.int s0]) := by
    intro M y6 s0 H locs ls h hwf hkp hP hD hS hl
    unfold f_M_numbers_b210 at h
    have hkb := hkp
    refine lv_istore (lv' := [(7, .int s0), (0, .ref (ad 1 j0)), (1, .int x1), (2, .int x2), (3, .int x3), (4, .int x4), (6, .int y6)]) hx hb d_M_numbers_210 hl (by decide) rfl (fun ls hl => ?_)
    refine lv_iload_n hx hb d_M_numbers_212 rfl (lv_at hl 4 rfl) ?_
    refine lv_sipush (v := 30078) hx hb d_M_numbers_213 (by decide) ?_
    refine lv_icmp_ne (tgt := 229) hx hb d_M_numbers_216 (by decide) (fun c13 => ?_) (fun c13 => ?_)
    · have h := if_f c13 h
      exact b_229 M y6 s0 _ _ _ h hwf hkp hP hD hS (lv_sub hl [1, 2, 3, 4, 5, 6, 0] rfl)
    have h := if_t c13 h
    refine lv_aload_n hx hb d_M_numbers_219 rfl (lv_at hl 1 rfl) ?_
    refine lv_sipush (v := 30078) hx hb d_M_numbers_220 (by decide) ?_
    refine lv_sipush (v := 30079) hx hb d_M_numbers_223 (by decide) ?_
    obtain ⟨M14, eM14, h⟩ := bd_ob h
    refine me_thenv0 (M1 := M14) (me_runV (C := "FilterGuardModel") (As := [.int 30078, .int 30079]) (rest := []) ⟨hx, hb, hml, hown, hts⟩ (c_M_copyNumber l D ad ca N M M14 j0 (30078 : Int32) (30079 : Int32) eM14 hwf hj0 _) rfl (by show fg_nm y_M_copyNumber 2; decide +kernel) u_2096 u_2098 u_103 u_192 u_2099 ⟨Nat.le_of_ble_eq_true rfl, Nat.le_of_ble_eq_true rfl⟩ hX hz hK hP hD hwf hS hA hj0 (by decide) rfl rfl rfl hl.1 (Nat.le_of_ble_eq_true rfl) d_M_numbers_226 ⟨Nat.le_of_ble_eq_true rfl, Nat.le_of_ble_eq_true rfl⟩) hP hD hK hS hA rfl rfl (fun H locs hw hP hD hS => ?_)
    obtain ⟨hwf, hk9⟩ := hw
    have hkp := hkp.tr hk9
    exact b_229 M14 y6 s0 _ _ _ h hwf hkp hP hD hS (lv_sub hl [1, 2, 3, 4, 5, 6, 0] rfl)
  have b_145 : ∀ (M : me_M) (H : Heap) (locs : List Loc) (ls : Array Slot), f_M_numbers_b145 j0 x1 x2 x3 x4 M = (some MZ) → me_wf N M → me_kp M0 M → va_P D classes (me_W ad ca M) H → va_D A (me_W ad ca M) → va_S A s.heap H locs → lv_has ls 10 [(0, .ref (ad 1 j0)), (1, .int x1), (2, .int x2), (3, .int x3), (4, .int x4)] → W p l e rm_M_numbers s m [.ref (ad 1 j0), .int x1, .int x2, .int x3, .int x4, .int x5].toArray below meth c H locs 0 0 (MQ below (q_M_numbers D ad ca N M0 MZ A) [.ref (ad 1 j0), .int x1, .int x2, .int x3, .int x4, .int x5].toArray s rm_M_numbers.cells rm_M_numbers.slots A) (F0 m 145 ls []) := by
    intro M H locs ls h hwf hkp hP hD hS hl
    unfold f_M_numbers_b145 at h
    have hkb := hkp
    refine lv_aload_n hx hb d_M_numbers_145 rfl (lv_at hl 0 rfl) ?_
    refine g_M_68 hx hb hts hown hK hP hwf hj0 (hts _ u_1809) d_M_numbers_146 ?_
    refine lv_iconst (v := 2) hx hb d_M_numbers_149 (by decide) ?_
    refine lv_icmp_ne (tgt := 167) hx hb d_M_numbers_150 (by decide) (fun c15 => ?_) (fun c15 => ?_)
    · have h := if_f c15 h
      exact me_retv (me_kp M0) h hx hb hr hlocks hwf hkp hP hK hD hS d_M_numbers_167
    have h := if_t c15 h
    refine lv_aload_n hx hb d_M_numbers_153 rfl (lv_at hl 0 rfl) ?_
    refine lv_iload_n hx hb d_M_numbers_154 rfl (lv_at hl 1 rfl) ?_
    obtain ⟨r16, er16, h⟩ := bd_ob h
    refine me_pani' (r0 := r16) (fg_runS (wc := []) (tc := []) (A2 := A) (As := [.int x1]) (rest := [.ref (ad 1 j0)]) ⟨hx, hb, hml, hown, hts⟩ (c_M_contrary l D r16 x1 er16 _) (by show fg_nm y_M_contrary 1; decide +kernel) u_2270 u_2271 u_192 u_2272 ⟨Nat.le_of_ble_eq_true rfl, Nat.le_of_ble_eq_true rfl⟩ hX me_P0 (hK.sub (tys' := []) [] rfl) me_D0 rfl hl.1 (Nat.le_of_ble_eq_true rfl) d_M_numbers_155 ⟨Nat.le_of_ble_eq_true rfl, Nat.le_of_ble_eq_true rfl⟩) hP hD hK hS hA rfl rfl (fun H locs hw hP hD hS => ?_)
    refine lv_iload_n hx hb d_M_numbers_158 rfl (lv_at hl 2 rfl) ?_
    refine lv_iload_n hx hb d_M_numbers_159 rfl (lv_at hl 3 rfl) ?_
    refine lv_iload hx hb d_M_numbers_160 (lv_at hl 4 rfl) ?_
    obtain ⟨M17, r18, eM17, h⟩ := b2_ob h
    refine me_theni0 (M1 := M17) (me_runV (C := "FilterGuardModel") (As := [.int r16, .int x2, .int x3, .int x4]) (rest := []) ⟨hx, hb, hml, hown, hts⟩ (c_M_holds l D ad ca N M M17 r18 j0 r16 x2 x3 x4 eM17 hwf hj0 zx4 _) rfl (by show fg_nm y_M_holds 4; decide +kernel) u_2226 u_2228 u_130 u_192 u_2229 ⟨Nat.le_of_ble_eq_true rfl, Nat.le_of_ble_eq_true rfl⟩ hX hz hK hP hD hwf hS hA hj0 (by decide) rfl rfl rfl hl.1 (Nat.le_of_ble_eq_true rfl) d_M_numbers_162 ⟨Nat.le_of_ble_eq_true rfl, Nat.le_of_ble_eq_true rfl⟩) hP hD hK hS hA rfl rfl (fun H locs hw hP hD hS => ?_)
    obtain ⟨hwf, hk9, zr18⟩ := hw
    have hkp := hkp.tr hk9
    refine lv_istore (lv' := [(7, .int r18), (0, .ref (ad 1 j0)), (1, .int x1), (2, .int x2), (3, .int x3), (4, .int x4)]) hx hb d_M_numbers_165 hl (by decide) rfl (fun ls hl => ?_)
    exact me_retv (me_kp M0) h hx hb hr hlocks hwf hkp hP hK hD hS d_M_numbers_167
  have b_122 : ∀ (M : me_M) (s0 : Int32) (s1 : Int32) (s2 : Nat) (H : Heap) (locs : List Loc) (ls : Array Slot), f_M_numbers_b122 j0 x1 x2 x3 x4 M s0 s1 s2 = (some MZ) → (s1 = 1 ∨ s1 = 0) → (s2 < N 1) → me_wf N M → me_kp M0 M → va_P D classes (me_W ad ca M) H → va_D A (me_W ad ca M) → va_S A s.heap H locs → lv_has ls 10 [(0, .ref (ad 1 j0)), (1, .int x1), (2, .int x2), (3, .int x3), (4, .int x4)] → W p l e rm_M_numbers s m [.ref (ad 1 j0), .int x1, .int x2, .int x3, .int x4, .int x5].toArray below meth c H locs 0 0 (MQ below (q_M_numbers D ad ca N M0 MZ A) [.ref (ad 1 j0), .int x1, .int x2, .int x3, .int x4, .int x5].toArray s rm_M_numbers.cells rm_M_numbers.slots A) (F0 m 122 ls [.int s0, .int s1, .ref (ad 1 s2)]) := by
    intro M s0 s1 s2 H locs ls h zs1 hs2 hwf hkp hP hD hS hl
    unfold f_M_numbers_b122 at h
    have hkb := hkp
    refine lv_iadd hx hb d_M_numbers_122 ?_
    obtain ⟨M19, eM19, h⟩ := st_ob h
    refine p_M_68 eM19 hx hb hts hown hK hP hD hwf hS hs2 (hts _ u_1809) d_M_numbers_123 (fun H locs hP hD hwf hS => ?_)
    have hkp := kp_I eM19 hkp
    refine lv_aload_n hx hb d_M_numbers_126 rfl (lv_at hl 0 rfl) ?_
    refine g_M_68 hx hb hts hown hK hP hwf hj0 (hts _ u_1809) d_M_numbers_127 ?_
    refine lv_iconst (v := 1) hx hb d_M_numbers_130 (by decide) ?_
    refine lv_icmp_ne (tgt := 145) hx hb d_M_numbers_131 (by decide) (fun c20 => ?_) (fun c20 => ?_)
    · have h := if_f c20 h
      exact b_145 M19 _ _ _ h hwf hkp hP hD hS (lv_sub hl [0, 1, 2, 3, 4] rfl)
    have h := if_t c20 h
    refine lv_aload_n hx hb d_M_numbers_134 rfl (lv_at hl 0 rfl) ?_
    refine lv_iload_n hx hb d_M_numbers_135 rfl (lv_at hl 1 rfl) ?_
    refine lv_iload_n hx hb d_M_numbers_136 rfl (lv_at hl 2 rfl) ?_
    refine lv_iload_n hx hb d_M_numbers_137 rfl (lv_at hl 3 rfl) ?_
    refine lv_iload hx hb d_M_numbers_138 (lv_at hl 4 rfl) ?_
    obtain ⟨M21, r22, eM21, h⟩ := b2_ob h
    refine me_theni0 (M1 := M21) (me_runV (C := "FilterGuardModel") (As := [.int x1, .int x2, .int x3, .int x4]) (rest := []) ⟨hx, hb, hml, hown, hts⟩ (c_M_holds l D ad ca N M19 M21 r22 j0 x1 x2 x3 x4 eM21 hwf hj0 zx4 _) rfl (by show fg_nm y_M_holds 4; decide +kernel) u_2226 u_2228 u_130 u_192 u_2229 ⟨Nat.le_of_ble_eq_true rfl, Nat.le_of_ble_eq_true rfl⟩ hX hz hK hP hD hwf hS hA hj0 (by decide) rfl rfl rfl hl.1 (Nat.le_of_ble_eq_true rfl) d_M_numbers_140 ⟨Nat.le_of_ble_eq_true rfl, Nat.le_of_ble_eq_true rfl⟩) hP hD hK hS hA rfl rfl (fun H locs hw hP hD hS => ?_)
    obtain ⟨hwf, hk9, zr22⟩ := hw
    have hkp := hkp.tr hk9
    refine lv_istore (lv' := [(6, .int r22), (0, .ref (ad 1 j0)), (1, .int x1), (2, .int x2), (3, .int x3), (4, .int x4)]) hx hb d_M_numbers_143 hl (by decide) rfl (fun ls hl => ?_)
    exact b_145 M21 _ _ _ h hwf hkp hP hD hS (lv_sub hl [1, 2, 3, 4, 5] rfl)
  have b_112 : ∀ (M : me_M) (y7 : Int32) (s0 : Int32) (s1 : Nat) (H : Heap) (locs : List Loc) (ls : Array Slot), f_M_numbers_b112 j0 x1 x2 x3 x4 M y7 s0 s1 = (some MZ) → (y7 = 1 ∨ y7 = 0) → (s0 = 1 ∨ s0 = 0) → (s1 < N 1) → me_wf N M → me_kp M0 M → va_P D classes (me_W ad ca M) H → va_D A (me_W ad ca M) → va_S A s.heap H locs → lv_has ls 10 [(0, .ref (ad 1 j0)), (1, .int x1), (2, .int x2), (3, .int x3), (4, .int x4), (7, .int y7)] → W p l e rm_M_numbers s m [.ref (ad 1 j0), .int x1, .int x2, .int x3, .int x4, .int x5].toArray below meth c H locs 0 0 (MQ below (q_M_numbers D ad ca N M0 MZ A) [.ref (ad 1 j0), .int x1, .int x2, .int x3, .int x4, .int x5].toArray s rm_M_numbers.cells rm_M_numbers.slots A) (F0 m 112 ls [.int s0, .ref (ad 1 s1)]) := by
    intro M y7 s0 s1 H locs ls h zy7 zs0 hs1 hwf hkp hP hD hS hl
    unfold f_M_numbers_b112 at h
    have hkb := hkp
    refine lv_iload hx hb d_M_numbers_112 (lv_at hl 5 rfl) ?_
    refine lv_if_eq (tgt := 121) hx hb d_M_numbers_114 (by decide) (fun c23 => ?_) (fun c23 => ?_)
    · have h := if_t c23 h
      refine lv_iconst (v := 0) hx hb d_M_numbers_121 (by decide) ?_
      exact b_122 M (0 : Int32) s0 s1 _ _ _ h zs0 hs1 hwf hkp hP hD hS (lv_sub hl [0, 1, 2, 3, 4] rfl)
    have h := if_f c23 h
    refine lv_iconst (v := 2) hx hb d_M_numbers_117 (by decide) ?_
    refine lv_goto (tgt := 122) hx hb d_M_numbers_118 (by decide) ?_
    exact b_122 M (2 : Int32) s0 s1 _ _ _ h zs0 hs1 hwf hkp hP hD hS (lv_sub hl [0, 1, 2, 3, 4] rfl)
  have b_99 : ∀ (M : me_M) (y6 : Int32) (s0 : Int32) (H : Heap) (locs : List Loc) (ls : Array Slot), f_M_numbers_b99 j0 x1 x2 x3 x4 M y6 s0 = (some MZ) → (y6 = 1 ∨ y6 = 0) → (s0 = 1 ∨ s0 = 0) → me_wf N M → me_kp M0 M → va_P D classes (me_W ad ca M) H → va_D A (me_W ad ca M) → va_S A s.heap H locs → lv_has ls 10 [(0, .ref (ad 1 j0)), (1, .int x1), (2, .int x2), (3, .int x3), (4, .int x4), (6, .int y6)] → W p l e rm_M_numbers s m [.ref (ad 1 j0), .int x1, .int x2, .int x3, .int x4, .int x5].toArray below meth c H locs 0 0 (MQ below (q_M_numbers D ad ca N M0 MZ A) [.ref (ad 1 j0), .int x1, .int x2, .int x3, .int x4, .int x5].toArray s rm_M_numbers.cells rm_M_numbers.slots A) (F0 m 99 ls [.int s0]) := by
    intro M y6 s0 H locs ls h zy6 zs0 hwf hkp hP hD hS hl
    unfold f_M_numbers_b99 at h
    have hkb := hkp
    refine lv_istore (lv' := [(7, .int s0), (0, .ref (ad 1 j0)), (1, .int x1), (2, .int x2), (3, .int x3), (4, .int x4), (6, .int y6)]) hx hb d_M_numbers_99 hl (by decide) rfl (fun ls hl => ?_)
    refine lv_aload_n hx hb d_M_numbers_101 rfl (lv_at hl 1 rfl) ?_
    refine lv_iload hx hb d_M_numbers_102 (lv_at hl 6 rfl) ?_
    refine lv_if_eq (tgt := 111) hx hb d_M_numbers_104 (by decide) (fun c24 => ?_) (fun c24 => ?_)
    · have h := if_t c24 h
      refine lv_iconst (v := 0) hx hb d_M_numbers_111 (by decide) ?_
      exact b_112 M s0 (0 : Int32) j0 _ _ _ h zs0 (by decide) hj0 hwf hkp hP hD hS (lv_sub hl [1, 2, 3, 4, 5, 0] rfl)
    have h := if_f c24 h
    refine lv_iconst (v := 1) hx hb d_M_numbers_107 (by decide) ?_
    refine lv_goto (tgt := 112) hx hb d_M_numbers_108 (by decide) ?_
    exact b_112 M s0 (1 : Int32) j0 _ _ _ h zs0 (by decide) hj0 hwf hkp hP hD hS (lv_sub hl [1, 2, 3, 4, 5, 0] rfl)
  have b_94 : ∀ (M : me_M) (y6 : Int32) (H : Heap) (locs : List Loc) (ls : Array Slot), f_M_numbers_b94 j0 x1 x2 x3 x4 M y6 = (some MZ) → (y6 = 1 ∨ y6 = 0) → me_wf N M → me_kp M0 M → va_P D classes (me_W ad ca M) H → va_D A (me_W ad ca M) → va_S A s.heap H locs → lv_has ls 10 [(0, .ref (ad 1 j0)), (1, .int x1), (2, .int x2), (3, .int x3), (4, .int x4), (6, .int y6)] → W p l e rm_M_numbers s m [.ref (ad 1 j0), .int x1, .int x2, .int x3, .int x4, .int x5].toArray below meth c H locs 0 0 (MQ below (q_M_numbers D ad ca N M0 MZ A) [.ref (ad 1 j0), .int x1, .int x2, .int x3, .int x4, .int x5].toArray s rm_M_numbers.cells rm_M_numbers.slots A) (F0 m 94 ls []) := by
    intro M y6 H locs ls h zy6 hwf hkp hP hD hS hl
    unfold f_M_numbers_b94 at h
    have hkb := hkp
    refine lv_iconst (v := 1) hx hb d_M_numbers_94 (by decide) ?_
    refine lv_goto (tgt := 99) hx hb d_M_numbers_95 (by decide) ?_
    exact b_99 M y6 (1 : Int32) _ _ _ h zy6 (by decide) hwf hkp hP hD hS (lv_sub hl [0, 1, 2, 3, 4, 5] rfl)
  have b_52 : ∀ (M : me_M) (s0 : Int32) (H : Heap) (locs : List Loc) (ls : Array Slot), f_M_numbers_b52 j0 x1 x2 x3 x4 M s0 = (some MZ) → (s0 = 1 ∨ s0 = 0) → me_wf N M → me_kp M0 M → va_P D classes (me_W ad ca M) H → va_D A (me_W ad ca M) → va_S A s.heap H locs → lv_has ls 10 [(0, .ref (ad 1 j0)), (1, .int x1), (2, .int x2), (3, .int x3), (4, .int x4)] → W p l e rm_M_numbers s m [.ref (ad 1 j0), .int x1, .int x2, .int x3, .int x4, .int x5].toArray below meth c H locs 0 0 (MQ below (q_M_numbers D ad ca N M0 MZ A) [.ref (ad 1 j0), .int x1, .int x2, .int x3, .int x4, .int x5].toArray s rm_M_numbers.cells rm_M_numbers.slots A) (F0 m 52 ls [.int s0]) := by
    intro M s0 H locs ls h zs0 hwf hkp hP hD hS hl
    unfold f_M_numbers_b52 at h
    have hkb := hkp
    refine lv_istore (lv' := [(6, .int s0), (0, .ref (ad 1 j0)), (1, .int x1), (2, .int x2), (3, .int x3), (4, .int x4)]) hx hb d_M_numbers_52 hl (by decide) rfl (fun ls hl => ?_)
    refine lv_aload_n hx hb d_M_numbers_54 rfl (lv_at hl 1 rfl) ?_
    refine lv_iload_n hx hb d_M_numbers_55 rfl (lv_at hl 3 rfl) ?_
    refine lv_sipush (v := 30079) hx hb d_M_numbers_56 (by decide) ?_
    obtain ⟨M25, eM25, h⟩ := bd_ob h
    refine me_thenv0 (M1 := M25) (me_runV (C := "FilterGuardModel") (As := [.int x2, .int 30079]) (rest := []) ⟨hx, hb, hml, hown, hts⟩ (c_M_copyNumber l D ad ca N M M25 j0 x2 (30079 : Int32) eM25 hwf hj0 _) rfl (by show fg_nm y_M_copyNumber 2; decide +kernel) u_2096 u_2098 u_103 u_192 u_2099 ⟨Nat.le_of_ble_eq_true rfl, Nat.le_of_ble_eq_true rfl⟩ hX hz hK hP hD hwf hS hA hj0 (by decide) rfl rfl rfl hl.1 (Nat.le_of_ble_eq_true rfl) d_M_numbers_59 ⟨Nat.le_of_ble_eq_true rfl, Nat.le_of_ble_eq_true rfl⟩) hP hD hK hS hA rfl rfl (fun H locs hw hP hD hS => ?_)
    obtain ⟨hwf, hk9⟩ := hw
    have hkp := hkp.tr hk9
    refine lv_aload_n hx hb d_M_numbers_62 rfl (lv_at hl 1 rfl) ?_
    refine lv_iload_n hx hb d_M_numbers_63 rfl (lv_at hl 4 rfl) ?_
    refine lv_sipush (v := 30080) hx hb d_M_numbers_64 (by decide) ?_
    obtain ⟨M26, eM26, h⟩ := bd_ob h
    refine me_thenv0 (M1 := M26) (me_runV (C := "FilterGuardModel") (As := [.int x3, .int 30080]) (rest := []) ⟨hx, hb, hml, hown, hts⟩ (c_M_copyNumber l D ad ca N M25 M26 j0 x3 (30080 : Int32) eM26 hwf hj0 _) rfl (by show fg_nm y_M_copyNumber 2; decide +kernel) u_2096 u_2098 u_103 u_192 u_2099 ⟨Nat.le_of_ble_eq_true rfl, Nat.le_of_ble_eq_true rfl⟩ hX hz hK hP hD hwf hS hA hj0 (by decide) rfl rfl rfl hl.1 (Nat.le_of_ble_eq_true rfl) d_M_numbers_67 ⟨Nat.le_of_ble_eq_true rfl, Nat.le_of_ble_eq_true rfl⟩) hP hD hK hS hA rfl rfl (fun H locs hw hP hD hS => ?_)
    obtain ⟨hwf, hk9⟩ := hw
    have hkp := hkp.tr hk9
    refine lv_iload_n hx hb d_M_numbers_70 rfl (lv_at hl 3 rfl) ?_
    refine lv_iload_n hx hb d_M_numbers_71 rfl (lv_at hl 4 rfl) ?_
    refine lv_icmp_eq (tgt := 94) hx hb d_M_numbers_72 (by decide) (fun c27 => ?_) (fun c27 => ?_)
    · have h := if_t c27 h
      exact b_94 M26 s0 _ _ _ h zs0 hwf hkp hP hD hS (lv_sub hl [1, 2, 3, 4, 5, 0] rfl)
    have h := if_f c27 h
    refine lv_aload_n hx hb d_M_numbers_75 rfl (lv_at hl 1 rfl) ?_
    refine lv_iload_n hx hb d_M_numbers_76 rfl (lv_at hl 2 rfl) ?_
    obtain ⟨r28, er28, h⟩ := bd_ob h
    refine me_pani' (r0 := r28) (fg_runS (wc := []) (tc := []) (A2 := A) (As := [.int x1]) (rest := [.ref (ad 1 j0)]) ⟨hx, hb, hml, hown, hts⟩ (c_M_contrary l D r28 x1 er28 _) (by show fg_nm y_M_contrary 1; decide +kernel) u_2270 u_2271 u_192 u_2272 ⟨Nat.le_of_ble_eq_true rfl, Nat.le_of_ble_eq_true rfl⟩ hX me_P0 (hK.sub (tys' := []) [] rfl) me_D0 rfl hl.1 (Nat.le_of_ble_eq_true rfl) d_M_numbers_77 ⟨Nat.le_of_ble_eq_true rfl, Nat.le_of_ble_eq_true rfl⟩) hP hD hK hS hA rfl rfl (fun H locs hw hP hD hS => ?_)
    refine lv_sipush (v := 30079) hx hb d_M_numbers_80 (by decide) ?_
    refine lv_sipush (v := 30080) hx hb d_M_numbers_83 (by decide) ?_
    refine lv_iload hx hb d_M_numbers_86 (lv_at hl 5 rfl) ?_
    obtain ⟨M29, r30, eM29, h⟩ := b2_ob h
    refine me_theni0 (M1 := M29) (me_runV (C := "FilterGuardModel") (As := [.int r28, .int 30079, .int 30080, .int x4]) (rest := []) ⟨hx, hb, hml, hown, hts⟩ (c_M_holds l D ad ca N M26 M29 r30 j0 r28 (30079 : Int32) (30080 : Int32) x4 eM29 hwf hj0 zx4 _) rfl (by show fg_nm y_M_holds 4; decide +kernel) u_2226 u_2228 u_130 u_192 u_2229 ⟨Nat.le_of_ble_eq_true rfl, Nat.le_of_ble_eq_true rfl⟩ hX hz hK hP hD hwf hS hA hj0 (by decide) rfl rfl rfl hl.1 (Nat.le_of_ble_eq_true rfl) d_M_numbers_88 ⟨Nat.le_of_ble_eq_true rfl, Nat.le_of_ble_eq_true rfl⟩) hP hD hK hS hA rfl rfl (fun H locs hw hP hD hS => ?_)
    obtain ⟨hwf, hk9, zr30⟩ := hw
    have hkp := hkp.tr hk9
    refine lv_if_eq (tgt := 98) hx hb d_M_numbers_91 (by decide) (fun c31 => ?_) (fun c31 => ?_)
    · have h := if_t c31 h
      refine lv_iconst (v := 0) hx hb d_M_numbers_98 (by decide) ?_
      exact b_99 M29 s0 (0 : Int32) _ _ _ h zs0 (by decide) hwf hkp hP hD hS (lv_sub hl [1, 2, 3, 4, 5, 0] rfl)
    have h := if_f c31 h
    exact b_94 M29 s0 _ _ _ h zs0 hwf hkp hP hD hS (lv_sub hl [1, 2, 3, 4, 5, 0] rfl)
  have b_47 : ∀ (M : me_M) (H : Heap) (locs : List Loc) (ls : Array Slot), f_M_numbers_b47 j0 x1 x2 x3 x4 M = (some MZ) → me_wf N M → me_kp M0 M → va_P D classes (me_W ad ca M) H → va_D A (me_W ad ca M) → va_S A s.heap H locs → lv_has ls 10 [(0, .ref (ad 1 j0)), (1, .int x1), (2, .int x2), (3, .int x3), (4, .int x4)] → W p l e rm_M_numbers s m [.ref (ad 1 j0), .int x1, .int x2, .int x3, .int x4, .int x5].toArray below meth c H locs 0 0 (MQ below (q_M_numbers D ad ca N M0 MZ A) [.ref (ad 1 j0), .int x1, .int x2, .int x3, .int x4, .int x5].toArray s rm_M_numbers.cells rm_M_numbers.slots A) (F0 m 47 ls []) := by
    intro M H locs ls h hwf hkp hP hD hS hl
    unfold f_M_numbers_b47 at h
    have hkb := hkp
    refine lv_iconst (v := 1) hx hb d_M_numbers_47 (by decide) ?_
    refine lv_goto (tgt := 52) hx hb d_M_numbers_48 (by decide) ?_
    exact b_52 M (1 : Int32) _ _ _ h (by decide) hwf hkp hP hD hS (lv_sub hl [0, 1, 2, 3, 4] rfl)
  refine lv_aload_n hx hb d_M_numbers_0 rfl (lv_at hl 0 rfl) ?_
  refine g_M_62 hx hb hts hown hK hP hwf hj0 (hts _ u_1803) d_M_numbers_1 ?_
  refine lv_sipush (v := 200) hx hb d_M_numbers_4 (by decide) ?_
  refine lv_icmp_ne (tgt := 168) hx hb d_M_numbers_7 (by decide) (fun c32 => ?_) (fun c32 => ?_)
  · have h := if_f c32 h
    refine lv_aload_n hx hb d_M_numbers_168 rfl (lv_at hl 0 rfl) ?_
    refine lv_iconst (v := 0) hx hb d_M_numbers_169 (by decide) ?_
    refine lv_iload hx hb d_M_numbers_170 (lv_at hl 5 rfl) ?_
    obtain ⟨M33, eM33, h⟩ := bd_ob h
    refine me_thenv0 (M1 := M33) (me_runV (C := "FilterGuardModel") (As := [.int 0, .int x5]) (rest := []) ⟨hx, hb, hml, hown, hts⟩ (c_M_copyState l D ad ca N M0 M33 j0 (0 : Int32) x5 eM33 hwf hj0 _) rfl (by show fg_nm y_M_copyState 2; decide +kernel) u_2088 u_2090 u_101 u_192 u_2091 ⟨Nat.le_of_ble_eq_true rfl, Nat.le_of_ble_eq_true rfl⟩ hX hz hK hP hD hwf hS hA hj0 (by decide) rfl rfl rfl hl.1 (Nat.le_of_ble_eq_true rfl) d_M_numbers_172 ⟨Nat.le_of_ble_eq_true rfl, Nat.le_of_ble_eq_true rfl⟩) hP hD hK hS hA rfl rfl (fun H locs hw hP hD hS => ?_)
    obtain ⟨hwf, hk9⟩ := hw
    have hkp := hkp.tr hk9
    refine lv_iload_n hx hb d_M_numbers_175 rfl (lv_at hl 2 rfl) ?_
    refine lv_iload_n hx hb d_M_numbers_176 rfl (lv_at hl 3 rfl) ?_
    refine lv_icmp_ne (tgt := 181) hx hb d_M_numbers_177 (by decide) (fun c34 => ?_) (fun c34 => ?_)
    · have h := if_f c34 h
      refine lv_iload hx hb d_M_numbers_181 (lv_at hl 5 rfl) ?_
      obtain ⟨r35, er35, h⟩ := bd_ob h
      refine me_pani' (r0 := r35) (fg_runS (wc := []) (tc := []) (A2 := A) (As := [.int x5]) (rest := []) ⟨hx, hb, hml, hown, hts⟩ (c_M_rowOf l D r35 x5 er35 _) (by show fg_nm y_M_rowOf 1; decide +kernel) u_2060 u_2061 u_192 u_2062 ⟨Nat.le_of_ble_eq_true rfl, Nat.le_of_ble_eq_true rfl⟩ hX me_P0 (hK.sub (tys' := []) [] rfl) me_D0 rfl hl.1 (Nat.le_of_ble_eq_true rfl) d_M_numbers_183 ⟨Nat.le_of_ble_eq_true rfl, Nat.le_of_ble_eq_true rfl⟩) hP hD hK hS hA rfl rfl (fun H locs hw hP hD hS => ?_)
      refine lv_iload_n hx hb d_M_numbers_186 rfl (lv_at hl 2 rfl) ?_
      refine lv_iadd hx hb d_M_numbers_187 ?_
      obtain ⟨v36, ev36, h⟩ := st_ob h
      refine fg_topi (y := v36) ev36.symm ?_
      refine lv_istore (lv' := [(6, .int v36), (0, .ref (ad 1 j0)), (1, .int x1), (2, .int x2), (3, .int x3), (4, .int x4), (5, .int x5)]) hx hb d_M_numbers_188 hl (by decide) rfl (fun ls hl => ?_)
      refine lv_iload_n hx hb d_M_numbers_190 rfl (lv_at hl 4 rfl) ?_
      refine lv_sipush (v := 30078) hx hb d_M_numbers_191 (by decide) ?_
      refine lv_icmp_ne (tgt := 203) hx hb d_M_numbers_194 (by decide) (fun c37 => ?_) (fun c37 => ?_)
      · have h := if_f c37 h
        refine lv_iload hx hb d_M_numbers_203 (lv_at hl 6 rfl) ?_
        obtain ⟨r38, er38, h⟩ := bd_ob h
        refine me_pani' (r0 := r38) (fg_runS (wc := []) (tc := []) (A2 := A) (As := [.int x5]) (rest := []) ⟨hx, hb, hml, hown, hts⟩ (c_M_rowOf l D r38 x5 er38 _) (by show fg_nm y_M_rowOf 1; decide +kernel) u_2060 u_2061 u_192 u_2062 ⟨Nat.le_of_ble_eq_true rfl, Nat.le_of_ble_eq_true rfl⟩ hX me_P0 (hK.sub (tys' := []) [] rfl) me_D0 rfl hl.1 (Nat.le_of_ble_eq_true rfl) d_M_numbers_205 ⟨Nat.le_of_ble_eq_true rfl, Nat.le_of_ble_eq_true rfl⟩) hP hD hK hS hA rfl rfl (fun H locs hw hP hD hS => ?_)
        refine lv_iload_n hx hb d_M_numbers_208 rfl (lv_at hl 4 rfl) ?_
        refine lv_iadd hx hb d_M_numbers_209 ?_
        exact b_210 M33 v36 (r38 + x3) _ _ _ h hwf hkp hP hD hS (lv_sub hl [1, 2, 3, 4, 5, 0] rfl)
      have h := if_t c37 h
      refine lv_sipush (v := 30079) hx hb d_M_numbers_197 (by decide) ?_
      refine lv_goto (tgt := 210) hx hb d_M_numbers_200 (by decide) ?_
      exact b_210 M33 v36 (30079 : Int32) _ _ _ h hwf hkp hP hD hS (lv_sub hl [1, 2, 3, 4, 5, 0] rfl)
    have h := if_t c34 h
    exact me_retv (me_kp M0) h hx hb hr hlocks hwf hkp hP hK hD hS d_M_numbers_180
  have h := if_t c32 h
  refine lv_aload_n hx hb d_M_numbers_10 rfl (lv_at hl 0 rfl) ?_
  refine lv_iload_n hx hb d_M_numbers_11 rfl (lv_at hl 2 rfl) ?_
  refine lv_sipush (v := 30079) hx hb d_M_numbers_12 (by decide) ?_
  obtain ⟨M39, eM39, h⟩ := bd_ob h
  refine me_thenv0 (M1 := M39) (me_runV (C := "FilterGuardModel") (As := [.int x2, .int 30079]) (rest := []) ⟨hx, hb, hml, hown, hts⟩ (c_M_copyNumber l D ad ca N M0 M39 j0 x2 (30079 : Int32) eM39 hwf hj0 _) rfl (by show fg_nm y_M_copyNumber 2; decide +kernel) u_2096 u_2098 u_103 u_192 u_2099 ⟨Nat.le_of_ble_eq_true rfl, Nat.le_of_ble_eq_true rfl⟩ hX hz hK hP hD hwf hS hA hj0 (by decide) rfl rfl rfl hl.1 (Nat.le_of_ble_eq_true rfl) d_M_numbers_15 ⟨Nat.le_of_ble_eq_true rfl, Nat.le_of_ble_eq_true rfl⟩) hP hD hK hS hA rfl rfl (fun H locs hw hP hD hS => ?_)
  obtain ⟨hwf, hk9⟩ := hw
  have hkp := hkp.tr hk9
  refine lv_aload_n hx hb d_M_numbers_18 rfl (lv_at hl 0 rfl) ?_
  refine lv_iload_n hx hb d_M_numbers_19 rfl (lv_at hl 3 rfl) ?_
  refine lv_sipush (v := 30080) hx hb d_M_numbers_20 (by decide) ?_
  obtain ⟨M40, eM40, h⟩ := bd_ob h
  refine me_thenv0 (M1 := M40) (me_runV (C := "FilterGuardModel") (As := [.int x3, .int 30080]) (rest := []) ⟨hx, hb, hml, hown, hts⟩ (c_M_copyNumber l D ad ca N M39 M40 j0 x3 (30080 : Int32) eM40 hwf hj0 _) rfl (by show fg_nm y_M_copyNumber 2; decide +kernel) u_2096 u_2098 u_103 u_192 u_2099 ⟨Nat.le_of_ble_eq_true rfl, Nat.le_of_ble_eq_true rfl⟩ hX hz hK hP hD hwf hS hA hj0 (by decide) rfl rfl rfl hl.1 (Nat.le_of_ble_eq_true rfl) d_M_numbers_23 ⟨Nat.le_of_ble_eq_true rfl, Nat.le_of_ble_eq_true rfl⟩) hP hD hK hS hA rfl rfl (fun H locs hw hP hD hS => ?_)
  obtain ⟨hwf, hk9⟩ := hw
  have hkp := hkp.tr hk9
  refine lv_iload_n hx hb d_M_numbers_26 rfl (lv_at hl 2 rfl) ?_
  refine lv_iload_n hx hb d_M_numbers_27 rfl (lv_at hl 3 rfl) ?_
  refine lv_icmp_eq (tgt := 47) hx hb d_M_numbers_28 (by decide) (fun c41 => ?_) (fun c41 => ?_)
  · have h := if_t c41 h
    exact b_47 M40 _ _ _ h hwf hkp hP hD hS (lv_sub hl [0, 1, 2, 3, 4] rfl)
  have h := if_f c41 h
  refine lv_aload_n hx hb d_M_numbers_31 rfl (lv_at hl 0 rfl) ?_
  refine lv_iload_n hx hb d_M_numbers_32 rfl (lv_at hl 1 rfl) ?_
  refine lv_sipush (v := 30079) hx hb d_M_numbers_33 (by decide) ?_
  refine lv_sipush (v := 30080) hx hb d_M_numbers_36 (by decide) ?_
  refine lv_iload hx hb d_M_numbers_39 (lv_at hl 4 rfl) ?_
  obtain ⟨M42, r43, eM42, h⟩ := b2_ob h
  refine me_theni0 (M1 := M42) (me_runV (C := "FilterGuardModel") (As := [.int x1, .int 30079, .int 30080, .int x4]) (rest := []) ⟨hx, hb, hml, hown, hts⟩ (c_M_holds l D ad ca N M40 M42 r43 j0 x1 (30079 : Int32) (30080 : Int32) x4 eM42 hwf hj0 zx4 _) rfl (by show fg_nm y_M_holds 4; decide +kernel) u_2226 u_2228 u_130 u_192 u_2229 ⟨Nat.le_of_ble_eq_true rfl, Nat.le_of_ble_eq_true rfl⟩ hX hz hK hP hD hwf hS hA hj0 (by decide) rfl rfl rfl hl.1 (Nat.le_of_ble_eq_true rfl) d_M_numbers_41 ⟨Nat.le_of_ble_eq_true rfl, Nat.le_of_ble_eq_true rfl⟩) hP hD hK hS hA rfl rfl (fun H locs hw hP hD hS => ?_)
  obtain ⟨hwf, hk9, zr43⟩ := hw
  have hkp := hkp.tr hk9
  refine lv_if_eq (tgt := 51) hx hb d_M_numbers_44 (by decide) (fun c44 => ?_) (fun c44 => ?_)
  · have h := if_t c44 h
    refine lv_iconst (v := 0) hx hb d_M_numbers_51 (by decide) ?_
    exact b_52 M42 (0 : Int32) _ _ _ h (by decide) hwf hkp hP hD hS (lv_sub hl [0, 1, 2, 3, 4] rfl)
  have h := if_f c44 h
  exact b_47 M42 _ _ _ h hwf hkp hP hD hS (lv_sub hl [0, 1, 2, 3, 4] rfl)
