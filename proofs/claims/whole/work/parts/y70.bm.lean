theorem d_Machine_readBytes_7 : decode prog_7_method_14_code 7 = .ok (.iload 4, 2) := by decide +kernel
theorem d_Machine_readBytes_9 : decode prog_7_method_14_code 9 = .ok (.ifCond .lt 32, 3) := by decide +kernel
theorem d_Machine_readBytes_41 : decode prog_7_method_14_code 41 = .ok (.lload_n 2, 1) := by decide +kernel
theorem d_Machine_readBytes_42 : decode prog_7_method_14_code 42 = .ok (.lreturn, 1) := by decide +kernel
theorem d_Machine_readBytes_12 : decode prog_7_method_14_code 12 = .ok (.lload_n 2, 1) := by decide +kernel
theorem d_Machine_readBytes_13 : decode prog_7_method_14_code 13 = .ok (.bipush 8, 2) := by decide +kernel
theorem d_Machine_readBytes_15 : decode prog_7_method_14_code 15 = .ok (.lshl, 1) := by decide +kernel
theorem d_Machine_readBytes_16 : decode prog_7_method_14_code 16 = .ok (.aload_n 0, 1) := by decide +kernel
theorem d_Machine_readBytes_17 : decode prog_7_method_14_code 17 = .ok (.getfield 51, 3) := by decide +kernel
theorem d_Machine_readBytes_20 : decode prog_7_method_14_code 20 = .ok (.aload_n 0, 1) := by decide +kernel
theorem d_Machine_readBytes_21 : decode prog_7_method_14_code 21 = .ok (.getfield 64, 3) := by decide +kernel
theorem d_Machine_readBytes_24 : decode prog_7_method_14_code 24 = .ok (.iload 4, 2) := by decide +kernel
theorem d_Machine_readBytes_26 : decode prog_7_method_14_code 26 = .ok (.iadd, 1) := by decide +kernel
theorem d_Machine_readBytes_27 : decode prog_7_method_14_code 27 = .ok (.baload, 1) := by decide +kernel
theorem d_Machine_readBytes_28 : decode prog_7_method_14_code 28 = .ok (.sipush 255, 3) := by decide +kernel
theorem d_Machine_readBytes_31 : decode prog_7_method_14_code 31 = .ok (.iand, 1) := by decide +kernel
theorem d_Machine_readBytes_32 : decode prog_7_method_14_code 32 = .ok (.i2l, 1) := by decide +kernel
theorem d_Machine_readBytes_33 : decode prog_7_method_14_code 33 = .ok (.lor, 1) := by decide +kernel
theorem d_Machine_readBytes_34 : decode prog_7_method_14_code 34 = .ok (.lstore_n 2, 1) := by decide +kernel
theorem d_Machine_readBytes_35 : decode prog_7_method_14_code 35 = .ok (.iinc 4 (-1), 3) := by decide +kernel
theorem d_Machine_readBytes_38 : decode prog_7_method_14_code 38 = .ok (.goto (-31), 3) := by decide +kernel
theorem d_Machine_readBytes_0 : decode prog_7_method_14_code 0 = .ok (.lconst 0, 1) := by decide +kernel
theorem d_Machine_readBytes_1 : decode prog_7_method_14_code 1 = .ok (.lstore_n 2, 1) := by decide +kernel
theorem d_Machine_readBytes_2 : decode prog_7_method_14_code 2 = .ok (.iload_n 1, 1) := by decide +kernel
theorem d_Machine_readBytes_3 : decode prog_7_method_14_code 3 = .ok (.iconst 1, 1) := by decide +kernel
theorem d_Machine_readBytes_4 : decode prog_7_method_14_code 4 = .ok (.isub, 1) := by decide +kernel
theorem d_Machine_readBytes_5 : decode prog_7_method_14_code 5 = .ok (.istore 4, 2) := by decide +kernel
abbrev y_Machine_readBytes : MethodName := ⟨"FilterGuard$Machine", "readBytes", "(I)J"⟩
def rm_Machine_readBytes : Room := { frames := 1, cells := 0, slots := 0, locals := 20 }
abbrev q_Machine_readBytes (D : va_G) (ad : Nat → Nat → Nat) (ca : Nat → ClassId) (N : Nat → Nat) (M0 MZ : me_M) (RZ : Int64) (A : Nat → Prop) : Array Value → Jvm.State → Outcome → Jvm.State → Prop := va_Ql (fun r (_ : Unit) => r = RZ ∧ me_wf N MZ ∧ me_kp M0 MZ) (fg_B D A (fun _ => me_W ad ca MZ) (fun _ => [])) A
set_option maxHeartbeats 4000000 in
set_option maxRecDepth 100000 in
theorem c_Machine_readBytes (l : Launch) (D : va_G) (ad : Nat → Nat → Nat) (ca : Nat → ClassId) (N : Nat → Nat) (M0 MZ : me_M) (RZ : Int64) (j0 : Nat) (x1 : Int32) (h : f_Machine_readBytes M0 j0 x1 = (some (MZ, RZ))) (hwf : me_wf N M0) (hj0 : j0 < N 5) (sz : Nat) : Met l y_Machine_readBytes (fg_w y_Machine_readBytes prog_7_method_14_code 5 (some .long)) rm_Machine_readBytes (va_Pc [.ref (ad 5 j0), .int x1] (fz_P D (me_T ca) (me_W ad ca M0) sz)) (q_Machine_readBytes D ad ca N M0 MZ RZ (va_A (me_W ad ca M0) sz)) rm_Machine_readBytes.cells rm_Machine_readBytes.slots (va_A (me_W ad ca M0) sz) := by
  refine fz_enter (fun A => q_Machine_readBytes D ad ca N M0 MZ RZ A) (by decide +kernel) (Nat.le_of_ble_eq_true rfl) ?_
  intro p e s m below meth c ls A hx hb hml hown hts hr hlocks hin hP hK hD hS hA hX hl hz
  have hl : lv_has ls 5 [(0, .ref (ad 5 j0)), (1, .int x1)] := hl
  unfold f_Machine_readBytes at h
  have hkp : me_kp M0 M0 := me_kp.rf
  have hkb := hkp
  have b_7 : ∀ (fu : Nat), ∀ (M : me_M) (y2 : Int64) (y4 : Int32) (H : Heap) (locs : List Loc) (ls : Array Slot), f_Machine_readBytes_l7 j0 fu M y2 y4 = (some (MZ, RZ)) → me_wf N M → me_kp M0 M → va_P D classes (me_W ad ca M) H → va_D A (me_W ad ca M) → va_S A s.heap H locs → lv_has ls 5 [(0, .ref (ad 5 j0)), (2, .long y2), (4, .int y4)] → W p l e rm_Machine_readBytes s m [.ref (ad 5 j0), .int x1].toArray below meth c H locs 0 0 (MQ below (q_Machine_readBytes D ad ca N M0 MZ RZ A) [.ref (ad 5 j0), .int x1].toArray s rm_Machine_readBytes.cells rm_Machine_readBytes.slots A) (F0 m 7 ls []) := by
    intro fu
    induction fu with
    | zero =>
      intro M y2 y4 H locs ls h hwf hkp hP hD hS hl
      cases h
    | succ fu ih =>
      intro M y2 y4 H locs ls h hwf hkp hP hD hS hl
      unfold f_Machine_readBytes_l7 at h
      have hkb := hkp
      refine lv_iload hx hb d_Machine_readBytes_7 (lv_at hl 2 rfl) ?_
      refine lv_if_lt (tgt := 41) hx hb d_Machine_readBytes_9 (by decide) (fun c1 => ?_) (fun c1 => ?_)
      · have h := if_t c1 h
        refine lv_lload_n hx hb d_Machine_readBytes_41 rfl (lv_at hl 1 rfl) ?_
        exact me_retl (me_kp M0) h hx hb hr hlocks hwf hkp hP hK hD hS d_Machine_readBytes_42
      have h := if_f c1 h
      refine lv_lload_n hx hb d_Machine_readBytes_12 rfl (lv_at hl 1 rfl) ?_
      refine lv_bipush (v := 8) hx hb d_Machine_readBytes_13 (by decide) ?_
      refine lv_lshl (v := jlshl y2 (8 : Int32)) hx hb d_Machine_readBytes_15 rfl ?_
      refine lv_aload_n hx hb d_Machine_readBytes_16 rfl (lv_at hl 0 rfl) ?_
      refine g_Machine_18 hx hb hts hown hK hP hwf hj0 (hts _ u_650) d_Machine_readBytes_17 ?_
      obtain ⟨j2, e3, h⟩ := bd_ob h
      have hj2 : j2 < N 14 := (hwf.2.1 5 j0 18 _ e3 (by decide) hj0)
      refine me_opt (j := j2) e3 ?_
      refine lv_aload_n hx hb d_Machine_readBytes_20 rfl (lv_at hl 0 rfl) ?_
      refine g_Machine_19 hx hb hts hown hK hP hwf hj0 (hts _ u_651) d_Machine_readBytes_21 ?_
      refine lv_iload hx hb d_Machine_readBytes_24 (lv_at hl 2 rfl) ?_
      refine lv_iadd hx hb d_Machine_readBytes_26 ?_
      obtain ⟨g4, h⟩ := gd_ob h
      refine me_bald hx hb hK hP hwf hj2 g4 d_Machine_readBytes_27 ?_
      refine lv_sipush (v := 255) hx hb d_Machine_readBytes_28 (by decide) ?_
      refine lv_iand hx hb d_Machine_readBytes_31 ?_
      refine lv_i2l (v := ((mI M 14 j2 ((mI M 5 j0 19) + y4).toNatClampNeg) &&& 255).toInt64) hx hb d_Machine_readBytes_32 rfl ?_
      refine lv_lor hx hb d_Machine_readBytes_33 ?_
      obtain ⟨v5, ev5, h⟩ := st_ob h
      refine fg_topl (y := v5) ev5.symm ?_
      refine lv_lstore_n (lv' := [(2, .long v5), (0, .ref (ad 5 j0)), (4, .int y4)]) hx hb d_Machine_readBytes_34 rfl hl (by decide) rfl (fun ls hl => ?_)
      refine lv_iinc (v := y4 + (-1)) (lv' := [(4, .int (y4 + (-1))), (2, .long v5), (0, .ref (ad 5 j0))]) hx hb d_Machine_readBytes_35 hl (k := 2) rfl (by rfl) (by decide) rfl (fun ls hl => ?_)
      refine lv_goto (tgt := 7) hx hb d_Machine_readBytes_38 (by decide) ?_
      exact ih M v5 (y4 + (-1)) _ _ _ h hwf hkp hP hD hS (lv_sub hl [2, 1, 0] rfl)
  refine lv_lconst (v := 0) hx hb d_Machine_readBytes_0 (by decide) ?_
  refine lv_lstore_n (lv' := [(2, .long 0), (0, .ref (ad 5 j0)), (1, .int x1)]) hx hb d_Machine_readBytes_1 rfl hl (by decide) rfl (fun ls hl => ?_)
  refine lv_iload_n hx hb d_Machine_readBytes_2 rfl (lv_at hl 2 rfl) ?_
  refine lv_iconst (v := 1) hx hb d_Machine_readBytes_3 (by decide) ?_
  refine lv_isub hx hb d_Machine_readBytes_4 ?_
  obtain ⟨v6, ev6, h⟩ := st_ob h
  refine fg_topi (y := v6) ev6.symm ?_
  refine lv_istore (lv' := [(4, .int v6), (2, .long 0), (0, .ref (ad 5 j0)), (1, .int x1)]) hx hb d_Machine_readBytes_5 hl (by decide) rfl (fun ls hl => ?_)
  exact b_7 _ M0 (0 : Int64) v6 _ _ _ h hwf hkp hP hD hS (lv_sub hl [2, 1, 0] rfl)
theorem d_Machine_memory_126 : decode prog_7_method_11_code 126 = .ok (.lstore 4, 2) := by decide +kernel
theorem d_Machine_memory_128 : decode prog_7_method_11_code 128 = .ok (.aload_n 0, 1) := by decide +kernel
theorem d_Machine_memory_129 : decode prog_7_method_11_code 129 = .ok (.aload_n 0, 1) := by decide +kernel
theorem d_Machine_memory_130 : decode prog_7_method_11_code 130 = .ok (.getfield 48, 3) := by decide +kernel
theorem d_Machine_memory_133 : decode prog_7_method_11_code 133 = .ok (.getfield 209, 3) := by decide +kernel
theorem u_259 : Cond.fieldLink "FilterGuard$Machine" 209 "FilterGuard$Code" "bytes" "I" ∈ fg_g := fg_in (List.mem_of_getElem? (i := 259) (by decide +kernel)) rfl
theorem d_Machine_memory_136 : decode prog_7_method_11_code 136 = .ok (.lload 4, 2) := by decide +kernel
theorem d_Machine_memory_138 : decode prog_7_method_11_code 138 = .ok (.aload_n 0, 1) := by decide +kernel
theorem d_Machine_memory_139 : decode prog_7_method_11_code 139 = .ok (.invokevirtual 145, 3) := by decide +kernel
theorem u_1655 : Cond.methodLink "FilterGuard$Machine" 145 ⟨"FilterGuard$Machine", "operand", "()J"⟩ ∈ fg_g := fg_in (List.mem_of_getElem? (i := 1655) (by decide +kernel)) rfl
theorem u_1658 : Cond.code ⟨"FilterGuard$Machine", "operand", "()J"⟩ prog_7_method_7_code 1 (some .long) ∈ fg_g := fg_in (List.mem_of_getElem? (i := 1658) (by decide +kernel)) rfl
theorem u_1657 : Cond.instanceMethod ⟨"FilterGuard$Machine", "operand", "()J"⟩ ∈ fg_g := fg_in (List.mem_of_getElem? (i := 1657) (by decide +kernel)) rfl
theorem u_74 : Cond.selects "FilterGuard$Machine" ⟨"FilterGuard$Machine", "operand", "()J"⟩ ⟨"FilterGuard$Machine", "operand", "()J"⟩ ∈ fg_g := fg_in (List.mem_of_getElem? (i := 74) (by decide +kernel)) rfl
theorem d_Machine_memory_142 : decode prog_7_method_11_code 142 = .ok (.ladd, 1) := by decide +kernel
theorem d_Machine_memory_143 : decode prog_7_method_11_code 143 = .ok (.invokevirtual 67, 3) := by decide +kernel
theorem d_Machine_memory_146 : decode prog_7_method_11_code 146 = .ok (.iconst 1, 1) := by decide +kernel
theorem d_Machine_memory_147 : decode prog_7_method_11_code 147 = .ok (.ireturn, 1) := by decide +kernel
theorem d_Machine_memory_42 : decode prog_7_method_11_code 42 = .ok (.laload, 1) := by decide +kernel
theorem d_Machine_memory_43 : decode prog_7_method_11_code 43 = .ok (.aload_n 0, 1) := by decide +kernel
theorem d_Machine_memory_44 : decode prog_7_method_11_code 44 = .ok (.getfield 48, 3) := by decide +kernel
theorem d_Machine_memory_47 : decode prog_7_method_11_code 47 = .ok (.getfield 206, 3) := by decide +kernel
theorem u_245 : Cond.fieldLink "FilterGuard$Machine" 206 "FilterGuard$Code" "offset" "I" ∈ fg_g := fg_in (List.mem_of_getElem? (i := 245) (by decide +kernel)) rfl
theorem d_Machine_memory_50 : decode prog_7_method_11_code 50 = .ok (.i2l, 1) := by decide +kernel
theorem d_Machine_memory_51 : decode prog_7_method_11_code 51 = .ok (.ladd, 1) := by decide +kernel
theorem d_Machine_memory_52 : decode prog_7_method_11_code 52 = .ok (.lstore_n 2, 1) := by decide +kernel
theorem d_Machine_memory_53 : decode prog_7_method_11_code 53 = .ok (.aload_n 0, 1) := by decide +kernel
theorem d_Machine_memory_54 : decode prog_7_method_11_code 54 = .ok (.lload_n 2, 1) := by decide +kernel
theorem d_Machine_memory_55 : decode prog_7_method_11_code 55 = .ok (.aload_n 0, 1) := by decide +kernel
theorem d_Machine_memory_56 : decode prog_7_method_11_code 56 = .ok (.getfield 48, 3) := by decide +kernel
theorem d_Machine_memory_59 : decode prog_7_method_11_code 59 = .ok (.getfield 209, 3) := by decide +kernel
theorem d_Machine_memory_62 : decode prog_7_method_11_code 62 = .ok (.invokevirtual 212, 3) := by decide +kernel
theorem d_Machine_memory_65 : decode prog_7_method_11_code 65 = .ok (.ifCond .ne 5, 3) := by decide +kernel
theorem d_Machine_memory_70 : decode prog_7_method_11_code 70 = .ok (.iload_n 1, 1) := by decide +kernel
theorem d_Machine_memory_71 : decode prog_7_method_11_code 71 = .ok (.ifCond .eq 29, 3) := by decide +kernel
theorem d_Machine_memory_100 : decode prog_7_method_11_code 100 = .ok (.aload_n 0, 1) := by decide +kernel
theorem d_Machine_memory_101 : decode prog_7_method_11_code 101 = .ok (.getfield 48, 3) := by decide +kernel
theorem d_Machine_memory_104 : decode prog_7_method_11_code 104 = .ok (.getfield 98, 3) := by decide +kernel
theorem u_254 : Cond.fieldLink "FilterGuard$Machine" 98 "FilterGuard$Code" "family" "I" ∈ fg_g := fg_in (List.mem_of_getElem? (i := 254) (by decide +kernel)) rfl
theorem d_Machine_memory_107 : decode prog_7_method_11_code 107 = .ok (.iconst 5, 1) := by decide +kernel
theorem d_Machine_memory_108 : decode prog_7_method_11_code 108 = .ok (.if_icmp .ne 17, 3) := by decide +kernel
theorem d_Machine_memory_125 : decode prog_7_method_11_code 125 = .ok (.lconst 0, 1) := by decide +kernel
theorem d_Machine_memory_111 : decode prog_7_method_11_code 111 = .ok (.aload_n 0, 1) := by decide +kernel
theorem d_Machine_memory_112 : decode prog_7_method_11_code 112 = .ok (.aload_n 0, 1) := by decide +kernel
theorem d_Machine_memory_113 : decode prog_7_method_11_code 113 = .ok (.getfield 48, 3) := by decide +kernel
theorem d_Machine_memory_116 : decode prog_7_method_11_code 116 = .ok (.getfield 209, 3) := by decide +kernel
theorem d_Machine_memory_119 : decode prog_7_method_11_code 119 = .ok (.invokevirtual 216, 3) := by decide +kernel
theorem u_1718 : Cond.methodLink "FilterGuard$Machine" 216 ⟨"FilterGuard$Machine", "readBytes", "(I)J"⟩ ∈ fg_g := fg_in (List.mem_of_getElem? (i := 1718) (by decide +kernel)) rfl
theorem u_1721 : Cond.code ⟨"FilterGuard$Machine", "readBytes", "(I)J"⟩ prog_7_method_14_code 5 (some .long) ∈ fg_g := fg_in (List.mem_of_getElem? (i := 1721) (by decide +kernel)) rfl
theorem u_1720 : Cond.instanceMethod ⟨"FilterGuard$Machine", "readBytes", "(I)J"⟩ ∈ fg_g := fg_in (List.mem_of_getElem? (i := 1720) (by decide +kernel)) rfl
theorem u_84 : Cond.selects "FilterGuard$Machine" ⟨"FilterGuard$Machine", "readBytes", "(I)J"⟩ ⟨"FilterGuard$Machine", "readBytes", "(I)J"⟩ ∈ fg_g := fg_in (List.mem_of_getElem? (i := 84) (by decide +kernel)) rfl
theorem d_Machine_memory_122 : decode prog_7_method_11_code 122 = .ok (.goto 4, 3) := by decide +kernel
theorem d_Machine_memory_74 : decode prog_7_method_11_code 74 = .ok (.aload_n 0, 1) := by decide +kernel
theorem d_Machine_memory_75 : decode prog_7_method_11_code 75 = .ok (.getfield 18, 3) := by decide +kernel
theorem d_Machine_memory_78 : decode prog_7_method_11_code 78 = .ok (.aload_n 0, 1) := by decide +kernel
theorem d_Machine_memory_79 : decode prog_7_method_11_code 79 = .ok (.getfield 48, 3) := by decide +kernel
theorem d_Machine_memory_82 : decode prog_7_method_11_code 82 = .ok (.getfield 136, 3) := by decide +kernel
theorem u_235 : Cond.fieldLink "FilterGuard$Machine" 136 "FilterGuard$Code" "to" "I" ∈ fg_g := fg_in (List.mem_of_getElem? (i := 235) (by decide +kernel)) rfl
theorem d_Machine_memory_85 : decode prog_7_method_11_code 85 = .ok (.aload_n 0, 1) := by decide +kernel
theorem d_Machine_memory_86 : decode prog_7_method_11_code 86 = .ok (.aload_n 0, 1) := by decide +kernel
theorem d_Machine_memory_87 : decode prog_7_method_11_code 87 = .ok (.getfield 48, 3) := by decide +kernel
theorem d_Machine_memory_90 : decode prog_7_method_11_code 90 = .ok (.getfield 209, 3) := by decide +kernel
theorem d_Machine_memory_93 : decode prog_7_method_11_code 93 = .ok (.invokevirtual 216, 3) := by decide +kernel
theorem d_Machine_memory_96 : decode prog_7_method_11_code 96 = .ok (.lastore, 1) := by decide +kernel
theorem d_Machine_memory_97 : decode prog_7_method_11_code 97 = .ok (.goto 49, 3) := by decide +kernel
theorem d_Machine_memory_68 : decode prog_7_method_11_code 68 = .ok (.iconst 0, 1) := by decide +kernel
theorem d_Machine_memory_69 : decode prog_7_method_11_code 69 = .ok (.ireturn, 1) := by decide +kernel
theorem d_Machine_memory_16 : decode prog_7_method_11_code 16 = .ok (.istore_n 1, 1) := by decide +kernel
theorem d_Machine_memory_17 : decode prog_7_method_11_code 17 = .ok (.aload_n 0, 1) := by decide +kernel
theorem d_Machine_memory_18 : decode prog_7_method_11_code 18 = .ok (.getfield 18, 3) := by decide +kernel
theorem d_Machine_memory_21 : decode prog_7_method_11_code 21 = .ok (.iload_n 1, 1) := by decide +kernel
theorem d_Machine_memory_22 : decode prog_7_method_11_code 22 = .ok (.ifCond .eq 13, 3) := by decide +kernel
theorem d_Machine_memory_35 : decode prog_7_method_11_code 35 = .ok (.aload_n 0, 1) := by decide +kernel
theorem d_Machine_memory_36 : decode prog_7_method_11_code 36 = .ok (.getfield 48, 3) := by decide +kernel
theorem d_Machine_memory_39 : decode prog_7_method_11_code 39 = .ok (.getfield 136, 3) := by decide +kernel
theorem d_Machine_memory_25 : decode prog_7_method_11_code 25 = .ok (.aload_n 0, 1) := by decide +kernel
theorem d_Machine_memory_26 : decode prog_7_method_11_code 26 = .ok (.getfield 48, 3) := by decide +kernel
theorem d_Machine_memory_29 : decode prog_7_method_11_code 29 = .ok (.getfield 139, 3) := by decide +kernel
theorem d_Machine_memory_32 : decode prog_7_method_11_code 32 = .ok (.goto 10, 3) := by decide +kernel
theorem d_Machine_memory_0 : decode prog_7_method_11_code 0 = .ok (.aload_n 0, 1) := by decide +kernel
theorem d_Machine_memory_1 : decode prog_7_method_11_code 1 = .ok (.getfield 48, 3) := by decide +kernel
theorem d_Machine_memory_4 : decode prog_7_method_11_code 4 = .ok (.getfield 98, 3) := by decide +kernel
theorem d_Machine_memory_7 : decode prog_7_method_11_code 7 = .ok (.iconst 2, 1) := by decide +kernel
theorem d_Machine_memory_8 : decode prog_7_method_11_code 8 = .ok (.if_icmp .ne 7, 3) := by decide +kernel
theorem d_Machine_memory_15 : decode prog_7_method_11_code 15 = .ok (.iconst 0, 1) := by decide +kernel
theorem d_Machine_memory_11 : decode prog_7_method_11_code 11 = .ok (.iconst 1, 1) := by decide +kernel
theorem d_Machine_memory_12 : decode prog_7_method_11_code 12 = .ok (.goto 4, 3) := by decide +kernel
abbrev y_Machine_memory : MethodName := ⟨"FilterGuard$Machine", "memory", "()Z"⟩
def rm_Machine_memory : Room := { frames := 3, cells := 0, slots := 0, locals := 79 }
abbrev q_Machine_memory (D : va_G) (ad : Nat → Nat → Nat) (ca : Nat → ClassId) (N : Nat → Nat) (M0 MZ : me_M) (RZ : Int32) (A : Nat → Prop) : Array Value → Jvm.State → Outcome → Jvm.State → Prop := va_Qi (fun r (_ : Unit) => r = RZ ∧ me_wf N MZ ∧ me_kz M0 MZ ∧ (RZ = 1 ∨ RZ = 0)) (fg_B D A (fun _ => me_W ad ca MZ) (fun _ => [])) A
set_option maxHeartbeats 4000000 in
set_option maxRecDepth 100000 in
theorem c_Machine_memory (l : Launch) (D : va_G) (ad : Nat → Nat → Nat) (ca : Nat → ClassId) (N : Nat → Nat) (M0 MZ : me_M) (RZ : Int32) (j0 : Nat) (h : f_Machine_memory M0 j0 = (some (MZ, RZ))) (hwf : me_wf N M0) (hj0 : j0 < N 5) (sz : Nat) : Met l y_Machine_memory (fg_w y_Machine_memory prog_7_method_11_code 6 (some .boolean)) rm_Machine_memory (va_Pc [.ref (ad 5 j0)] (fz_P D (me_T ca) (me_W ad ca M0) sz)) (q_Machine_memory D ad ca N M0 MZ RZ (va_A (me_W ad ca M0) sz)) rm_Machine_memory.cells rm_Machine_memory.slots (va_A (me_W ad ca M0) sz) := by
  refine fz_enter (fun A => q_Machine_memory D ad ca N M0 MZ RZ A) (by decide +kernel) (Nat.le_of_ble_eq_true rfl) ?_
  intro p e s m below meth c ls A hx hb hml hown hts hr hlocks hin hP hK hD hS hA hX hl hz
  have hl : lv_has ls 6 [(0, .ref (ad 5 j0))] := hl
  unfold f_Machine_memory at h
  have hkp : me_kz M0 M0 := me_kz.rf
  have hkb := hkp
  have b_126 : ∀ (M : me_M) (s0 : Int64) (H : Heap) (locs : List Loc) (ls : Array Slot), f_Machine_memory_b126 j0 M s0 = (some (MZ, RZ)) → me_wf N M → me_kz M0 M → va_P D classes (me_W ad ca M) H → va_D A (me_W ad ca M) → va_S A s.heap H locs → lv_has ls 6 [(0, .ref (ad 5 j0))] → W p l e rm_Machine_memory s m [.ref (ad 5 j0)].toArray below meth c H locs 0 0 (MQ below (q_Machine_memory D ad ca N M0 MZ RZ A) [.ref (ad 5 j0)].toArray s rm_Machine_memory.cells rm_Machine_memory.slots A) (F0 m 126 ls [.long s0]) := by
    intro M s0 H locs ls h hwf hkp hP hD hS hl
    unfold f_Machine_memory_b126 at h
    have hkb := hkp
    refine lv_lstore (lv' := [(4, .long s0), (0, .ref (ad 5 j0))]) hx hb d_Machine_memory_126 hl (by decide) rfl (fun ls hl => ?_)
    refine lv_aload_n hx hb d_Machine_memory_128 rfl (lv_at hl 1 rfl) ?_
    refine lv_aload_n hx hb d_Machine_memory_129 rfl (lv_at hl 1 rfl) ?_
    refine g_Machine_16 hx hb hts hown hK hP hwf hj0 (hts _ u_648) d_Machine_memory_130 ?_
    obtain ⟨j1, e2, h⟩ := bd_ob h
    have hj1 : j1 < N 2 := (hwf.2.1 5 j0 16 _ e2 (by decide) hj0)
    refine me_opt (j := j1) e2 ?_
    refine g_Code_11 hx hb hts hown hK hP hwf hj1 (hts _ u_259) d_Machine_memory_133 ?_
    refine lv_lload hx hb d_Machine_memory_136 (lv_at hl 0 rfl) ?_
    refine lv_aload_n hx hb d_Machine_memory_138 rfl (lv_at hl 1 rfl) ?_
    obtain ⟨M3, r4, eM3, h⟩ := b2_ob h
    refine me_thenl0 (M1 := M3) (me_runV (C := "FilterGuard$Machine") (As := []) (rest := [.long s0, .int (mI M 2 j1 11), .ref (ad 5 j0)]) ⟨hx, hb, hml, hown, hts⟩ (c_Machine_operand l D ad ca N M M3 r4 j0 eM3 hwf hj0 _) rfl (by show fg_nm y_Machine_operand 0; decide +kernel) u_1655 u_1657 u_74 u_190 u_1658 ⟨Nat.le_of_ble_eq_true rfl, Nat.le_of_ble_eq_true rfl⟩ hX hz hK hP hD hwf hS hA hj0 (by decide) rfl rfl rfl hl.1 (Nat.le_of_ble_eq_true rfl) d_Machine_memory_139 ⟨Nat.le_of_ble_eq_true rfl, Nat.le_of_ble_eq_true rfl⟩) hP hD hK hS hA rfl rfl (fun H locs hw hP hD hS => ?_)
    obtain ⟨hwf, hk9⟩ := hw
    have hkp := hkp.tr hk9.z
    refine lv_ladd hx hb d_Machine_memory_142 ?_
    obtain ⟨M5, eM5, h⟩ := bd_ob h
    refine me_thenv0 (M1 := M5) (me_runV (C := "FilterGuard$Machine") (As := [.int (mI M 2 j1 11), .long (s0 + r4)]) (rest := []) ⟨hx, hb, hml, hown, hts⟩ (c_Machine_writeBytes l D ad ca N M3 M5 j0 (mI M 2 j1 11) (s0 + r4) eM5 hwf hj0 _) rfl (by show fg_nm y_Machine_writeBytes 2; decide +kernel) u_783 u_785 u_1 u_190 u_786 ⟨Nat.le_of_ble_eq_true rfl, Nat.le_of_ble_eq_true rfl⟩ hX hz hK hP hD hwf hS hA hj0 (by decide) rfl rfl rfl hl.1 (Nat.le_of_ble_eq_true rfl) d_Machine_memory_143 ⟨Nat.le_of_ble_eq_true rfl, Nat.le_of_ble_eq_true rfl⟩) hP hD hK hS hA rfl rfl (fun H locs hw hP hD hS => ?_)
    obtain ⟨hwf, hk9⟩ := hw
    have hkp := hkp.tr hk9.z
    refine lv_iconst (v := 1) hx hb d_Machine_memory_146 (by decide) ?_
    exact me_retz (me_kz M0) h (by decide) hx hb hr hlocks hwf hkp hP hK hD hS d_Machine_memory_147
  have b_42 : ∀ (M : me_M) (y1 : Int32) (s0 : Int32) (s1 : Nat) (H : Heap) (locs : List Loc) (ls : Array Slot), f_Machine_memory_b42 j0 M y1 s0 s1 = (some (MZ, RZ)) → (y1 = 1 ∨ y1 = 0) → (s1 < N 16) → me_wf N M → me_kz M0 M → va_P D classes (me_W ad ca M) H → va_D A (me_W ad ca M) → va_S A s.heap H locs → lv_has ls 6 [(0, .ref (ad 5 j0)), (1, .int y1)] → W p l e rm_Machine_memory s m [.ref (ad 5 j0)].toArray below meth c H locs 0 0 (MQ below (q_Machine_memory D ad ca N M0 MZ RZ A) [.ref (ad 5 j0)].toArray s rm_Machine_memory.cells rm_Machine_memory.slots A) (F0 m 42 ls [.int s0, .ref (ad 16 s1)]) := by
    intro M y1 s0 s1 H locs ls h zy1 hs1 hwf hkp hP hD hS hl
    unfold f_Machine_memory_b42 at h
    have hkb := hkp
    obtain ⟨g6, h⟩ := gd_ob h
    refine me_lald hx hb hK hP hwf hs1 g6 d_Machine_memory_42 ?_
    refine lv_aload_n hx hb d_Machine_memory_43 rfl (lv_at hl 0 rfl) ?_
    refine g_Machine_16 hx hb hts hown hK hP hwf hj0 (hts _ u_648) d_Machine_memory_44 ?_
    obtain ⟨j7, e8, h⟩ := bd_ob h
    have hj7 : j7 < N 2 := (hwf.2.1 5 j0 16 _ e8 (by decide) hj0)
    refine me_opt (j := j7) e8 ?_
    refine g_Code_8 hx hb hts hown hK hP hwf hj7 (hts _ u_245) d_Machine_memory_47 ?_
    refine lv_i2l (v := (mI M 2 j7 8).toInt64) hx hb d_Machine_memory_50 rfl ?_
    refine lv_ladd hx hb d_Machine_memory_51 ?_
    obtain ⟨v9, ev9, h⟩ := st_ob h
    refine fg_topl (y := v9) ev9.symm ?_
    refine lv_lstore_n (lv' := [(2, .long v9), (0, .ref (ad 5 j0)), (1, .int y1)]) hx hb d_Machine_memory_52 rfl hl (by decide) rfl (fun ls hl => ?_)
    refine lv_aload_n hx hb d_Machine_memory_53 rfl (lv_at hl 1 rfl) ?_
    refine lv_lload_n hx hb d_Machine_memory_54 rfl (lv_at hl 0 rfl) ?_
    refine lv_aload_n hx hb d_Machine_memory_55 rfl (lv_at hl 1 rfl) ?_
    refine g_Machine_16 hx hb hts hown hK hP hwf hj0 (hts _ u_648) d_Machine_memory_56 ?_
    refine me_opt (j := j7) e8 ?_
    refine g_Code_11 hx hb hts hown hK hP hwf hj7 (hts _ u_259) d_Machine_memory_59 ?_
    obtain ⟨M10, r11, eM10, h⟩ := b2_ob h
    refine me_theni0 (M1 := M10) (me_runV (C := "FilterGuard$Machine") (As := [.long v9, .int (mI M 2 j7 11)]) (rest := []) ⟨hx, hb, hml, hown, hts⟩ (c_Machine_locate l D ad ca N M M10 r11 j0 v9 (mI M 2 j7 11) eM10 hwf hj0 _) rfl (by show fg_nm y_Machine_locate 2; decide +kernel) u_1689 u_1691 u_80 u_190 u_1692 ⟨Nat.le_of_ble_eq_true rfl, Nat.le_of_ble_eq_true rfl⟩ hX hz hK hP hD hwf hS hA hj0 (by decide) rfl rfl rfl hl.1 (Nat.le_of_ble_eq_true rfl) d_Machine_memory_62 ⟨Nat.le_of_ble_eq_true rfl, Nat.le_of_ble_eq_true rfl⟩) hP hD hK hS hA rfl rfl (fun H locs hw hP hD hS => ?_)
    obtain ⟨hwf, hk9, zr11⟩ := hw
    have hkp := hkp.tr hk9
    refine lv_if_ne (tgt := 70) hx hb d_Machine_memory_65 (by decide) (fun c12 => ?_) (fun c12 => ?_)
    · have h := if_f c12 h
      refine lv_iload_n hx hb d_Machine_memory_70 rfl (lv_at hl 2 rfl) ?_
      refine lv_if_eq (tgt := 100) hx hb d_Machine_memory_71 (by decide) (fun c13 => ?_) (fun c13 => ?_)
      · have h := if_t c13 h
        refine lv_aload_n hx hb d_Machine_memory_100 rfl (lv_at hl 1 rfl) ?_
        refine g_Machine_16 hx hb hts hown hK hP hwf hj0 (hts _ u_648) d_Machine_memory_101 ?_
        obtain ⟨j14, e15, h⟩ := bd_ob h
        have hj14 : j14 < N 2 := (hwf.2.1 5 j0 16 _ e15 (by decide) hj0)
        refine me_opt (j := j14) e15 ?_
        refine g_Code_10 hx hb hts hown hK hP hwf hj14 (hts _ u_254) d_Machine_memory_104 ?_
        refine lv_iconst (v := 5) hx hb d_Machine_memory_107 (by decide) ?_
        refine lv_icmp_ne (tgt := 125) hx hb d_Machine_memory_108 (by decide) (fun c16 => ?_) (fun c16 => ?_)
        · have h := if_f c16 h
          refine lv_lconst (v := 0) hx hb d_Machine_memory_125 (by decide) ?_
          exact b_126 M10 (0 : Int64) _ _ _ h hwf hkp hP hD hS (lv_sub hl [1] rfl)
        have h := if_t c16 h
        refine lv_aload_n hx hb d_Machine_memory_111 rfl (lv_at hl 1 rfl) ?_
        refine lv_aload_n hx hb d_Machine_memory_112 rfl (lv_at hl 1 rfl) ?_
        refine g_Machine_16 hx hb hts hown hK hP hwf hj0 (hts _ u_648) d_Machine_memory_113 ?_
        refine me_opt (j := j14) e15 ?_
        refine g_Code_11 hx hb hts hown hK hP hwf hj14 (hts _ u_259) d_Machine_memory_116 ?_
        obtain ⟨M17, r18, eM17, h⟩ := b2_ob h
        refine me_thenl0 (M1 := M17) (me_runV (C := "FilterGuard$Machine") (As := [.int (mI M10 2 j14 11)]) (rest := []) ⟨hx, hb, hml, hown, hts⟩ (c_Machine_readBytes l D ad ca N M10 M17 r18 j0 (mI M10 2 j14 11) eM17 hwf hj0 _) rfl (by show fg_nm y_Machine_readBytes 1; decide +kernel) u_1718 u_1720 u_84 u_190 u_1721 ⟨Nat.le_of_ble_eq_true rfl, Nat.le_of_ble_eq_true rfl⟩ hX hz hK hP hD hwf hS hA hj0 (by decide) rfl rfl rfl hl.1 (Nat.le_of_ble_eq_true rfl) d_Machine_memory_119 ⟨Nat.le_of_ble_eq_true rfl, Nat.le_of_ble_eq_true rfl⟩) hP hD hK hS hA rfl rfl (fun H locs hw hP hD hS => ?_)
        obtain ⟨hwf, hk9⟩ := hw
        have hkp := hkp.tr hk9.z
        refine lv_goto (tgt := 126) hx hb d_Machine_memory_122 (by decide) ?_
        exact b_126 M17 r18 _ _ _ h hwf hkp hP hD hS (lv_sub hl [1] rfl)
      have h := if_f c13 h
      refine lv_aload_n hx hb d_Machine_memory_74 rfl (lv_at hl 1 rfl) ?_
      refine g_Machine_6 hx hb hts hown hK hP hwf hj0 (hts _ u_629) d_Machine_memory_75 ?_
      obtain ⟨j19, e20, h⟩ := bd_ob h
      have hj19 : j19 < N 16 := (hwf.2.1 5 j0 6 _ e20 (by decide) hj0)
      refine me_opt (j := j19) e20 ?_
      refine lv_aload_n hx hb d_Machine_memory_78 rfl (lv_at hl 1 rfl) ?_
      refine g_Machine_16 hx hb hts hown hK hP hwf hj0 (hts _ u_648) d_Machine_memory_79 ?_
      obtain ⟨j21, e22, h⟩ := bd_ob h
      have hj21 : j21 < N 2 := (hwf.2.1 5 j0 16 _ e22 (by decide) hj0)
      refine me_opt (j := j21) e22 ?_
      refine g_Code_6 hx hb hts hown hK hP hwf hj21 (hts _ u_235) d_Machine_memory_82 ?_
      refine lv_aload_n hx hb d_Machine_memory_85 rfl (lv_at hl 1 rfl) ?_
      refine lv_aload_n hx hb d_Machine_memory_86 rfl (lv_at hl 1 rfl) ?_
      refine g_Machine_16 hx hb hts hown hK hP hwf hj0 (hts _ u_648) d_Machine_memory_87 ?_
      refine me_opt (j := j21) e22 ?_
      refine g_Code_11 hx hb hts hown hK hP hwf hj21 (hts _ u_259) d_Machine_memory_90 ?_
      obtain ⟨M23, r24, eM23, h⟩ := b2_ob h
      refine me_thenl0 (M1 := M23) (me_runV (C := "FilterGuard$Machine") (As := [.int (mI M10 2 j21 11)]) (rest := [.int (mI M10 2 j21 6), .ref (ad 16 j19)]) ⟨hx, hb, hml, hown, hts⟩ (c_Machine_readBytes l D ad ca N M10 M23 r24 j0 (mI M10 2 j21 11) eM23 hwf hj0 _) rfl (by show fg_nm y_Machine_readBytes 1; decide +kernel) u_1718 u_1720 u_84 u_190 u_1721 ⟨Nat.le_of_ble_eq_true rfl, Nat.le_of_ble_eq_true rfl⟩ hX hz hK hP hD hwf hS hA hj0 (by decide) rfl rfl rfl hl.1 (Nat.le_of_ble_eq_true rfl) d_Machine_memory_93 ⟨Nat.le_of_ble_eq_true rfl, Nat.le_of_ble_eq_true rfl⟩) hP hD hK hS hA rfl rfl (fun H locs hw hP hD hS => ?_)
      obtain ⟨hwf, hk9⟩ := hw
      have hkp := hkp.tr hk9.z
      obtain ⟨g25, h⟩ := gd_ob h
      obtain ⟨M26, eM26, h⟩ := st_ob h
      refine me_last eM26 hx hb hK hP hD hwf hS hj19 (kp_z hkb hkp g25) d_Machine_memory_96 (fun H locs hP hD hwf hS => ?_)
      have hkp := kz_L eM26 hkp
      refine lv_goto (tgt := 146) hx hb d_Machine_memory_97 (by decide) ?_
      refine lv_iconst (v := 1) hx hb d_Machine_memory_146 (by decide) ?_
      exact me_retz (me_kz M0) h (by decide) hx hb hr hlocks hwf hkp hP hK hD hS d_Machine_memory_147
    have h := if_t c12 h
    refine lv_iconst (v := 0) hx hb d_Machine_memory_68 (by decide) ?_
    exact me_retz (me_kz M0) h (by decide) hx hb hr hlocks hwf hkp hP hK hD hS d_Machine_memory_69
  have b_16 : ∀ (M : me_M) (s0 : Int32) (H : Heap) (locs : List Loc) (ls : Array Slot), f_Machine_memory_b16 j0 M s0 = (some (MZ, RZ)) → (s0 = 1 ∨ s0 = 0) → me_wf N M → me_kz M0 M → va_P D classes (me_W ad ca M) H → va_D A (me_W ad ca M) → va_S A s.heap H locs → lv_has ls 6 [(0, .ref (ad 5 j0))] → W p l e rm_Machine_memory s m [.ref (ad 5 j0)].toArray below meth c H locs 0 0 (MQ below (q_Machine_memory D ad ca N M0 MZ RZ A) [.ref (ad 5 j0)].toArray s rm_Machine_memory.cells rm_Machine_memory.slots A) (F0 m 16 ls [.int s0]) := by
    intro M s0 H locs ls h zs0 hwf hkp hP hD hS hl
    unfold f_Machine_memory_b16 at h
    have hkb := hkp
    refine lv_istore_n (lv' := [(1, .int s0), (0, .ref (ad 5 j0))]) hx hb d_Machine_memory_16 rfl hl (by decide) rfl (fun ls hl => ?_)
    refine lv_aload_n hx hb d_Machine_memory_17 rfl (lv_at hl 1 rfl) ?_
    refine g_Machine_6 hx hb hts hown hK hP hwf hj0 (hts _ u_629) d_Machine_memory_18 ?_
    obtain ⟨j27, e28, h⟩ := bd_ob h
    have hj27 : j27 < N 16 := (hwf.2.1 5 j0 6 _ e28 (by decide) hj0)
    refine me_opt (j := j27) e28 ?_
    refine lv_iload_n hx hb d_Machine_memory_21 rfl (lv_at hl 0 rfl) ?_
    refine lv_if_eq (tgt := 35) hx hb d_Machine_memory_22 (by decide) (fun c29 => ?_) (fun c29 => ?_)
    · have h := if_t c29 h
      refine lv_aload_n hx hb d_Machine_memory_35 rfl (lv_at hl 1 rfl) ?_
      refine g_Machine_16 hx hb hts hown hK hP hwf hj0 (hts _ u_648) d_Machine_memory_36 ?_
      obtain ⟨j30, e31, h⟩ := bd_ob h
      have hj30 : j30 < N 2 := (hwf.2.1 5 j0 16 _ e31 (by decide) hj0)
      refine me_opt (j := j30) e31 ?_
      refine g_Code_6 hx hb hts hown hK hP hwf hj30 (hts _ u_235) d_Machine_memory_39 ?_
      exact b_42 M s0 (mI M 2 j30 6) j27 _ _ _ h zs0 hj27 hwf hkp hP hD hS (lv_sub hl [1, 0] rfl)
    have h := if_f c29 h
    refine lv_aload_n hx hb d_Machine_memory_25 rfl (lv_at hl 1 rfl) ?_
    refine g_Machine_16 hx hb hts hown hK hP hwf hj0 (hts _ u_648) d_Machine_memory_26 ?_
    obtain ⟨j32, e33, h⟩ := bd_ob h
    have hj32 : j32 < N 2 := (hwf.2.1 5 j0 16 _ e33 (by decide) hj0)
    refine me_opt (j := j32) e33 ?_
    refine g_Code_7 hx hb hts hown hK hP hwf hj32 (hts _ u_241) d_Machine_memory_29 ?_
    refine lv_goto (tgt := 42) hx hb d_Machine_memory_32 (by decide) ?_
    exact b_42 M s0 (mI M 2 j32 7) j27 _ _ _ h zs0 hj27 hwf hkp hP hD hS (lv_sub hl [1, 0] rfl)
  refine lv_aload_n hx hb d_Machine_memory_0 rfl (lv_at hl 0 rfl) ?_
  refine g_Machine_16 hx hb hts hown hK hP hwf hj0 (hts _ u_648) d_Machine_memory_1 ?_
  obtain ⟨j34, e35, h⟩ := bd_ob h
  have hj34 : j34 < N 2 := (hwf.2.1 5 j0 16 _ e35 (by decide) hj0)
  refine me_opt (j := j34) e35 ?_
  refine g_Code_10 hx hb hts hown hK hP hwf hj34 (hts _ u_254) d_Machine_memory_4 ?_
  refine lv_iconst (v := 2) hx hb d_Machine_memory_7 (by decide) ?_
  refine lv_icmp_ne (tgt := 15) hx hb d_Machine_memory_8 (by decide) (fun c36 => ?_) (fun c36 => ?_)
  · have h := if_f c36 h
    refine lv_iconst (v := 0) hx hb d_Machine_memory_15 (by decide) ?_
    exact b_16 M0 (0 : Int32) _ _ _ h (by decide) hwf hkp hP hD hS (lv_sub hl [0] rfl)
  have h := if_t c36 h
  refine lv_iconst (v := 1) hx hb d_Machine_memory_11 (by decide) ?_
  refine lv_goto (tgt := 16) hx hb d_Machine_memory_12 (by decide) ?_
  exact b_16 M0 (1 : Int32) _ _ _ h (by decide) hwf hkp hP hD hS (lv_sub hl [0] rfl)
theorem d_Machine_step_0 : decode prog_7_method_6_code 0 = .ok (.aload_n 0, 1) := by decide +kernel
theorem d_Machine_step_1 : decode prog_7_method_6_code 1 = .ok (.aload_n 0, 1) := by decide +kernel
theorem d_Machine_step_2 : decode prog_7_method_6_code 2 = .ok (.getfield 48, 3) := by decide +kernel
theorem d_Machine_step_5 : decode prog_7_method_6_code 5 = .ok (.iload_n 1, 1) := by decide +kernel
theorem d_Machine_step_6 : decode prog_7_method_6_code 6 = .ok (.invokevirtual 132, 3) := by decide +kernel
theorem u_1653 : Cond.methodLink "FilterGuard$Machine" 132 ⟨"FilterGuard$Code", "behind", "(I)I"⟩ ∈ fg_g := fg_in (List.mem_of_getElem? (i := 1653) (by decide +kernel)) rfl
theorem d_Machine_step_9 : decode prog_7_method_6_code 9 = .ok (.putfield 76, 3) := by decide +kernel
theorem d_Machine_step_12 : decode prog_7_method_6_code 12 = .ok (.aload_n 0, 1) := by decide +kernel
theorem d_Machine_step_13 : decode prog_7_method_6_code 13 = .ok (.getfield 48, 3) := by decide +kernel
theorem d_Machine_step_16 : decode prog_7_method_6_code 16 = .ok (.getfield 98, 3) := by decide +kernel
theorem d_Machine_step_19 : decode prog_7_method_6_code 19 = .ok (.tableswitch 194 1 9 #[49, 189, 189, 189, 189, 92, 126, 140, 184], 49) := by decide +kernel
theorem d_Machine_step_68 : decode prog_7_method_6_code 68 = .ok (.aload_n 0, 1) := by decide +kernel
theorem d_Machine_step_69 : decode prog_7_method_6_code 69 = .ok (.getfield 18, 3) := by decide +kernel
theorem d_Machine_step_72 : decode prog_7_method_6_code 72 = .ok (.aload_n 0, 1) := by decide +kernel
theorem d_Machine_step_73 : decode prog_7_method_6_code 73 = .ok (.getfield 48, 3) := by decide +kernel
theorem d_Machine_step_76 : decode prog_7_method_6_code 76 = .ok (.getfield 136, 3) := by decide +kernel
theorem d_Machine_step_79 : decode prog_7_method_6_code 79 = .ok (.aload_n 0, 1) := by decide +kernel
theorem d_Machine_step_80 : decode prog_7_method_6_code 80 = .ok (.getfield 48, 3) := by decide +kernel
theorem d_Machine_step_83 : decode prog_7_method_6_code 83 = .ok (.getfield 139, 3) := by decide +kernel
theorem d_Machine_step_86 : decode prog_7_method_6_code 86 = .ok (.ifCond .ne 14, 3) := by decide +kernel
theorem d_Machine_step_100 : decode prog_7_method_6_code 100 = .ok (.aload_n 0, 1) := by decide +kernel
theorem d_Machine_step_101 : decode prog_7_method_6_code 101 = .ok (.getfield 48, 3) := by decide +kernel
theorem d_Machine_step_104 : decode prog_7_method_6_code 104 = .ok (.getfield 101, 3) := by decide +kernel
theorem d_Machine_step_107 : decode prog_7_method_6_code 107 = .ok (.i2l, 1) := by decide +kernel
theorem d_Machine_step_108 : decode prog_7_method_6_code 108 = .ok (.lastore, 1) := by decide +kernel
theorem d_Machine_step_109 : decode prog_7_method_6_code 109 = .ok (.iconst 1, 1) := by decide +kernel
theorem d_Machine_step_110 : decode prog_7_method_6_code 110 = .ok (.ireturn, 1) := by decide +kernel
theorem d_Machine_step_89 : decode prog_7_method_6_code 89 = .ok (.aload_n 0, 1) := by decide +kernel
theorem d_Machine_step_90 : decode prog_7_method_6_code 90 = .ok (.getfield 48, 3) := by decide +kernel
theorem d_Machine_step_93 : decode prog_7_method_6_code 93 = .ok (.iload_n 1, 1) := by decide +kernel
theorem d_Machine_step_94 : decode prog_7_method_6_code 94 = .ok (.invokevirtual 142, 3) := by decide +kernel
theorem u_1654 : Cond.methodLink "FilterGuard$Machine" 142 ⟨"FilterGuard$Code", "wideNumber", "(I)J"⟩ ∈ fg_g := fg_in (List.mem_of_getElem? (i := 1654) (by decide +kernel)) rfl
theorem d_Machine_step_97 : decode prog_7_method_6_code 97 = .ok (.goto 11, 3) := by decide +kernel
theorem d_Machine_step_208 : decode prog_7_method_6_code 208 = .ok (.aload_n 0, 1) := by decide +kernel
theorem d_Machine_step_209 : decode prog_7_method_6_code 209 = .ok (.invokevirtual 164, 3) := by decide +kernel
theorem u_1714 : Cond.methodLink "FilterGuard$Machine" 164 ⟨"FilterGuard$Machine", "memory", "()Z"⟩ ∈ fg_g := fg_in (List.mem_of_getElem? (i := 1714) (by decide +kernel)) rfl
theorem u_1717 : Cond.code ⟨"FilterGuard$Machine", "memory", "()Z"⟩ prog_7_method_11_code 6 (some .boolean) ∈ fg_g := fg_in (List.mem_of_getElem? (i := 1717) (by decide +kernel)) rfl
theorem u_1716 : Cond.instanceMethod ⟨"FilterGuard$Machine", "memory", "()Z"⟩ ∈ fg_g := fg_in (List.mem_of_getElem? (i := 1716) (by decide +kernel)) rfl
theorem u_83 : Cond.selects "FilterGuard$Machine" ⟨"FilterGuard$Machine", "memory", "()Z"⟩ ⟨"FilterGuard$Machine", "memory", "()Z"⟩ ∈ fg_g := fg_in (List.mem_of_getElem? (i := 83) (by decide +kernel)) rfl
theorem d_Machine_step_212 : decode prog_7_method_6_code 212 = .ok (.ireturn, 1) := by decide +kernel
theorem d_Machine_step_111 : decode prog_7_method_6_code 111 = .ok (.aload_n 0, 1) := by decide +kernel
theorem d_Machine_step_112 : decode prog_7_method_6_code 112 = .ok (.getfield 18, 3) := by decide +kernel
theorem d_Machine_step_115 : decode prog_7_method_6_code 115 = .ok (.aload_n 0, 1) := by decide +kernel
theorem d_Machine_step_116 : decode prog_7_method_6_code 116 = .ok (.getfield 48, 3) := by decide +kernel
theorem d_Machine_step_119 : decode prog_7_method_6_code 119 = .ok (.getfield 136, 3) := by decide +kernel
theorem d_Machine_step_122 : decode prog_7_method_6_code 122 = .ok (.aload_n 0, 1) := by decide +kernel
theorem d_Machine_step_123 : decode prog_7_method_6_code 123 = .ok (.aload_n 0, 1) := by decide +kernel
theorem d_Machine_step_124 : decode prog_7_method_6_code 124 = .ok (.getfield 18, 3) := by decide +kernel
theorem d_Machine_step_127 : decode prog_7_method_6_code 127 = .ok (.aload_n 0, 1) := by decide +kernel
theorem d_Machine_step_128 : decode prog_7_method_6_code 128 = .ok (.getfield 48, 3) := by decide +kernel
theorem d_Machine_step_131 : decode prog_7_method_6_code 131 = .ok (.getfield 136, 3) := by decide +kernel
theorem d_Machine_step_134 : decode prog_7_method_6_code 134 = .ok (.laload, 1) := by decide +kernel
theorem d_Machine_step_135 : decode prog_7_method_6_code 135 = .ok (.aload_n 0, 1) := by decide +kernel
theorem d_Machine_step_136 : decode prog_7_method_6_code 136 = .ok (.invokevirtual 145, 3) := by decide +kernel
theorem d_Machine_step_139 : decode prog_7_method_6_code 139 = .ok (.invokevirtual 149, 3) := by decide +kernel
theorem u_1660 : Cond.methodLink "FilterGuard$Machine" 149 ⟨"FilterGuard$Machine", "reckoned", "(JJ)J"⟩ ∈ fg_g := fg_in (List.mem_of_getElem? (i := 1660) (by decide +kernel)) rfl
theorem u_1663 : Cond.code ⟨"FilterGuard$Machine", "reckoned", "(JJ)J"⟩ prog_7_method_8_code 9 (some .long) ∈ fg_g := fg_in (List.mem_of_getElem? (i := 1663) (by decide +kernel)) rfl
theorem u_1662 : Cond.instanceMethod ⟨"FilterGuard$Machine", "reckoned", "(JJ)J"⟩ ∈ fg_g := fg_in (List.mem_of_getElem? (i := 1662) (by decide +kernel)) rfl
theorem u_75 : Cond.selects "FilterGuard$Machine" ⟨"FilterGuard$Machine", "reckoned", "(JJ)J"⟩ ⟨"FilterGuard$Machine", "reckoned", "(JJ)J"⟩ ∈ fg_g := fg_in (List.mem_of_getElem? (i := 75) (by decide +kernel)) rfl
theorem d_Machine_step_142 : decode prog_7_method_6_code 142 = .ok (.lastore, 1) := by decide +kernel
theorem d_Machine_step_143 : decode prog_7_method_6_code 143 = .ok (.iconst 1, 1) := by decide +kernel
theorem d_Machine_step_144 : decode prog_7_method_6_code 144 = .ok (.ireturn, 1) := by decide +kernel
theorem d_Machine_step_145 : decode prog_7_method_6_code 145 = .ok (.aload_n 0, 1) := by decide +kernel
theorem d_Machine_step_146 : decode prog_7_method_6_code 146 = .ok (.aload_n 0, 1) := by decide +kernel
theorem d_Machine_step_147 : decode prog_7_method_6_code 147 = .ok (.getfield 48, 3) := by decide +kernel
theorem d_Machine_step_150 : decode prog_7_method_6_code 150 = .ok (.iload_n 1, 1) := by decide +kernel
theorem d_Machine_step_151 : decode prog_7_method_6_code 151 = .ok (.invokevirtual 153, 3) := by decide +kernel
theorem u_1674 : Cond.methodLink "FilterGuard$Machine" 153 ⟨"FilterGuard$Code", "target", "(I)I"⟩ ∈ fg_g := fg_in (List.mem_of_getElem? (i := 1674) (by decide +kernel)) rfl
theorem d_Machine_step_154 : decode prog_7_method_6_code 154 = .ok (.putfield 76, 3) := by decide +kernel
theorem d_Machine_step_157 : decode prog_7_method_6_code 157 = .ok (.iconst 1, 1) := by decide +kernel
theorem d_Machine_step_158 : decode prog_7_method_6_code 158 = .ok (.ireturn, 1) := by decide +kernel
theorem d_Machine_step_159 : decode prog_7_method_6_code 159 = .ok (.aload_n 0, 1) := by decide +kernel
theorem d_Machine_step_160 : decode prog_7_method_6_code 160 = .ok (.aload_n 0, 1) := by decide +kernel
theorem d_Machine_step_161 : decode prog_7_method_6_code 161 = .ok (.aload_n 0, 1) := by decide +kernel
theorem d_Machine_step_162 : decode prog_7_method_6_code 162 = .ok (.getfield 18, 3) := by decide +kernel
theorem d_Machine_step_165 : decode prog_7_method_6_code 165 = .ok (.aload_n 0, 1) := by decide +kernel
theorem d_Machine_step_166 : decode prog_7_method_6_code 166 = .ok (.getfield 48, 3) := by decide +kernel
theorem d_Machine_step_169 : decode prog_7_method_6_code 169 = .ok (.getfield 136, 3) := by decide +kernel
theorem d_Machine_step_172 : decode prog_7_method_6_code 172 = .ok (.laload, 1) := by decide +kernel
theorem d_Machine_step_173 : decode prog_7_method_6_code 173 = .ok (.aload_n 0, 1) := by decide +kernel
theorem d_Machine_step_174 : decode prog_7_method_6_code 174 = .ok (.invokevirtual 145, 3) := by decide +kernel
theorem d_Machine_step_177 : decode prog_7_method_6_code 177 = .ok (.invokevirtual 156, 3) := by decide +kernel
theorem u_1675 : Cond.methodLink "FilterGuard$Machine" 156 ⟨"FilterGuard$Machine", "holds", "(JJ)Z"⟩ ∈ fg_g := fg_in (List.mem_of_getElem? (i := 1675) (by decide +kernel)) rfl
theorem u_1678 : Cond.code ⟨"FilterGuard$Machine", "holds", "(JJ)Z"⟩ prog_7_method_10_code 13 (some .boolean) ∈ fg_g := fg_in (List.mem_of_getElem? (i := 1678) (by decide +kernel)) rfl
theorem u_1677 : Cond.instanceMethod ⟨"FilterGuard$Machine", "holds", "(JJ)Z"⟩ ∈ fg_g := fg_in (List.mem_of_getElem? (i := 1677) (by decide +kernel)) rfl
theorem u_77 : Cond.selects "FilterGuard$Machine" ⟨"FilterGuard$Machine", "holds", "(JJ)Z"⟩ ⟨"FilterGuard$Machine", "holds", "(JJ)Z"⟩ ∈ fg_g := fg_in (List.mem_of_getElem? (i := 77) (by decide +kernel)) rfl
theorem d_Machine_step_180 : decode prog_7_method_6_code 180 = .ok (.ifCond .eq 14, 3) := by decide +kernel
theorem d_Machine_step_194 : decode prog_7_method_6_code 194 = .ok (.aload_n 0, 1) := by decide +kernel
theorem d_Machine_step_195 : decode prog_7_method_6_code 195 = .ok (.getfield 76, 3) := by decide +kernel
theorem g_Machine_17 {p : Program} {l : Launch} {e : Env} {R : Room} {s : Jvm.State} {m : MethodId} {args : Array Value} {below : List Frame} {meth : Method} {c : Code} {H : Heap} {locs : List Loc} {cells slots : Nat} {Q : Jvm.State → Prop} {cc : ByteArray} {pc : Nat} {ls : Array Slot} {rest : List Value} {D : va_G} {ad : Nat → Nat → Nat} {ca : Nat → ClassId} {M : me_M} {N : Nat → Nat} {own : String} {index j : Nat} (hexec : p.tables.exec = Jvm.exec) (hb : c.code = cc) (hts : ∀ w ∈ fg_g, w.before args s = true) (hown : s.vm.findClass own = some m.cls) (hK : va_K D classes (me_T ca) s) (hP : va_P D classes (me_W ad ca M) H) (hwf : me_wf N M) (hj : j < N 5) (hlink : (Cond.fieldLink own index "FilterGuard$Machine" "at" "I").before args s = true) (hdg : decode cc pc = .ok (.getfield index, 3)) (kk : W p l e R s m args below meth c H locs cells slots Q (F0 m (pc + 3) ls (.int (mI M 5 j 17) :: rest))) : W p l e R s m args below meth c H locs cells slots Q (F0 m pc ls (.ref (ad 5 j) :: rest)) := me_get (k := 5) (f := 17) (C := "FilterGuard$Machine") (T := F_Machine) (Nf := 20) hexec hb hts i_Machine hown hK hP hwf hj (by decide) rfl (by decide) (by decide) hlink (fun _ h9 => h9) hdg kk
theorem d_Machine_step_198 : decode prog_7_method_6_code 198 = .ok (.putfield 76, 3) := by decide +kernel
theorem d_Machine_step_201 : decode prog_7_method_6_code 201 = .ok (.iconst 1, 1) := by decide +kernel
theorem d_Machine_step_202 : decode prog_7_method_6_code 202 = .ok (.ireturn, 1) := by decide +kernel
theorem d_Machine_step_183 : decode prog_7_method_6_code 183 = .ok (.aload_n 0, 1) := by decide +kernel
theorem d_Machine_step_184 : decode prog_7_method_6_code 184 = .ok (.getfield 48, 3) := by decide +kernel
theorem d_Machine_step_187 : decode prog_7_method_6_code 187 = .ok (.iload_n 1, 1) := by decide +kernel
theorem d_Machine_step_188 : decode prog_7_method_6_code 188 = .ok (.invokevirtual 153, 3) := by decide +kernel
theorem d_Machine_step_191 : decode prog_7_method_6_code 191 = .ok (.goto 7, 3) := by decide +kernel
theorem d_Machine_step_203 : decode prog_7_method_6_code 203 = .ok (.aload_n 0, 1) := by decide +kernel
theorem d_Machine_step_204 : decode prog_7_method_6_code 204 = .ok (.invokevirtual 160, 3) := by decide +kernel
theorem u_1680 : Cond.methodLink "FilterGuard$Machine" 160 ⟨"FilterGuard$Machine", "help", "()Z"⟩ ∈ fg_g := fg_in (List.mem_of_getElem? (i := 1680) (by decide +kernel)) rfl
theorem u_1683 : Cond.code ⟨"FilterGuard$Machine", "help", "()Z"⟩ prog_7_method_16_code 1 (some .boolean) ∈ fg_g := fg_in (List.mem_of_getElem? (i := 1683) (by decide +kernel)) rfl
theorem u_1682 : Cond.instanceMethod ⟨"FilterGuard$Machine", "help", "()Z"⟩ ∈ fg_g := fg_in (List.mem_of_getElem? (i := 1682) (by decide +kernel)) rfl
theorem u_78 : Cond.selects "FilterGuard$Machine" ⟨"FilterGuard$Machine", "help", "()Z"⟩ ⟨"FilterGuard$Machine", "help", "()Z"⟩ ∈ fg_g := fg_in (List.mem_of_getElem? (i := 78) (by decide +kernel)) rfl
theorem d_Machine_step_207 : decode prog_7_method_6_code 207 = .ok (.ireturn, 1) := by decide +kernel
theorem d_Machine_step_213 : decode prog_7_method_6_code 213 = .ok (.iconst 0, 1) := by decide +kernel
theorem d_Machine_step_214 : decode prog_7_method_6_code 214 = .ok (.ireturn, 1) := by decide +kernel
abbrev y_Machine_step : MethodName := ⟨"FilterGuard$Machine", "step", "(I)Z"⟩
def rm_Machine_step : Room := { frames := 6, cells := 0, slots := 0, locals := 141 }
abbrev q_Machine_step (D : va_G) (ad : Nat → Nat → Nat) (ca : Nat → ClassId) (N : Nat → Nat) (M0 MZ : me_M) (RZ : Int32) (A : Nat → Prop) : Array Value → Jvm.State → Outcome → Jvm.State → Prop := va_Qi (fun r (_ : Unit) => r = RZ ∧ me_wf N MZ ∧ me_kz M0 MZ ∧ (RZ = 1 ∨ RZ = 0)) (fg_B D A (fun _ => me_W ad ca MZ) (fun _ => [])) A
set_option maxHeartbeats 4000000 in
set_option maxRecDepth 100000 in
theorem c_Machine_step (l : Launch) (D : va_G) (ad : Nat → Nat → Nat) (ca : Nat → ClassId) (N : Nat → Nat) (M0 MZ : me_M) (RZ : Int32) (j0 : Nat) (x1 : Int32) (h : f_Machine_step M0 j0 x1 = (some (MZ, RZ))) (hwf : me_wf N M0) (hj0 : j0 < N 5) (sz : Nat) : Met l y_Machine_step (fg_w y_Machine_step prog_7_method_6_code 2 (some .boolean)) rm_Machine_step (va_Pc [.ref (ad 5 j0), .int x1] (fz_P D (me_T ca) (me_W ad ca M0) sz)) (q_Machine_step D ad ca N M0 MZ RZ (va_A (me_W ad ca M0) sz)) rm_Machine_step.cells rm_Machine_step.slots (va_A (me_W ad ca M0) sz) := by
  refine fz_enter (fun A => q_Machine_step D ad ca N M0 MZ RZ A) (by decide +kernel) (Nat.le_of_ble_eq_true rfl) ?_
  intro p e s m below meth c ls A hx hb hml hown hts hr hlocks hin hP hK hD hS hA hX hl hz
  have hl : lv_has ls 2 [(0, .ref (ad 5 j0)), (1, .int x1)] := hl
  unfold f_Machine_step at h
  have hkp : me_kz M0 M0 := me_kz.rf
  have hkb := hkp
  refine lv_aload_n hx hb d_Machine_step_0 rfl (lv_at hl 0 rfl) ?_
  refine lv_aload_n hx hb d_Machine_step_1 rfl (lv_at hl 0 rfl) ?_
  refine g_Machine_16 hx hb hts hown hK hP hwf hj0 (hts _ u_648) d_Machine_step_2 ?_
  obtain ⟨j1, e2, h⟩ := bd_ob h
  have hj1 : j1 < N 2 := (hwf.2.1 5 j0 16 _ e2 (by decide) hj0)
  refine me_opt (j := j1) e2 ?_
  refine lv_iload_n hx hb d_Machine_step_5 rfl (lv_at hl 1 rfl) ?_
  obtain ⟨M3, r4, eM3, h⟩ := b2_ob h
  refine me_theni0 (M1 := M3) (me_runV (C := "FilterGuard$Code") (As := [.int x1]) (rest := [.ref (ad 5 j0)]) ⟨hx, hb, hml, hown, hts⟩ (c_Code_behind l D ad ca N M0 M3 r4 j1 x1 eM3 hwf hj1 _) rfl (by show fg_nm y_Code_behind 1; decide +kernel) u_1653 u_1440 u_1441 u_182 u_1442 ⟨Nat.le_of_ble_eq_true rfl, Nat.le_of_ble_eq_true rfl⟩ hX hz hK hP hD hwf hS hA hj1 (by decide) rfl rfl rfl hl.1 (Nat.le_of_ble_eq_true rfl) d_Machine_step_6 ⟨Nat.le_of_ble_eq_true rfl, Nat.le_of_ble_eq_true rfl⟩) hP hD hK hS hA rfl rfl (fun H locs hw hP hD hS => ?_)
  obtain ⟨hwf, hk9⟩ := hw
  have hkp := hkp.tr hk9.z
  obtain ⟨M5, eM5, h⟩ := st_ob h
  refine p_Machine_17 eM5 hx hb hts hown hK hP hD hwf hS hj0 (hts _ u_649) d_Machine_step_9 (fun H locs hP hD hwf hS => ?_)
  have hkp := kz_I eM5 hkp
  refine lv_aload_n hx hb d_Machine_step_12 rfl (lv_at hl 0 rfl) ?_
  refine g_Machine_16 hx hb hts hown hK hP hwf hj0 (hts _ u_648) d_Machine_step_13 ?_
  obtain ⟨j6, e7, h⟩ := bd_ob h
  have hj6 : j6 < N 2 := (hwf.2.1 5 j0 16 _ e7 (by decide) hj0)
  refine me_opt (j := j6) e7 ?_
  refine g_Code_10 hx hb hts hown hK hP hwf hj6 (hts _ u_254) d_Machine_step_16 ?_
  refine lv_topi (fun w8 ew8 => ?_)
  by_cases n9 : w8 = 1
  · have h := if_t (ew8.symm.trans n9) h
    subst n9
    refine lv_tableIn (off := 49) (tgt := 68) hx hb d_Machine_step_19 (by decide) (by decide) (by decide) (by decide) ?_
    refine lv_aload_n hx hb d_Machine_step_68 rfl (lv_at hl 0 rfl) ?_
    refine g_Machine_6 hx hb hts hown hK hP hwf hj0 (hts _ u_629) d_Machine_step_69 ?_
    obtain ⟨j10, e11, h⟩ := bd_ob h
    have hj10 : j10 < N 16 := (hwf.2.1 5 j0 6 _ e11 (by decide) hj0)
    refine me_opt (j := j10) e11 ?_
    refine lv_aload_n hx hb d_Machine_step_72 rfl (lv_at hl 0 rfl) ?_
    refine g_Machine_16 hx hb hts hown hK hP hwf hj0 (hts _ u_648) d_Machine_step_73 ?_
    refine me_opt (j := j6) e7 ?_
    refine g_Code_6 hx hb hts hown hK hP hwf hj6 (hts _ u_235) d_Machine_step_76 ?_
    refine lv_aload_n hx hb d_Machine_step_79 rfl (lv_at hl 0 rfl) ?_
    refine g_Machine_16 hx hb hts hown hK hP hwf hj0 (hts _ u_648) d_Machine_step_80 ?_
    refine me_opt (j := j6) e7 ?_
    refine g_Code_7 hx hb hts hown hK hP hwf hj6 (hts _ u_241) d_Machine_step_83 ?_
    refine lv_if_ne (tgt := 100) hx hb d_Machine_step_86 (by decide) (fun c12 => ?_) (fun c12 => ?_)
    · have h := if_f c12 h
      refine lv_aload_n hx hb d_Machine_step_100 rfl (lv_at hl 0 rfl) ?_
      refine g_Machine_16 hx hb hts hown hK hP hwf hj0 (hts _ u_648) d_Machine_step_101 ?_
      refine me_opt (j := j6) e7 ?_
      refine g_Code_9 hx hb hts hown hK hP hwf hj6 (hts _ u_249) d_Machine_step_104 ?_
      refine lv_i2l (v := (mI M5 2 j6 9).toInt64) hx hb d_Machine_step_107 rfl ?_
      obtain ⟨g13, h⟩ := gd_ob h
      obtain ⟨M14, eM14, h⟩ := st_ob h
      refine me_last eM14 hx hb hK hP hD hwf hS hj10 (kp_z hkb hkp g13) d_Machine_step_108 (fun H locs hP hD hwf hS => ?_)
      have hkp := kz_L eM14 hkp
      refine lv_iconst (v := 1) hx hb d_Machine_step_109 (by decide) ?_
      exact me_retz (me_kz M0) h (by decide) hx hb hr hlocks hwf hkp hP hK hD hS d_Machine_step_110
    have h := if_t c12 h
    refine lv_aload_n hx hb d_Machine_step_89 rfl (lv_at hl 0 rfl) ?_
    refine g_Machine_16 hx hb hts hown hK hP hwf hj0 (hts _ u_648) d_Machine_step_90 ?_
    refine me_opt (j := j6) e7 ?_
    refine lv_iload_n hx hb d_Machine_step_93 rfl (lv_at hl 1 rfl) ?_
    obtain ⟨M15, r16, eM15, h⟩ := b2_ob h
    refine me_thenl0 (M1 := M15) (me_runV (C := "FilterGuard$Code") (As := [.int x1]) (rest := [.int (mI M5 2 j6 6), .ref (ad 16 j10)]) ⟨hx, hb, hml, hown, hts⟩ (c_Code_wideNumber l D ad ca N M5 M15 r16 j6 x1 eM15 hwf hj6 _) rfl (by show fg_nm y_Code_wideNumber 1; decide +kernel) u_1654 u_1100 u_1101 u_182 u_1102 ⟨Nat.le_of_ble_eq_true rfl, Nat.le_of_ble_eq_true rfl⟩ hX hz hK hP hD hwf hS hA hj6 (by decide) rfl rfl rfl hl.1 (Nat.le_of_ble_eq_true rfl) d_Machine_step_94 ⟨Nat.le_of_ble_eq_true rfl, Nat.le_of_ble_eq_true rfl⟩) hP hD hK hS hA rfl rfl (fun H locs hw hP hD hS => ?_)
    obtain ⟨hwf, hk9⟩ := hw
    have hkp := hkp.tr hk9.z
    refine lv_goto (tgt := 108) hx hb d_Machine_step_97 (by decide) ?_
    obtain ⟨g17, h⟩ := gd_ob h
    obtain ⟨M18, eM18, h⟩ := st_ob h
    refine me_last eM18 hx hb hK hP hD hwf hS hj10 (kp_z hkb hkp g17) d_Machine_step_108 (fun H locs hP hD hwf hS => ?_)
    have hkp := kz_L eM18 hkp
    refine lv_iconst (v := 1) hx hb d_Machine_step_109 (by decide) ?_
    exact me_retz (me_kz M0) h (by decide) hx hb hr hlocks hwf hkp hP hK hD hS d_Machine_step_110
  have h := if_f (fun z => n9 (ew8.trans z)) h
  by_cases n19 : w8 = 2
  · have h := if_t (ew8.symm.trans n19) h
    subst n19
    refine lv_tableIn (off := 189) (tgt := 208) hx hb d_Machine_step_19 (by decide) (by decide) (by decide) (by decide) ?_
    refine lv_aload_n hx hb d_Machine_step_208 rfl (lv_at hl 0 rfl) ?_
    obtain ⟨M20, r21, eM20, h⟩ := b2_ob h
    refine me_theni0 (M1 := M20) (me_runV (C := "FilterGuard$Machine") (As := []) (rest := []) ⟨hx, hb, hml, hown, hts⟩ (c_Machine_memory l D ad ca N M5 M20 r21 j0 eM20 hwf hj0 _) rfl (by show fg_nm y_Machine_memory 0; decide +kernel) u_1714 u_1716 u_83 u_190 u_1717 ⟨Nat.le_of_ble_eq_true rfl, Nat.le_of_ble_eq_true rfl⟩ hX hz hK hP hD hwf hS hA hj0 (by decide) rfl rfl rfl hl.1 (Nat.le_of_ble_eq_true rfl) d_Machine_step_209 ⟨Nat.le_of_ble_eq_true rfl, Nat.le_of_ble_eq_true rfl⟩) hP hD hK hS hA rfl rfl (fun H locs hw hP hD hS => ?_)
    obtain ⟨hwf, hk9, zr21⟩ := hw
    have hkp := hkp.tr hk9
    exact me_retz (me_kz M0) h zr21 hx hb hr hlocks hwf hkp hP hK hD hS d_Machine_step_212
  have h := if_f (fun z => n19 (ew8.trans z)) h
  by_cases n22 : w8 = 3
  · have h := if_t (ew8.symm.trans n22) h
    subst n22
    refine lv_tableIn (off := 189) (tgt := 208) hx hb d_Machine_step_19 (by decide) (by decide) (by decide) (by decide) ?_
    refine lv_aload_n hx hb d_Machine_step_208 rfl (lv_at hl 0 rfl) ?_
    obtain ⟨M23, r24, eM23, h⟩ := b2_ob h
    refine me_theni0 (M1 := M23) (me_runV (C := "FilterGuard$Machine") (As := []) (rest := []) ⟨hx, hb, hml, hown, hts⟩ (c_Machine_memory l D ad ca N M5 M23 r24 j0 eM23 hwf hj0 _) rfl (by show fg_nm y_Machine_memory 0; decide +kernel) u_1714 u_1716 u_83 u_190 u_1717 ⟨Nat.le_of_ble_eq_true rfl, Nat.le_of_ble_eq_true rfl⟩ hX hz hK hP hD hwf hS hA hj0 (by decide) rfl rfl rfl hl.1 (Nat.le_of_ble_eq_true rfl) d_Machine_step_209 ⟨Nat.le_of_ble_eq_true rfl, Nat.le_of_ble_eq_true rfl⟩) hP hD hK hS hA rfl rfl (fun H locs hw hP hD hS => ?_)
    obtain ⟨hwf, hk9, zr24⟩ := hw
    have hkp := hkp.tr hk9
    exact me_retz (me_kz M0) h zr24 hx hb hr hlocks hwf hkp hP hK hD hS d_Machine_step_212
  have h := if_f (fun z => n22 (ew8.trans z)) h
  by_cases n25 : w8 = 4
  · have h := if_t (ew8.symm.trans n25) h
    subst n25
    refine lv_tableIn (off := 189) (tgt := 208) hx hb d_Machine_step_19 (by decide) (by decide) (by decide) (by decide) ?_
    refine lv_aload_n hx hb d_Machine_step_208 rfl (lv_at hl 0 rfl) ?_
    obtain ⟨M26, r27, eM26, h⟩ := b2_ob h
    refine me_theni0 (M1 := M26) (me_runV (C := "FilterGuard$Machine") (As := []) (rest := []) ⟨hx, hb, hml, hown, hts⟩ (c_Machine_memory l D ad ca N M5 M26 r27 j0 eM26 hwf hj0 _) rfl (by show fg_nm y_Machine_memory 0; decide +kernel) u_1714 u_1716 u_83 u_190 u_1717 ⟨Nat.le_of_ble_eq_true rfl, Nat.le_of_ble_eq_true rfl⟩ hX hz hK hP hD hwf hS hA hj0 (by decide) rfl rfl rfl hl.1 (Nat.le_of_ble_eq_true rfl) d_Machine_step_209 ⟨Nat.le_of_ble_eq_true rfl, Nat.le_of_ble_eq_true rfl⟩) hP hD hK hS hA rfl rfl (fun H locs hw hP hD hS => ?_)
    obtain ⟨hwf, hk9, zr27⟩ := hw
    have hkp := hkp.tr hk9
    exact me_retz (me_kz M0) h zr27 hx hb hr hlocks hwf hkp hP hK hD hS d_Machine_step_212
  have h := if_f (fun z => n25 (ew8.trans z)) h
  by_cases n28 : w8 = 5
  · have h := if_t (ew8.symm.trans n28) h
    subst n28
    refine lv_tableIn (off := 189) (tgt := 208) hx hb d_Machine_step_19 (by decide) (by decide) (by decide) (by decide) ?_
    refine lv_aload_n hx hb d_Machine_step_208 rfl (lv_at hl 0 rfl) ?_
    obtain ⟨M29, r30, eM29, h⟩ := b2_ob h
    refine me_theni0 (M1 := M29) (me_runV (C := "FilterGuard$Machine") (As := []) (rest := []) ⟨hx, hb, hml, hown, hts⟩ (c_Machine_memory l D ad ca N M5 M29 r30 j0 eM29 hwf hj0 _) rfl (by show fg_nm y_Machine_memory 0; decide +kernel) u_1714 u_1716 u_83 u_190 u_1717 ⟨Nat.le_of_ble_eq_true rfl, Nat.le_of_ble_eq_true rfl⟩ hX hz hK hP hD hwf hS hA hj0 (by decide) rfl rfl rfl hl.1 (Nat.le_of_ble_eq_true rfl) d_Machine_step_209 ⟨Nat.le_of_ble_eq_true rfl, Nat.le_of_ble_eq_true rfl⟩) hP hD hK hS hA rfl rfl (fun H locs hw hP hD hS => ?_)
    obtain ⟨hwf, hk9, zr30⟩ := hw
    have hkp := hkp.tr hk9
    exact me_retz (me_kz M0) h zr30 hx hb hr hlocks hwf hkp hP hK hD hS d_Machine_step_212
  have h := if_f (fun z => n28 (ew8.trans z)) h
  by_cases n31 : w8 = 6
  · have h := if_t (ew8.symm.trans n31) h
    subst n31
    refine lv_tableIn (off := 92) (tgt := 111) hx hb d_Machine_step_19 (by decide) (by decide) (by decide) (by decide) ?_
    refine lv_aload_n hx hb d_Machine_step_111 rfl (lv_at hl 0 rfl) ?_
    refine g_Machine_6 hx hb hts hown hK hP hwf hj0 (hts _ u_629) d_Machine_step_112 ?_
    obtain ⟨j32, e33, h⟩ := bd_ob h
    have hj32 : j32 < N 16 := (hwf.2.1 5 j0 6 _ e33 (by decide) hj0)
    refine me_opt (j := j32) e33 ?_
    refine lv_aload_n hx hb d_Machine_step_115 rfl (lv_at hl 0 rfl) ?_
    refine g_Machine_16 hx hb hts hown hK hP hwf hj0 (hts _ u_648) d_Machine_step_116 ?_
    refine me_opt (j := j6) e7 ?_
    refine g_Code_6 hx hb hts hown hK hP hwf hj6 (hts _ u_235) d_Machine_step_119 ?_
    refine lv_aload_n hx hb d_Machine_step_122 rfl (lv_at hl 0 rfl) ?_
    refine lv_aload_n hx hb d_Machine_step_123 rfl (lv_at hl 0 rfl) ?_
    refine g_Machine_6 hx hb hts hown hK hP hwf hj0 (hts _ u_629) d_Machine_step_124 ?_
    refine me_opt (j := j32) e33 ?_
    refine lv_aload_n hx hb d_Machine_step_127 rfl (lv_at hl 0 rfl) ?_
    refine g_Machine_16 hx hb hts hown hK hP hwf hj0 (hts _ u_648) d_Machine_step_128 ?_
    refine me_opt (j := j6) e7 ?_
    refine g_Code_6 hx hb hts hown hK hP hwf hj6 (hts _ u_235) d_Machine_step_131 ?_
    obtain ⟨g34, h⟩ := gd_ob h
    refine me_lald hx hb hK hP hwf hj32 (kp_z hkb hkp g34) d_Machine_step_134 ?_
    refine lv_aload_n hx hb d_Machine_step_135 rfl (lv_at hl 0 rfl) ?_
    obtain ⟨M35, r36, eM35, h⟩ := b2_ob h
    refine me_thenl0 (M1 := M35) (me_runV (C := "FilterGuard$Machine") (As := []) (rest := [.long (mL M5 16 j32 (mI M5 2 j6 6).toNatClampNeg), .ref (ad 5 j0), .int (mI M5 2 j6 6), .ref (ad 16 j32)]) ⟨hx, hb, hml, hown, hts⟩ (c_Machine_operand l D ad ca N M5 M35 r36 j0 eM35 hwf hj0 _) rfl (by show fg_nm y_Machine_operand 0; decide +kernel) u_1655 u_1657 u_74 u_190 u_1658 ⟨Nat.le_of_ble_eq_true rfl, Nat.le_of_ble_eq_true rfl⟩ hX hz hK hP hD hwf hS hA hj0 (by decide) rfl rfl rfl hl.1 (Nat.le_of_ble_eq_true rfl) d_Machine_step_136 ⟨Nat.le_of_ble_eq_true rfl, Nat.le_of_ble_eq_true rfl⟩) hP hD hK hS hA rfl rfl (fun H locs hw hP hD hS => ?_)
    obtain ⟨hwf, hk9⟩ := hw
    have hkp := hkp.tr hk9.z
    obtain ⟨M37, r38, eM37, h⟩ := b2_ob h
    refine me_thenl0 (M1 := M37) (me_runV (C := "FilterGuard$Machine") (As := [.long (mL M5 16 j32 (mI M5 2 j6 6).toNatClampNeg), .long r36]) (rest := [.int (mI M5 2 j6 6), .ref (ad 16 j32)]) ⟨hx, hb, hml, hown, hts⟩ (c_Machine_reckoned l D ad ca N M35 M37 r38 j0 (mL M5 16 j32 (mI M5 2 j6 6).toNatClampNeg) r36 eM37 hwf hj0 _) rfl (by show fg_nm y_Machine_reckoned 2; decide +kernel) u_1660 u_1662 u_75 u_190 u_1663 ⟨Nat.le_of_ble_eq_true rfl, Nat.le_of_ble_eq_true rfl⟩ hX hz hK hP hD hwf hS hA hj0 (by decide) rfl rfl rfl hl.1 (Nat.le_of_ble_eq_true rfl) d_Machine_step_139 ⟨Nat.le_of_ble_eq_true rfl, Nat.le_of_ble_eq_true rfl⟩) hP hD hK hS hA rfl rfl (fun H locs hw hP hD hS => ?_)
    obtain ⟨hwf, hk9⟩ := hw
    have hkp := hkp.tr hk9.z
    obtain ⟨M39, eM39, h⟩ := st_ob h
    refine me_last eM39 hx hb hK hP hD hwf hS hj32 (kp_z hkb hkp g34) d_Machine_step_142 (fun H locs hP hD hwf hS => ?_)
    have hkp := kz_L eM39 hkp
    refine lv_iconst (v := 1) hx hb d_Machine_step_143 (by decide) ?_
    exact me_retz (me_kz M0) h (by decide) hx hb hr hlocks hwf hkp hP hK hD hS d_Machine_step_144
  have h := if_f (fun z => n31 (ew8.trans z)) h
  by_cases n40 : w8 = 7
  · have h := if_t (ew8.symm.trans n40) h
    subst n40
    refine lv_tableIn (off := 126) (tgt := 145) hx hb d_Machine_step_19 (by decide) (by decide) (by decide) (by decide) ?_
    refine lv_aload_n hx hb d_Machine_step_145 rfl (lv_at hl 0 rfl) ?_
    refine lv_aload_n hx hb d_Machine_step_146 rfl (lv_at hl 0 rfl) ?_
    refine g_Machine_16 hx hb hts hown hK hP hwf hj0 (hts _ u_648) d_Machine_step_147 ?_
    refine me_opt (j := j6) e7 ?_
    refine lv_iload_n hx hb d_Machine_step_150 rfl (lv_at hl 1 rfl) ?_
    obtain ⟨M41, r42, eM41, h⟩ := b2_ob h
    refine me_theni0 (M1 := M41) (me_runV (C := "FilterGuard$Code") (As := [.int x1]) (rest := [.ref (ad 5 j0)]) ⟨hx, hb, hml, hown, hts⟩ (c_Code_target l D ad ca N M5 M41 r42 j6 x1 eM41 hwf hj6 _) rfl (by show fg_nm y_Code_target 1; decide +kernel) u_1674 u_1005 u_1006 u_182 u_1007 ⟨Nat.le_of_ble_eq_true rfl, Nat.le_of_ble_eq_true rfl⟩ hX hz hK hP hD hwf hS hA hj6 (by decide) rfl rfl rfl hl.1 (Nat.le_of_ble_eq_true rfl) d_Machine_step_151 ⟨Nat.le_of_ble_eq_true rfl, Nat.le_of_ble_eq_true rfl⟩) hP hD hK hS hA rfl rfl (fun H locs hw hP hD hS => ?_)
    obtain ⟨hwf, hk9⟩ := hw
    have hkp := hkp.tr hk9.z
    obtain ⟨M43, eM43, h⟩ := st_ob h
    refine p_Machine_17 eM43 hx hb hts hown hK hP hD hwf hS hj0 (hts _ u_649) d_Machine_step_154 (fun H locs hP hD hwf hS => ?_)
    have hkp := kz_I eM43 hkp
    refine lv_iconst (v := 1) hx hb d_Machine_step_157 (by decide) ?_
    exact me_retz (me_kz M0) h (by decide) hx hb hr hlocks hwf hkp hP hK hD hS d_Machine_step_158
  have h := if_f (fun z => n40 (ew8.trans z)) h
  by_cases n44 : w8 = 8
  · have h := if_t (ew8.symm.trans n44) h
    subst n44
    refine lv_tableIn (off := 140) (tgt := 159) hx hb d_Machine_step_19 (by decide) (by decide) (by decide) (by decide) ?_
    refine lv_aload_n hx hb d_Machine_step_159 rfl (lv_at hl 0 rfl) ?_
    refine lv_aload_n hx hb d_Machine_step_160 rfl (lv_at hl 0 rfl) ?_
    refine lv_aload_n hx hb d_Machine_step_161 rfl (lv_at hl 0 rfl) ?_
    refine g_Machine_6 hx hb hts hown hK hP hwf hj0 (hts _ u_629) d_Machine_step_162 ?_
    obtain ⟨j45, e46, h⟩ := bd_ob h
    have hj45 : j45 < N 16 := (hwf.2.1 5 j0 6 _ e46 (by decide) hj0)
    refine me_opt (j := j45) e46 ?_
    refine lv_aload_n hx hb d_Machine_step_165 rfl (lv_at hl 0 rfl) ?_
    refine g_Machine_16 hx hb hts hown hK hP hwf hj0 (hts _ u_648) d_Machine_step_166 ?_
    refine me_opt (j := j6) e7 ?_
    refine g_Code_6 hx hb hts hown hK hP hwf hj6 (hts _ u_235) d_Machine_step_169 ?_
    obtain ⟨g47, h⟩ := gd_ob h
    refine me_lald hx hb hK hP hwf hj45 (kp_z hkb hkp g47) d_Machine_step_172 ?_
    refine lv_aload_n hx hb d_Machine_step_173 rfl (lv_at hl 0 rfl) ?_
    obtain ⟨M48, r49, eM48, h⟩ := b2_ob h
    refine me_thenl0 (M1 := M48) (me_runV (C := "FilterGuard$Machine") (As := []) (rest := [.long (mL M5 16 j45 (mI M5 2 j6 6).toNatClampNeg), .ref (ad 5 j0), .ref (ad 5 j0)]) ⟨hx, hb, hml, hown, hts⟩ (c_Machine_operand l D ad ca N M5 M48 r49 j0 eM48 hwf hj0 _) rfl (by show fg_nm y_Machine_operand 0; decide +kernel) u_1655 u_1657 u_74 u_190 u_1658 ⟨Nat.le_of_ble_eq_true rfl, Nat.le_of_ble_eq_true rfl⟩ hX hz hK hP hD hwf hS hA hj0 (by decide) rfl rfl rfl hl.1 (Nat.le_of_ble_eq_true rfl) d_Machine_step_174 ⟨Nat.le_of_ble_eq_true rfl, Nat.le_of_ble_eq_true rfl⟩) hP hD hK hS hA rfl rfl (fun H locs hw hP hD hS => ?_)
    obtain ⟨hwf, hk9⟩ := hw
    have hkp := hkp.tr hk9.z
    obtain ⟨M50, r51, eM50, h⟩ := b2_ob h
    refine me_theni0 (M1 := M50) (me_runV (C := "FilterGuard$Machine") (As := [.long (mL M5 16 j45 (mI M5 2 j6 6).toNatClampNeg), .long r49]) (rest := [.ref (ad 5 j0)]) ⟨hx, hb, hml, hown, hts⟩ (c_Machine_holds l D ad ca N M48 M50 r51 j0 (mL M5 16 j45 (mI M5 2 j6 6).toNatClampNeg) r49 eM50 hwf hj0 _) rfl (by show fg_nm y_Machine_holds 2; decide +kernel) u_1675 u_1677 u_77 u_190 u_1678 ⟨Nat.le_of_ble_eq_true rfl, Nat.le_of_ble_eq_true rfl⟩ hX hz hK hP hD hwf hS hA hj0 (by decide) rfl rfl rfl hl.1 (Nat.le_of_ble_eq_true rfl) d_Machine_step_177 ⟨Nat.le_of_ble_eq_true rfl, Nat.le_of_ble_eq_true rfl⟩) hP hD hK hS hA rfl rfl (fun H locs hw hP hD hS => ?_)
    obtain ⟨hwf, hk9, zr51⟩ := hw
    have hkp := hkp.tr hk9.z
    refine lv_if_eq (tgt := 194) hx hb d_Machine_step_180 (by decide) (fun c52 => ?_) (fun c52 => ?_)
    · have h := if_t c52 h
      refine lv_aload_n hx hb d_Machine_step_194 rfl (lv_at hl 0 rfl) ?_
      refine g_Machine_17 hx hb hts hown hK hP hwf hj0 (hts _ u_649) d_Machine_step_195 ?_
      obtain ⟨M53, eM53, h⟩ := st_ob h
      refine p_Machine_17 eM53 hx hb hts hown hK hP hD hwf hS hj0 (hts _ u_649) d_Machine_step_198 (fun H locs hP hD hwf hS => ?_)
      have hkp := kz_I eM53 hkp
      refine lv_iconst (v := 1) hx hb d_Machine_step_201 (by decide) ?_
      exact me_retz (me_kz M0) h (by decide) hx hb hr hlocks hwf hkp hP hK hD hS d_Machine_step_202
    have h := if_f c52 h
    refine lv_aload_n hx hb d_Machine_step_183 rfl (lv_at hl 0 rfl) ?_
    refine g_Machine_16 hx hb hts hown hK hP hwf hj0 (hts _ u_648) d_Machine_step_184 ?_
    obtain ⟨j54, e55, h⟩ := bd_ob h
    have hj54 : j54 < N 2 := (hwf.2.1 5 j0 16 _ e55 (by decide) hj0)
    refine me_opt (j := j54) e55 ?_
    refine lv_iload_n hx hb d_Machine_step_187 rfl (lv_at hl 1 rfl) ?_
    obtain ⟨M56, r57, eM56, h⟩ := b2_ob h
    refine me_theni0 (M1 := M56) (me_runV (C := "FilterGuard$Code") (As := [.int x1]) (rest := [.ref (ad 5 j0)]) ⟨hx, hb, hml, hown, hts⟩ (c_Code_target l D ad ca N M50 M56 r57 j54 x1 eM56 hwf hj54 _) rfl (by show fg_nm y_Code_target 1; decide +kernel) u_1674 u_1005 u_1006 u_182 u_1007 ⟨Nat.le_of_ble_eq_true rfl, Nat.le_of_ble_eq_true rfl⟩ hX hz hK hP hD hwf hS hA hj54 (by decide) rfl rfl rfl hl.1 (Nat.le_of_ble_eq_true rfl) d_Machine_step_188 ⟨Nat.le_of_ble_eq_true rfl, Nat.le_of_ble_eq_true rfl⟩) hP hD hK hS hA rfl rfl (fun H locs hw hP hD hS => ?_)
    obtain ⟨hwf, hk9⟩ := hw
    have hkp := hkp.tr hk9.z
    refine lv_goto (tgt := 198) hx hb d_Machine_step_191 (by decide) ?_
    obtain ⟨M58, eM58, h⟩ := st_ob h
    refine p_Machine_17 eM58 hx hb hts hown hK hP hD hwf hS hj0 (hts _ u_649) d_Machine_step_198 (fun H locs hP hD hwf hS => ?_)
    have hkp := kz_I eM58 hkp
    refine lv_iconst (v := 1) hx hb d_Machine_step_201 (by decide) ?_
    exact me_retz (me_kz M0) h (by decide) hx hb hr hlocks hwf hkp hP hK hD hS d_Machine_step_202
  have h := if_f (fun z => n44 (ew8.trans z)) h
  by_cases n59 : w8 = 9
  · have h := if_t (ew8.symm.trans n59) h
    subst n59
    refine lv_tableIn (off := 184) (tgt := 203) hx hb d_Machine_step_19 (by decide) (by decide) (by decide) (by decide) ?_
    refine lv_aload_n hx hb d_Machine_step_203 rfl (lv_at hl 0 rfl) ?_
    obtain ⟨M60, r61, eM60, h⟩ := b2_ob h
    refine me_theni0 (M1 := M60) (me_runV (C := "FilterGuard$Machine") (As := []) (rest := []) ⟨hx, hb, hml, hown, hts⟩ (c_Machine_help l D ad ca N M5 M60 r61 j0 eM60 hwf hj0 _) rfl (by show fg_nm y_Machine_help 0; decide +kernel) u_1680 u_1682 u_78 u_190 u_1683 ⟨Nat.le_of_ble_eq_true rfl, Nat.le_of_ble_eq_true rfl⟩ hX hz hK hP hD hwf hS hA hj0 (by decide) rfl rfl rfl hl.1 (Nat.le_of_ble_eq_true rfl) d_Machine_step_204 ⟨Nat.le_of_ble_eq_true rfl, Nat.le_of_ble_eq_true rfl⟩) hP hD hK hS hA rfl rfl (fun H locs hw hP hD hS => ?_)
    obtain ⟨hwf, hk9, zr61⟩ := hw
    have hkp := hkp.tr hk9
    exact me_retz (me_kz M0) h zr61 hx hb hr hlocks hwf hkp hP hK hD hS d_Machine_step_207
  have h := if_f (fun z => n59 (ew8.trans z)) h
  have in9 := lv_neT n9 (show (1 : Int32).toInt = 1 from rfl)
  have in19 := lv_neT n19 (show (2 : Int32).toInt = 2 from rfl)
  have in22 := lv_neT n22 (show (3 : Int32).toInt = 3 from rfl)
  have in25 := lv_neT n25 (show (4 : Int32).toInt = 4 from rfl)
  have in28 := lv_neT n28 (show (5 : Int32).toInt = 5 from rfl)
  have in31 := lv_neT n31 (show (6 : Int32).toInt = 6 from rfl)
  have in40 := lv_neT n40 (show (7 : Int32).toInt = 7 from rfl)
  have in44 := lv_neT n44 (show (8 : Int32).toInt = 8 from rfl)
  have in59 := lv_neT n59 (show (9 : Int32).toInt = 9 from rfl)
  refine lv_tableOut (tgt := 213) hx hb d_Machine_step_19 (by omega) (by decide) ?_
  refine lv_iconst (v := 0) hx hb d_Machine_step_213 (by decide) ?_
  exact me_retz (me_kz M0) h (by decide) hx hb hr hlocks hwf hkp hP hK hD hS d_Machine_step_214
theorem d_Checks_find_0 : decode prog_3_method_3_code 0 = .ok (.aload_n 0, 1) := by decide +kernel
theorem d_Checks_find_1 : decode prog_3_method_3_code 1 = .ok (.getfield 22, 3) := by decide +kernel
theorem d_Checks_find_4 : decode prog_3_method_3_code 4 = .ok (.iconst 0, 1) := by decide +kernel
theorem d_Checks_find_5 : decode prog_3_method_3_code 5 = .ok (.aaload, 1) := by decide +kernel
theorem d_Checks_find_6 : decode prog_3_method_3_code 6 = .ok (.iload_n 1, 1) := by decide +kernel
theorem d_Checks_find_7 : decode prog_3_method_3_code 7 = .ok (.ifCond .eq 8, 3) := by decide +kernel
theorem d_Checks_find_15 : decode prog_3_method_3_code 15 = .ok (.iconst 1, 1) := by decide +kernel
theorem d_Checks_find_16 : decode prog_3_method_3_code 16 = .ok (.putfield 34, 3) := by decide +kernel
theorem d_Checks_find_19 : decode prog_3_method_3_code 19 = .ok (.return_, 1) := by decide +kernel
theorem d_Checks_find_10 : decode prog_3_method_3_code 10 = .ok (.bipush 7, 2) := by decide +kernel
theorem d_Checks_find_12 : decode prog_3_method_3_code 12 = .ok (.goto 4, 3) := by decide +kernel
abbrev y_Checks_find : MethodName := ⟨"FilterGuard$Checks", "find", "(Z)V"⟩
def rm_Checks_find : Room := { frames := 1, cells := 0, slots := 0, locals := 20 }
abbrev q_Checks_find (D : va_G) (ad : Nat → Nat → Nat) (ca : Nat → ClassId) (N : Nat → Nat) (M0 MZ : me_M) (A : Nat → Prop) : Array Value → Jvm.State → Outcome → Jvm.State → Prop := va_Qv (fun (_ : Unit) => me_wf N MZ ∧ me_kp M0 MZ) (fg_B D A (fun _ => me_W ad ca MZ) (fun _ => [])) A
set_option maxHeartbeats 4000000 in
set_option maxRecDepth 100000 in
theorem c_Checks_find (l : Launch) (D : va_G) (ad : Nat → Nat → Nat) (ca : Nat → ClassId) (N : Nat → Nat) (M0 MZ : me_M) (j0 : Nat) (x1 : Int32) (h : f_Checks_find M0 j0 x1 = (some MZ)) (hwf : me_wf N M0) (hj0 : j0 < N 6) (zx1 : x1 = 1 ∨ x1 = 0) (sz : Nat) : Met l y_Checks_find (fg_w y_Checks_find prog_3_method_3_code 2 none) rm_Checks_find (va_Pc [.ref (ad 6 j0), .int x1] (fz_P D (me_T ca) (me_W ad ca M0) sz)) (q_Checks_find D ad ca N M0 MZ (va_A (me_W ad ca M0) sz)) rm_Checks_find.cells rm_Checks_find.slots (va_A (me_W ad ca M0) sz) := by
  refine fz_enter (fun A => q_Checks_find D ad ca N M0 MZ A) (by decide +kernel) (Nat.le_of_ble_eq_true rfl) ?_
  intro p e s m below meth c ls A hx hb hml hown hts hr hlocks hin hP hK hD hS hA hX hl hz
  have hl : lv_has ls 2 [(0, .ref (ad 6 j0)), (1, .int x1)] := hl
  unfold f_Checks_find at h
  have hkp : me_kp M0 M0 := me_kp.rf
  have hkb := hkp
  refine lv_aload_n hx hb d_Checks_find_0 rfl (lv_at hl 0 rfl) ?_
  refine g_Checks_3 hx hb hts hown hK hP hwf hj0 (hts _ u_613) d_Checks_find_1 ?_
  obtain ⟨j1, e2, h⟩ := bd_ob h
  have hj1 : j1 < N 18 := (hwf.2.1 6 j0 3 _ e2 (by decide) hj0)
  refine me_opt (j := j1) e2 ?_
  refine lv_iconst (v := 0) hx hb d_Checks_find_4 (by decide) ?_
  obtain ⟨g3, h⟩ := gd_ob h
  refine me_aald (k := 18) (t := 10) hx hb hK hP hwf hj1 (by decide) (by decide) rfl (fun _ => rfl) (me_in (i := (0 : Int32)) (k := 0) (by decide) (by decide) g3) d_Checks_find_5 ?_
  rw [show (0 : Int32).toNatClampNeg = 0 by decide]
  obtain ⟨j4, e5, h⟩ := bd_ob h
  have hj4 : j4 < N 10 := (hwf.2.1 18 j1 0 _ e5 (by decide) hj1)
  refine me_opt (j := j4) e5 ?_
  refine lv_iload_n hx hb d_Checks_find_6 rfl (lv_at hl 1 rfl) ?_
  refine lv_if_eq (tgt := 15) hx hb d_Checks_find_7 (by decide) (fun c6 => ?_) (fun c6 => ?_)
  · have h := if_t c6 h
    refine lv_iconst (v := 1) hx hb d_Checks_find_15 (by decide) ?_
    obtain ⟨M7, eM7, h⟩ := st_ob h
    refine p_Cell_0 eM7 hx hb hts hown hK hP hD hwf hS hj4 (hts _ u_421) d_Checks_find_16 (fun H locs hP hD hwf hS => ?_)
    have hkp := kp_I eM7 hkp
    exact me_retv (me_kp M0) h hx hb hr hlocks hwf hkp hP hK hD hS d_Checks_find_19
  have h := if_f c6 h
  refine lv_bipush (v := 7) hx hb d_Checks_find_10 (by decide) ?_
  refine lv_goto (tgt := 16) hx hb d_Checks_find_12 (by decide) ?_
  obtain ⟨M8, eM8, h⟩ := st_ob h
  refine p_Cell_0 eM8 hx hb hts hown hK hP hD hwf hS hj4 (hts _ u_421) d_Checks_find_16 (fun H locs hP hD hwf hS => ?_)
  have hkp := kp_I eM8 hkp
  exact me_retv (me_kp M0) h hx hb hr hlocks hwf hkp hP hK hD hS d_Checks_find_19
