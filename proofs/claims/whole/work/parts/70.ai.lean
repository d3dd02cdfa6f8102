theorem d_Code_faultOfSlot_127 : decode prog_4_method_16_code 127 = .ok (.aload_n 0, 1) := by decide +kernel
theorem d_Code_faultOfSlot_128 : decode prog_4_method_16_code 128 = .ok (.getfield 55, 3) := by decide +kernel
theorem d_Code_faultOfSlot_131 : decode prog_4_method_16_code 131 = .ok (.iconst 1, 1) := by decide +kernel
theorem d_Code_faultOfSlot_132 : decode prog_4_method_16_code 132 = .ok (.if_icmp .ne 30, 3) := by decide +kernel
theorem d_Code_faultOfSlot_162 : decode prog_4_method_16_code 162 = .ok (.iconst 0, 1) := by decide +kernel
theorem d_Code_faultOfSlot_163 : decode prog_4_method_16_code 163 = .ok (.ireturn, 1) := by decide +kernel
theorem d_Code_faultOfSlot_135 : decode prog_4_method_16_code 135 = .ok (.aload_n 0, 1) := by decide +kernel
theorem d_Code_faultOfSlot_136 : decode prog_4_method_16_code 136 = .ok (.getfield 35, 3) := by decide +kernel
theorem d_Code_faultOfSlot_139 : decode prog_4_method_16_code 139 = .ok (.iconst 1, 1) := by decide +kernel
theorem d_Code_faultOfSlot_140 : decode prog_4_method_16_code 140 = .ok (.if_icmp .ne 22, 3) := by decide +kernel
theorem d_Code_faultOfSlot_143 : decode prog_4_method_16_code 143 = .ok (.aload_n 0, 1) := by decide +kernel
theorem d_Code_faultOfSlot_144 : decode prog_4_method_16_code 144 = .ok (.getfield 41, 3) := by decide +kernel
theorem d_Code_faultOfSlot_147 : decode prog_4_method_16_code 147 = .ok (.ifCond .lt 11, 3) := by decide +kernel
theorem d_Code_faultOfSlot_158 : decode prog_4_method_16_code 158 = .ok (.iconst 4, 1) := by decide +kernel
theorem d_Code_faultOfSlot_159 : decode prog_4_method_16_code 159 = .ok (.goto 4, 3) := by decide +kernel
theorem d_Code_faultOfSlot_150 : decode prog_4_method_16_code 150 = .ok (.aload_n 0, 1) := by decide +kernel
theorem d_Code_faultOfSlot_151 : decode prog_4_method_16_code 151 = .ok (.getfield 41, 3) := by decide +kernel
theorem d_Code_faultOfSlot_154 : decode prog_4_method_16_code 154 = .ok (.iload_n 2, 1) := by decide +kernel
theorem d_Code_faultOfSlot_155 : decode prog_4_method_16_code 155 = .ok (.if_icmp .lt 7, 3) := by decide +kernel
theorem d_Code_faultOfSlot_99 : decode prog_4_method_16_code 99 = .ok (.aload_n 0, 1) := by decide +kernel
theorem d_Code_faultOfSlot_100 : decode prog_4_method_16_code 100 = .ok (.getfield 55, 3) := by decide +kernel
theorem d_Code_faultOfSlot_103 : decode prog_4_method_16_code 103 = .ok (.bipush 9, 2) := by decide +kernel
theorem d_Code_faultOfSlot_105 : decode prog_4_method_16_code 105 = .ok (.if_icmp .ne 22, 3) := by decide +kernel
theorem d_Code_faultOfSlot_108 : decode prog_4_method_16_code 108 = .ok (.aload_n 0, 1) := by decide +kernel
theorem d_Code_faultOfSlot_109 : decode prog_4_method_16_code 109 = .ok (.getfield 41, 3) := by decide +kernel
theorem d_Code_faultOfSlot_112 : decode prog_4_method_16_code 112 = .ok (.iconst 1, 1) := by decide +kernel
theorem d_Code_faultOfSlot_113 : decode prog_4_method_16_code 113 = .ok (.if_icmp .lt 12, 3) := by decide +kernel
theorem d_Code_faultOfSlot_125 : decode prog_4_method_16_code 125 = .ok (.iconst 4, 1) := by decide +kernel
theorem d_Code_faultOfSlot_126 : decode prog_4_method_16_code 126 = .ok (.ireturn, 1) := by decide +kernel
theorem d_Code_faultOfSlot_116 : decode prog_4_method_16_code 116 = .ok (.aload_n 0, 1) := by decide +kernel
theorem d_Code_faultOfSlot_117 : decode prog_4_method_16_code 117 = .ok (.getfield 41, 3) := by decide +kernel
theorem d_Code_faultOfSlot_120 : decode prog_4_method_16_code 120 = .ok (.bipush 6, 2) := by decide +kernel
theorem d_Code_faultOfSlot_122 : decode prog_4_method_16_code 122 = .ok (.if_icmp .le 5, 3) := by decide +kernel
theorem d_Code_faultOfSlot_74 : decode prog_4_method_16_code 74 = .ok (.aload_n 0, 1) := by decide +kernel
theorem d_Code_faultOfSlot_75 : decode prog_4_method_16_code 75 = .ok (.getfield 55, 3) := by decide +kernel
theorem d_Code_faultOfSlot_78 : decode prog_4_method_16_code 78 = .ok (.bipush 6, 2) := by decide +kernel
theorem d_Code_faultOfSlot_80 : decode prog_4_method_16_code 80 = .ok (.if_icmp .ne 19, 3) := by decide +kernel
theorem d_Code_faultOfSlot_83 : decode prog_4_method_16_code 83 = .ok (.aload_n 0, 1) := by decide +kernel
theorem d_Code_faultOfSlot_84 : decode prog_4_method_16_code 84 = .ok (.getfield 68, 3) := by decide +kernel
theorem d_Code_faultOfSlot_87 : decode prog_4_method_16_code 87 = .ok (.ifCond .ne 12, 3) := by decide +kernel
theorem d_Code_faultOfSlot_90 : decode prog_4_method_16_code 90 = .ok (.aload_n 0, 1) := by decide +kernel
theorem d_Code_faultOfSlot_91 : decode prog_4_method_16_code 91 = .ok (.invokevirtual 111, 3) := by decide +kernel
theorem u_996 : Cond.methodLink "FilterGuard$Code" 111 ⟨"FilterGuard$Code", "isWrongField", "()Z"⟩ ∈ fg_g := fg_in (List.mem_of_getElem? (i := 996) (by decide +kernel)) rfl
theorem u_999 : Cond.code ⟨"FilterGuard$Code", "isWrongField", "()Z"⟩ prog_4_method_17_code 2 (some .boolean) ∈ fg_g := fg_in (List.mem_of_getElem? (i := 999) (by decide +kernel)) rfl
theorem u_998 : Cond.instanceMethod ⟨"FilterGuard$Code", "isWrongField", "()Z"⟩ ∈ fg_g := fg_in (List.mem_of_getElem? (i := 998) (by decide +kernel)) rfl
theorem u_10 : Cond.selects "FilterGuard$Code" ⟨"FilterGuard$Code", "isWrongField", "()Z"⟩ ⟨"FilterGuard$Code", "isWrongField", "()Z"⟩ ∈ fg_g := fg_in (List.mem_of_getElem? (i := 10) (by decide +kernel)) rfl
theorem d_Code_faultOfSlot_94 : decode prog_4_method_16_code 94 = .ok (.ifCond .eq 5, 3) := by decide +kernel
theorem d_Code_faultOfSlot_97 : decode prog_4_method_16_code 97 = .ok (.iconst 3, 1) := by decide +kernel
theorem d_Code_faultOfSlot_98 : decode prog_4_method_16_code 98 = .ok (.ireturn, 1) := by decide +kernel
theorem d_Code_faultOfSlot_40 : decode prog_4_method_16_code 40 = .ok (.istore_n 3, 1) := by decide +kernel
theorem d_Code_faultOfSlot_41 : decode prog_4_method_16_code 41 = .ok (.aload_n 0, 1) := by decide +kernel
theorem d_Code_faultOfSlot_42 : decode prog_4_method_16_code 42 = .ok (.getfield 32, 3) := by decide +kernel
theorem d_Code_faultOfSlot_45 : decode prog_4_method_16_code 45 = .ok (.bipush 10, 2) := by decide +kernel
theorem d_Code_faultOfSlot_47 : decode prog_4_method_16_code 47 = .ok (.if_icmp .gt 25, 3) := by decide +kernel
theorem d_Code_faultOfSlot_72 : decode prog_4_method_16_code 72 = .ok (.iconst 2, 1) := by decide +kernel
theorem d_Code_faultOfSlot_73 : decode prog_4_method_16_code 73 = .ok (.ireturn, 1) := by decide +kernel
theorem d_Code_faultOfSlot_50 : decode prog_4_method_16_code 50 = .ok (.aload_n 0, 1) := by decide +kernel
theorem d_Code_faultOfSlot_51 : decode prog_4_method_16_code 51 = .ok (.getfield 35, 3) := by decide +kernel
theorem d_Code_faultOfSlot_54 : decode prog_4_method_16_code 54 = .ok (.bipush 10, 2) := by decide +kernel
theorem d_Code_faultOfSlot_56 : decode prog_4_method_16_code 56 = .ok (.if_icmp .gt 16, 3) := by decide +kernel
theorem d_Code_faultOfSlot_59 : decode prog_4_method_16_code 59 = .ok (.iload_n 3, 1) := by decide +kernel
theorem d_Code_faultOfSlot_60 : decode prog_4_method_16_code 60 = .ok (.ifCond .eq 14, 3) := by decide +kernel
theorem d_Code_faultOfSlot_63 : decode prog_4_method_16_code 63 = .ok (.aload_n 0, 1) := by decide +kernel
theorem d_Code_faultOfSlot_64 : decode prog_4_method_16_code 64 = .ok (.getfield 32, 3) := by decide +kernel
theorem d_Code_faultOfSlot_67 : decode prog_4_method_16_code 67 = .ok (.bipush 10, 2) := by decide +kernel
theorem d_Code_faultOfSlot_69 : decode prog_4_method_16_code 69 = .ok (.if_icmp .ne 5, 3) := by decide +kernel
theorem d_Code_faultOfSlot_35 : decode prog_4_method_16_code 35 = .ok (.iconst 1, 1) := by decide +kernel
theorem d_Code_faultOfSlot_36 : decode prog_4_method_16_code 36 = .ok (.goto 4, 3) := by decide +kernel
theorem d_Code_faultOfSlot_0 : decode prog_4_method_16_code 0 = .ok (.aload_n 0, 1) := by decide +kernel
theorem d_Code_faultOfSlot_1 : decode prog_4_method_16_code 1 = .ok (.iload_n 1, 1) := by decide +kernel
theorem d_Code_faultOfSlot_2 : decode prog_4_method_16_code 2 = .ok (.invokevirtual 108, 3) := by decide +kernel
theorem u_983 : Cond.methodLink "FilterGuard$Code" 108 ⟨"FilterGuard$Code", "isShaped", "(I)Z"⟩ ∈ fg_g := fg_in (List.mem_of_getElem? (i := 983) (by decide +kernel)) rfl
theorem u_986 : Cond.code ⟨"FilterGuard$Code", "isShaped", "(I)Z"⟩ prog_4_method_18_code 2 (some .boolean) ∈ fg_g := fg_in (List.mem_of_getElem? (i := 986) (by decide +kernel)) rfl
theorem u_985 : Cond.instanceMethod ⟨"FilterGuard$Code", "isShaped", "(I)Z"⟩ ∈ fg_g := fg_in (List.mem_of_getElem? (i := 985) (by decide +kernel)) rfl
theorem u_7 : Cond.selects "FilterGuard$Code" ⟨"FilterGuard$Code", "isShaped", "(I)Z"⟩ ⟨"FilterGuard$Code", "isShaped", "(I)Z"⟩ ∈ fg_g := fg_in (List.mem_of_getElem? (i := 7) (by decide +kernel)) rfl
theorem d_Code_faultOfSlot_5 : decode prog_4_method_16_code 5 = .ok (.ifCond .ne 5, 3) := by decide +kernel
theorem d_Code_faultOfSlot_10 : decode prog_4_method_16_code 10 = .ok (.aload_n 0, 1) := by decide +kernel
theorem d_Code_faultOfSlot_11 : decode prog_4_method_16_code 11 = .ok (.getfield 55, 3) := by decide +kernel
theorem d_Code_faultOfSlot_14 : decode prog_4_method_16_code 14 = .ok (.iconst 1, 1) := by decide +kernel
theorem d_Code_faultOfSlot_15 : decode prog_4_method_16_code 15 = .ok (.if_icmp .eq 20, 3) := by decide +kernel
theorem d_Code_faultOfSlot_18 : decode prog_4_method_16_code 18 = .ok (.aload_n 0, 1) := by decide +kernel
theorem d_Code_faultOfSlot_19 : decode prog_4_method_16_code 19 = .ok (.getfield 55, 3) := by decide +kernel
theorem d_Code_faultOfSlot_22 : decode prog_4_method_16_code 22 = .ok (.iconst 2, 1) := by decide +kernel
theorem d_Code_faultOfSlot_23 : decode prog_4_method_16_code 23 = .ok (.if_icmp .eq 12, 3) := by decide +kernel
theorem d_Code_faultOfSlot_26 : decode prog_4_method_16_code 26 = .ok (.aload_n 0, 1) := by decide +kernel
theorem d_Code_faultOfSlot_27 : decode prog_4_method_16_code 27 = .ok (.getfield 55, 3) := by decide +kernel
theorem d_Code_faultOfSlot_30 : decode prog_4_method_16_code 30 = .ok (.bipush 6, 2) := by decide +kernel
theorem d_Code_faultOfSlot_32 : decode prog_4_method_16_code 32 = .ok (.if_icmp .ne 7, 3) := by decide +kernel
theorem d_Code_faultOfSlot_39 : decode prog_4_method_16_code 39 = .ok (.iconst 0, 1) := by decide +kernel
theorem d_Code_faultOfSlot_8 : decode prog_4_method_16_code 8 = .ok (.iconst 1, 1) := by decide +kernel
theorem d_Code_faultOfSlot_9 : decode prog_4_method_16_code 9 = .ok (.ireturn, 1) := by decide +kernel
abbrev y_Code_faultOfSlot : MethodName := ⟨"FilterGuard$Code", "faultOfSlot", "(II)I"⟩
def f_Code_faultOfSlot_b127 (j0 : Nat) (x2 : Int32) (M : me_M) : Option (me_M × Int32) := (if (mI M 2 j0 10) = 1 then (if (mI M 2 j0 7) = 1 then (if (mI M 2 j0 9) < 0 then some (M, (4 : Int32)) else (if (mI M 2 j0 9) < x2 then some (M, (0 : Int32)) else some (M, (4 : Int32)))) else some (M, (0 : Int32))) else some (M, (0 : Int32)))
def f_Code_faultOfSlot_b99 (j0 : Nat) (x2 : Int32) (M : me_M) : Option (me_M × Int32) := (if (mI M 2 j0 10) = 9 then (if (mI M 2 j0 9) < 1 then some (M, (4 : Int32)) else (if (mI M 2 j0 9) ≤ 6 then f_Code_faultOfSlot_b127 j0 x2 M else some (M, (4 : Int32)))) else f_Code_faultOfSlot_b127 j0 x2 M)
def f_Code_faultOfSlot_b74 (j0 : Nat) (x2 : Int32) (M : me_M) : Option (me_M × Int32) := (if (mI M 2 j0 10) = 6 then (if (mI M 2 j0 15) = 0 then b2 (f_Code_isWrongField M j0) (fun (M11 : me_M) (r12 : Int32) => (if r12 = 0 then f_Code_faultOfSlot_b99 j0 x2 M11 else some (M11, (3 : Int32)))) else f_Code_faultOfSlot_b99 j0 x2 M) else f_Code_faultOfSlot_b99 j0 x2 M)
def f_Code_faultOfSlot_b40 (j0 : Nat) (x2 : Int32) (M : me_M) (s0 : Int32) : Option (me_M × Int32) := (if 10 < (mI M 2 j0 6) then some (M, (2 : Int32)) else (if 10 < (mI M 2 j0 7) then some (M, (2 : Int32)) else (if s0 = 0 then f_Code_faultOfSlot_b74 j0 x2 M else (if (mI M 2 j0 6) = 10 then some (M, (2 : Int32)) else f_Code_faultOfSlot_b74 j0 x2 M))))
def f_Code_faultOfSlot_b35 (j0 : Nat) (x2 : Int32) (M : me_M) : Option (me_M × Int32) := f_Code_faultOfSlot_b40 j0 x2 M (1 : Int32)
def f_Code_faultOfSlot (M0 : me_M) (j0 : Nat) (x1 : Int32) (x2 : Int32) : Option (me_M × Int32) := b2 (f_Code_isShaped M0 j0 x1) (fun (M18 : me_M) (r19 : Int32) => (if r19 = 0 then some (M18, (1 : Int32)) else (if (mI M18 2 j0 10) = 1 then f_Code_faultOfSlot_b35 j0 x2 M18 else (if (mI M18 2 j0 10) = 2 then f_Code_faultOfSlot_b35 j0 x2 M18 else (if (mI M18 2 j0 10) = 6 then f_Code_faultOfSlot_b35 j0 x2 M18 else f_Code_faultOfSlot_b40 j0 x2 M18 (0 : Int32))))))
def rm_Code_faultOfSlot : Room := { frames := 3, cells := 0, slots := 0, locals := 61 }
abbrev q_Code_faultOfSlot (D : va_G) (ad : Nat → Nat → Nat) (ca : Nat → ClassId) (N : Nat → Nat) (M0 MZ : me_M) (RZ : Int32) (A : Nat → Prop) : Array Value → Jvm.State → Outcome → Jvm.State → Prop := va_Qi (fun r (_ : Unit) => r = RZ ∧ me_wf N MZ ∧ me_kp M0 MZ) (fg_B D A (fun _ => me_W ad ca MZ) (fun _ => [])) A
set_option maxHeartbeats 4000000 in
set_option maxRecDepth 100000 in
theorem c_Code_faultOfSlot (l : Launch) (D : va_G) (ad : Nat → Nat → Nat) (ca : Nat → ClassId) (N : Nat → Nat) (M0 MZ : me_M) (RZ : Int32) (j0 : Nat) (x1 : Int32) (x2 : Int32) (h : f_Code_faultOfSlot M0 j0 x1 x2 = (some (MZ, RZ))) (hwf : me_wf N M0) (hj0 : j0 < N 2) (sz : Nat) : Met l y_Code_faultOfSlot (fg_w y_Code_faultOfSlot prog_4_method_16_code 4 (some .int)) rm_Code_faultOfSlot (va_Pc [.ref (ad 2 j0), .int x1, .int x2] (fz_P D (me_T ca) (me_W ad ca M0) sz)) (q_Code_faultOfSlot D ad ca N M0 MZ RZ (va_A (me_W ad ca M0) sz)) rm_Code_faultOfSlot.cells rm_Code_faultOfSlot.slots (va_A (me_W ad ca M0) sz) := by
  refine fz_enter (fun A => q_Code_faultOfSlot D ad ca N M0 MZ RZ A) (by decide +kernel) (Nat.le_of_ble_eq_true rfl) ?_
  intro p e s m below meth c ls A hx hb hml hown hts hr hlocks hin hP hK hD hS hA hX hl hz
  have hl : lv_has ls 4 [(0, .ref (ad 2 j0)), (1, .int x1), (2, .int x2)] := hl
  unfold f_Code_faultOfSlot at h
  have hkp : me_kp M0 M0 := me_kp.rf
  have hkb := hkp
  have b_127 : ∀ (M : me_M) (H : Heap) (locs : List Loc) (ls : Array Slot), f_Code_faultOfSlot_b127 j0 x2 M = (some (MZ, RZ)) → me_wf N M → me_kp M0 M → va_P D classes (me_W ad ca M) H → va_D A (me_W ad ca M) → va_S A s.heap H locs → lv_has ls 4 [(0, .ref (ad 2 j0)), (2, .int x2)] → W p l e rm_Code_faultOfSlot s m [.ref (ad 2 j0), .int x1, .int x2].toArray below meth c H locs 0 0 (MQ below (q_Code_faultOfSlot D ad ca N M0 MZ RZ A) [.ref (ad 2 j0), .int x1, .int x2].toArray s rm_Code_faultOfSlot.cells rm_Code_faultOfSlot.slots A) (F0 m 127 ls []) := by
    intro M H locs ls h hwf hkp hP hD hS hl
    unfold f_Code_faultOfSlot_b127 at h
    have hkb := hkp
    refine lv_aload_n hx hb d_Code_faultOfSlot_127 rfl (lv_at hl 0 rfl) ?_
    refine g_Code_10 hx hb hts hown hK hP hwf hj0 (hts _ u_252) d_Code_faultOfSlot_128 ?_
    refine lv_iconst (v := 1) hx hb d_Code_faultOfSlot_131 (by decide) ?_
    refine lv_icmp_ne (tgt := 162) hx hb d_Code_faultOfSlot_132 (by decide) (fun c1 => ?_) (fun c1 => ?_)
    · have h := if_f c1 h
      refine lv_iconst (v := 0) hx hb d_Code_faultOfSlot_162 (by decide) ?_
      exact me_reti (me_kp M0) h hx hb hr hlocks hwf hkp hP hK hD hS d_Code_faultOfSlot_163
    have h := if_t c1 h
    refine lv_aload_n hx hb d_Code_faultOfSlot_135 rfl (lv_at hl 0 rfl) ?_
    refine g_Code_7 hx hb hts hown hK hP hwf hj0 (hts _ u_238) d_Code_faultOfSlot_136 ?_
    refine lv_iconst (v := 1) hx hb d_Code_faultOfSlot_139 (by decide) ?_
    refine lv_icmp_ne (tgt := 162) hx hb d_Code_faultOfSlot_140 (by decide) (fun c2 => ?_) (fun c2 => ?_)
    · have h := if_f c2 h
      refine lv_iconst (v := 0) hx hb d_Code_faultOfSlot_162 (by decide) ?_
      exact me_reti (me_kp M0) h hx hb hr hlocks hwf hkp hP hK hD hS d_Code_faultOfSlot_163
    have h := if_t c2 h
    refine lv_aload_n hx hb d_Code_faultOfSlot_143 rfl (lv_at hl 0 rfl) ?_
    refine g_Code_9 hx hb hts hown hK hP hwf hj0 (hts _ u_247) d_Code_faultOfSlot_144 ?_
    refine lv_if_lt (tgt := 158) hx hb d_Code_faultOfSlot_147 (by decide) (fun c3 => ?_) (fun c3 => ?_)
    · have h := if_t c3 h
      refine lv_iconst (v := 4) hx hb d_Code_faultOfSlot_158 (by decide) ?_
      refine lv_goto (tgt := 163) hx hb d_Code_faultOfSlot_159 (by decide) ?_
      exact me_reti (me_kp M0) h hx hb hr hlocks hwf hkp hP hK hD hS d_Code_faultOfSlot_163
    have h := if_f c3 h
    refine lv_aload_n hx hb d_Code_faultOfSlot_150 rfl (lv_at hl 0 rfl) ?_
    refine g_Code_9 hx hb hts hown hK hP hwf hj0 (hts _ u_247) d_Code_faultOfSlot_151 ?_
    refine lv_iload_n hx hb d_Code_faultOfSlot_154 rfl (lv_at hl 1 rfl) ?_
    refine lv_icmp_lt (tgt := 162) hx hb d_Code_faultOfSlot_155 (by decide) (fun c4 => ?_) (fun c4 => ?_)
    · have h := if_t c4 h
      refine lv_iconst (v := 0) hx hb d_Code_faultOfSlot_162 (by decide) ?_
      exact me_reti (me_kp M0) h hx hb hr hlocks hwf hkp hP hK hD hS d_Code_faultOfSlot_163
    have h := if_f c4 h
    refine lv_iconst (v := 4) hx hb d_Code_faultOfSlot_158 (by decide) ?_
    refine lv_goto (tgt := 163) hx hb d_Code_faultOfSlot_159 (by decide) ?_
    exact me_reti (me_kp M0) h hx hb hr hlocks hwf hkp hP hK hD hS d_Code_faultOfSlot_163
  have b_99 : ∀ (M : me_M) (H : Heap) (locs : List Loc) (ls : Array Slot), f_Code_faultOfSlot_b99 j0 x2 M = (some (MZ, RZ)) → me_wf N M → me_kp M0 M → va_P D classes (me_W ad ca M) H → va_D A (me_W ad ca M) → va_S A s.heap H locs → lv_has ls 4 [(0, .ref (ad 2 j0)), (2, .int x2)] → W p l e rm_Code_faultOfSlot s m [.ref (ad 2 j0), .int x1, .int x2].toArray below meth c H locs 0 0 (MQ below (q_Code_faultOfSlot D ad ca N M0 MZ RZ A) [.ref (ad 2 j0), .int x1, .int x2].toArray s rm_Code_faultOfSlot.cells rm_Code_faultOfSlot.slots A) (F0 m 99 ls []) := by
    intro M H locs ls h hwf hkp hP hD hS hl
    unfold f_Code_faultOfSlot_b99 at h
    have hkb := hkp
    refine lv_aload_n hx hb d_Code_faultOfSlot_99 rfl (lv_at hl 0 rfl) ?_
    refine g_Code_10 hx hb hts hown hK hP hwf hj0 (hts _ u_252) d_Code_faultOfSlot_100 ?_
    refine lv_bipush (v := 9) hx hb d_Code_faultOfSlot_103 (by decide) ?_
    refine lv_icmp_ne (tgt := 127) hx hb d_Code_faultOfSlot_105 (by decide) (fun c5 => ?_) (fun c5 => ?_)
    · have h := if_f c5 h
      exact b_127 M _ _ _ h hwf hkp hP hD hS (lv_sub hl [0, 1] rfl)
    have h := if_t c5 h
    refine lv_aload_n hx hb d_Code_faultOfSlot_108 rfl (lv_at hl 0 rfl) ?_
    refine g_Code_9 hx hb hts hown hK hP hwf hj0 (hts _ u_247) d_Code_faultOfSlot_109 ?_
    refine lv_iconst (v := 1) hx hb d_Code_faultOfSlot_112 (by decide) ?_
    refine lv_icmp_lt (tgt := 125) hx hb d_Code_faultOfSlot_113 (by decide) (fun c6 => ?_) (fun c6 => ?_)
    · have h := if_t c6 h
      refine lv_iconst (v := 4) hx hb d_Code_faultOfSlot_125 (by decide) ?_
      exact me_reti (me_kp M0) h hx hb hr hlocks hwf hkp hP hK hD hS d_Code_faultOfSlot_126
    have h := if_f c6 h
    refine lv_aload_n hx hb d_Code_faultOfSlot_116 rfl (lv_at hl 0 rfl) ?_
    refine g_Code_9 hx hb hts hown hK hP hwf hj0 (hts _ u_247) d_Code_faultOfSlot_117 ?_
    refine lv_bipush (v := 6) hx hb d_Code_faultOfSlot_120 (by decide) ?_
    refine lv_icmp_le (tgt := 127) hx hb d_Code_faultOfSlot_122 (by decide) (fun c7 => ?_) (fun c7 => ?_)
    · have h := if_t c7 h
      exact b_127 M _ _ _ h hwf hkp hP hD hS (lv_sub hl [0, 1] rfl)
    have h := if_f c7 h
    refine lv_iconst (v := 4) hx hb d_Code_faultOfSlot_125 (by decide) ?_
    exact me_reti (me_kp M0) h hx hb hr hlocks hwf hkp hP hK hD hS d_Code_faultOfSlot_126
  have b_74 : ∀ (M : me_M) (H : Heap) (locs : List Loc) (ls : Array Slot), f_Code_faultOfSlot_b74 j0 x2 M = (some (MZ, RZ)) → me_wf N M → me_kp M0 M → va_P D classes (me_W ad ca M) H → va_D A (me_W ad ca M) → va_S A s.heap H locs → lv_has ls 4 [(0, .ref (ad 2 j0)), (2, .int x2)] → W p l e rm_Code_faultOfSlot s m [.ref (ad 2 j0), .int x1, .int x2].toArray below meth c H locs 0 0 (MQ below (q_Code_faultOfSlot D ad ca N M0 MZ RZ A) [.ref (ad 2 j0), .int x1, .int x2].toArray s rm_Code_faultOfSlot.cells rm_Code_faultOfSlot.slots A) (F0 m 74 ls []) := by
    intro M H locs ls h hwf hkp hP hD hS hl
    unfold f_Code_faultOfSlot_b74 at h
    have hkb := hkp
    refine lv_aload_n hx hb d_Code_faultOfSlot_74 rfl (lv_at hl 0 rfl) ?_
    refine g_Code_10 hx hb hts hown hK hP hwf hj0 (hts _ u_252) d_Code_faultOfSlot_75 ?_
    refine lv_bipush (v := 6) hx hb d_Code_faultOfSlot_78 (by decide) ?_
    refine lv_icmp_ne (tgt := 99) hx hb d_Code_faultOfSlot_80 (by decide) (fun c8 => ?_) (fun c8 => ?_)
    · have h := if_f c8 h
      exact b_99 M _ _ _ h hwf hkp hP hD hS (lv_sub hl [0, 1] rfl)
    have h := if_t c8 h
    refine lv_aload_n hx hb d_Code_faultOfSlot_83 rfl (lv_at hl 0 rfl) ?_
    refine g_Code_15 hx hb hts hown hK hP hwf hj0 (hts _ u_273) d_Code_faultOfSlot_84 ?_
    have z9 := (hwf.2.2.2 2 j0 15 rfl)
    refine lv_if_ne (tgt := 99) hx hb d_Code_faultOfSlot_87 (by decide) (fun c10 => ?_) (fun c10 => ?_)
    · have h := if_f c10 h
      exact b_99 M _ _ _ h hwf hkp hP hD hS (lv_sub hl [0, 1] rfl)
    have h := if_t c10 h
    refine lv_aload_n hx hb d_Code_faultOfSlot_90 rfl (lv_at hl 0 rfl) ?_
    obtain ⟨M11, r12, eM11, h⟩ := b2_ob h
    refine me_theni0 (M1 := M11) (me_runV (C := "FilterGuard$Code") (As := []) (rest := []) ⟨hx, hb, hml, hown, hts⟩ (c_Code_isWrongField l D ad ca N M M11 r12 j0 eM11 hwf hj0 _) rfl (by show fg_nm y_Code_isWrongField 0; decide +kernel) u_996 u_998 u_10 u_182 u_999 ⟨Nat.le_of_ble_eq_true rfl, Nat.le_of_ble_eq_true rfl⟩ hX hz hK hP hD hwf hS hA hj0 (by decide) rfl rfl rfl hl.1 (Nat.le_of_ble_eq_true rfl) d_Code_faultOfSlot_91 ⟨Nat.le_of_ble_eq_true rfl, Nat.le_of_ble_eq_true rfl⟩) hP hD hK hS hA rfl rfl (fun H locs hw hP hD hS => ?_)
    obtain ⟨hwf, hk9, zr12⟩ := hw
    have hkp := hkp.tr hk9
    refine lv_if_eq (tgt := 99) hx hb d_Code_faultOfSlot_94 (by decide) (fun c13 => ?_) (fun c13 => ?_)
    · have h := if_t c13 h
      exact b_99 M11 _ _ _ h hwf hkp hP hD hS (lv_sub hl [0, 1] rfl)
    have h := if_f c13 h
    refine lv_iconst (v := 3) hx hb d_Code_faultOfSlot_97 (by decide) ?_
    exact me_reti (me_kp M0) h hx hb hr hlocks hwf hkp hP hK hD hS d_Code_faultOfSlot_98
  have b_40 : ∀ (M : me_M) (s0 : Int32) (H : Heap) (locs : List Loc) (ls : Array Slot), f_Code_faultOfSlot_b40 j0 x2 M s0 = (some (MZ, RZ)) → (s0 = 1 ∨ s0 = 0) → me_wf N M → me_kp M0 M → va_P D classes (me_W ad ca M) H → va_D A (me_W ad ca M) → va_S A s.heap H locs → lv_has ls 4 [(0, .ref (ad 2 j0)), (2, .int x2)] → W p l e rm_Code_faultOfSlot s m [.ref (ad 2 j0), .int x1, .int x2].toArray below meth c H locs 0 0 (MQ below (q_Code_faultOfSlot D ad ca N M0 MZ RZ A) [.ref (ad 2 j0), .int x1, .int x2].toArray s rm_Code_faultOfSlot.cells rm_Code_faultOfSlot.slots A) (F0 m 40 ls [.int s0]) := by
    intro M s0 H locs ls h zs0 hwf hkp hP hD hS hl
    unfold f_Code_faultOfSlot_b40 at h
    have hkb := hkp
    refine lv_istore_n (lv' := [(3, .int s0), (0, .ref (ad 2 j0)), (2, .int x2)]) hx hb d_Code_faultOfSlot_40 rfl hl (by decide) rfl (fun ls hl => ?_)
    refine lv_aload_n hx hb d_Code_faultOfSlot_41 rfl (lv_at hl 1 rfl) ?_
    refine g_Code_6 hx hb hts hown hK hP hwf hj0 (hts _ u_233) d_Code_faultOfSlot_42 ?_
    refine lv_bipush (v := 10) hx hb d_Code_faultOfSlot_45 (by decide) ?_
    refine lv_icmp_gt (tgt := 72) hx hb d_Code_faultOfSlot_47 (by decide) (fun c14 => ?_) (fun c14 => ?_)
    · have h := if_t c14 h
      refine lv_iconst (v := 2) hx hb d_Code_faultOfSlot_72 (by decide) ?_
      exact me_reti (me_kp M0) h hx hb hr hlocks hwf hkp hP hK hD hS d_Code_faultOfSlot_73
    have h := if_f c14 h
    refine lv_aload_n hx hb d_Code_faultOfSlot_50 rfl (lv_at hl 1 rfl) ?_
    refine g_Code_7 hx hb hts hown hK hP hwf hj0 (hts _ u_238) d_Code_faultOfSlot_51 ?_
    refine lv_bipush (v := 10) hx hb d_Code_faultOfSlot_54 (by decide) ?_
    refine lv_icmp_gt (tgt := 72) hx hb d_Code_faultOfSlot_56 (by decide) (fun c15 => ?_) (fun c15 => ?_)
    · have h := if_t c15 h
      refine lv_iconst (v := 2) hx hb d_Code_faultOfSlot_72 (by decide) ?_
      exact me_reti (me_kp M0) h hx hb hr hlocks hwf hkp hP hK hD hS d_Code_faultOfSlot_73
    have h := if_f c15 h
    refine lv_iload_n hx hb d_Code_faultOfSlot_59 rfl (lv_at hl 0 rfl) ?_
    refine lv_if_eq (tgt := 74) hx hb d_Code_faultOfSlot_60 (by decide) (fun c16 => ?_) (fun c16 => ?_)
    · have h := if_t c16 h
      exact b_74 M _ _ _ h hwf hkp hP hD hS (lv_sub hl [1, 2] rfl)
    have h := if_f c16 h
    refine lv_aload_n hx hb d_Code_faultOfSlot_63 rfl (lv_at hl 1 rfl) ?_
    refine g_Code_6 hx hb hts hown hK hP hwf hj0 (hts _ u_233) d_Code_faultOfSlot_64 ?_
    refine lv_bipush (v := 10) hx hb d_Code_faultOfSlot_67 (by decide) ?_
    refine lv_icmp_ne (tgt := 74) hx hb d_Code_faultOfSlot_69 (by decide) (fun c17 => ?_) (fun c17 => ?_)
    · have h := if_f c17 h
      exact b_74 M _ _ _ h hwf hkp hP hD hS (lv_sub hl [1, 2] rfl)
    have h := if_t c17 h
    refine lv_iconst (v := 2) hx hb d_Code_faultOfSlot_72 (by decide) ?_
    exact me_reti (me_kp M0) h hx hb hr hlocks hwf hkp hP hK hD hS d_Code_faultOfSlot_73
  have b_35 : ∀ (M : me_M) (H : Heap) (locs : List Loc) (ls : Array Slot), f_Code_faultOfSlot_b35 j0 x2 M = (some (MZ, RZ)) → me_wf N M → me_kp M0 M → va_P D classes (me_W ad ca M) H → va_D A (me_W ad ca M) → va_S A s.heap H locs → lv_has ls 4 [(0, .ref (ad 2 j0)), (2, .int x2)] → W p l e rm_Code_faultOfSlot s m [.ref (ad 2 j0), .int x1, .int x2].toArray below meth c H locs 0 0 (MQ below (q_Code_faultOfSlot D ad ca N M0 MZ RZ A) [.ref (ad 2 j0), .int x1, .int x2].toArray s rm_Code_faultOfSlot.cells rm_Code_faultOfSlot.slots A) (F0 m 35 ls []) := by
    intro M H locs ls h hwf hkp hP hD hS hl
    unfold f_Code_faultOfSlot_b35 at h
    have hkb := hkp
    refine lv_iconst (v := 1) hx hb d_Code_faultOfSlot_35 (by decide) ?_
    refine lv_goto (tgt := 40) hx hb d_Code_faultOfSlot_36 (by decide) ?_
    exact b_40 M (1 : Int32) _ _ _ h (by decide) hwf hkp hP hD hS (lv_sub hl [0, 1] rfl)
  refine lv_aload_n hx hb d_Code_faultOfSlot_0 rfl (lv_at hl 0 rfl) ?_
  refine lv_iload_n hx hb d_Code_faultOfSlot_1 rfl (lv_at hl 1 rfl) ?_
  obtain ⟨M18, r19, eM18, h⟩ := b2_ob h
  refine me_theni0 (M1 := M18) (me_runV (C := "FilterGuard$Code") (As := [.int x1]) (rest := []) ⟨hx, hb, hml, hown, hts⟩ (c_Code_isShaped l D ad ca N M0 M18 r19 j0 x1 eM18 hwf hj0 _) rfl (by show fg_nm y_Code_isShaped 1; decide +kernel) u_983 u_985 u_7 u_182 u_986 ⟨Nat.le_of_ble_eq_true rfl, Nat.le_of_ble_eq_true rfl⟩ hX hz hK hP hD hwf hS hA hj0 (by decide) rfl rfl rfl hl.1 (Nat.le_of_ble_eq_true rfl) d_Code_faultOfSlot_2 ⟨Nat.le_of_ble_eq_true rfl, Nat.le_of_ble_eq_true rfl⟩) hP hD hK hS hA rfl rfl (fun H locs hw hP hD hS => ?_)
  obtain ⟨hwf, hk9, zr19⟩ := hw
  have hkp := hkp.tr hk9
  refine lv_if_ne (tgt := 10) hx hb d_Code_faultOfSlot_5 (by decide) (fun c20 => ?_) (fun c20 => ?_)
  · have h := if_f c20 h
    refine lv_aload_n hx hb d_Code_faultOfSlot_10 rfl (lv_at hl 0 rfl) ?_
    refine g_Code_10 hx hb hts hown hK hP hwf hj0 (hts _ u_252) d_Code_faultOfSlot_11 ?_
    refine lv_iconst (v := 1) hx hb d_Code_faultOfSlot_14 (by decide) ?_
    refine lv_icmp_eq (tgt := 35) hx hb d_Code_faultOfSlot_15 (by decide) (fun c21 => ?_) (fun c21 => ?_)
    · have h := if_t c21 h
      exact b_35 M18 _ _ _ h hwf hkp hP hD hS (lv_sub hl [0, 2] rfl)
    have h := if_f c21 h
    refine lv_aload_n hx hb d_Code_faultOfSlot_18 rfl (lv_at hl 0 rfl) ?_
    refine g_Code_10 hx hb hts hown hK hP hwf hj0 (hts _ u_252) d_Code_faultOfSlot_19 ?_
    refine lv_iconst (v := 2) hx hb d_Code_faultOfSlot_22 (by decide) ?_
    refine lv_icmp_eq (tgt := 35) hx hb d_Code_faultOfSlot_23 (by decide) (fun c22 => ?_) (fun c22 => ?_)
    · have h := if_t c22 h
      exact b_35 M18 _ _ _ h hwf hkp hP hD hS (lv_sub hl [0, 2] rfl)
    have h := if_f c22 h
    refine lv_aload_n hx hb d_Code_faultOfSlot_26 rfl (lv_at hl 0 rfl) ?_
    refine g_Code_10 hx hb hts hown hK hP hwf hj0 (hts _ u_252) d_Code_faultOfSlot_27 ?_
    refine lv_bipush (v := 6) hx hb d_Code_faultOfSlot_30 (by decide) ?_
    refine lv_icmp_ne (tgt := 39) hx hb d_Code_faultOfSlot_32 (by decide) (fun c23 => ?_) (fun c23 => ?_)
    · have h := if_f c23 h
      refine lv_iconst (v := 0) hx hb d_Code_faultOfSlot_39 (by decide) ?_
      exact b_40 M18 (0 : Int32) _ _ _ h (by decide) hwf hkp hP hD hS (lv_sub hl [0, 2] rfl)
    have h := if_t c23 h
    exact b_35 M18 _ _ _ h hwf hkp hP hD hS (lv_sub hl [0, 2] rfl)
  have h := if_t c20 h
  refine lv_iconst (v := 1) hx hb d_Code_faultOfSlot_8 (by decide) ?_
  exact me_reti (me_kp M0) h hx hb hr hlocks hwf hkp hP hK hD hS d_Code_faultOfSlot_9
theorem d_Code_isJump_0 : decode prog_4_method_13_code 0 = .ok (.aload_n 0, 1) := by decide +kernel
theorem d_Code_isJump_1 : decode prog_4_method_13_code 1 = .ok (.getfield 55, 3) := by decide +kernel
theorem d_Code_isJump_4 : decode prog_4_method_13_code 4 = .ok (.bipush 7, 2) := by decide +kernel
theorem d_Code_isJump_6 : decode prog_4_method_13_code 6 = .ok (.if_icmp .eq 12, 3) := by decide +kernel
theorem d_Code_isJump_18 : decode prog_4_method_13_code 18 = .ok (.iconst 1, 1) := by decide +kernel
theorem d_Code_isJump_19 : decode prog_4_method_13_code 19 = .ok (.goto 4, 3) := by decide +kernel
theorem d_Code_isJump_23 : decode prog_4_method_13_code 23 = .ok (.ireturn, 1) := by decide +kernel
theorem d_Code_isJump_9 : decode prog_4_method_13_code 9 = .ok (.aload_n 0, 1) := by decide +kernel
theorem d_Code_isJump_10 : decode prog_4_method_13_code 10 = .ok (.getfield 55, 3) := by decide +kernel
theorem d_Code_isJump_13 : decode prog_4_method_13_code 13 = .ok (.bipush 8, 2) := by decide +kernel
theorem d_Code_isJump_15 : decode prog_4_method_13_code 15 = .ok (.if_icmp .ne 7, 3) := by decide +kernel
theorem d_Code_isJump_22 : decode prog_4_method_13_code 22 = .ok (.iconst 0, 1) := by decide +kernel
abbrev y_Code_isJump : MethodName := ⟨"FilterGuard$Code", "isJump", "()Z"⟩
def f_Code_isJump (M0 : me_M) (j0 : Nat) : Option (me_M × Int32) := (if (mI M0 2 j0 10) = 7 then some (M0, (1 : Int32)) else (if (mI M0 2 j0 10) = 8 then some (M0, (1 : Int32)) else some (M0, (0 : Int32))))
def rm_Code_isJump : Room := { frames := 1, cells := 0, slots := 0, locals := 20 }
abbrev q_Code_isJump (D : va_G) (ad : Nat → Nat → Nat) (ca : Nat → ClassId) (N : Nat → Nat) (M0 MZ : me_M) (RZ : Int32) (A : Nat → Prop) : Array Value → Jvm.State → Outcome → Jvm.State → Prop := va_Qi (fun r (_ : Unit) => r = RZ ∧ me_wf N MZ ∧ me_kp M0 MZ ∧ (RZ = 1 ∨ RZ = 0)) (fg_B D A (fun _ => me_W ad ca MZ) (fun _ => [])) A
set_option maxHeartbeats 4000000 in
set_option maxRecDepth 100000 in
theorem c_Code_isJump (l : Launch) (D : va_G) (ad : Nat → Nat → Nat) (ca : Nat → ClassId) (N : Nat → Nat) (M0 MZ : me_M) (RZ : Int32) (j0 : Nat) (h : f_Code_isJump M0 j0 = (some (MZ, RZ))) (hwf : me_wf N M0) (hj0 : j0 < N 2) (sz : Nat) : Met l y_Code_isJump (fg_w y_Code_isJump prog_4_method_13_code 1 (some .boolean)) rm_Code_isJump (va_Pc [.ref (ad 2 j0)] (fz_P D (me_T ca) (me_W ad ca M0) sz)) (q_Code_isJump D ad ca N M0 MZ RZ (va_A (me_W ad ca M0) sz)) rm_Code_isJump.cells rm_Code_isJump.slots (va_A (me_W ad ca M0) sz) := by
  refine fz_enter (fun A => q_Code_isJump D ad ca N M0 MZ RZ A) (by decide +kernel) (Nat.le_of_ble_eq_true rfl) ?_
  intro p e s m below meth c ls A hx hb hml hown hts hr hlocks hin hP hK hD hS hA hX hl hz
  have hl : lv_has ls 1 [(0, .ref (ad 2 j0))] := hl
  unfold f_Code_isJump at h
  have hkp : me_kp M0 M0 := me_kp.rf
  have hkb := hkp
  refine lv_aload_n hx hb d_Code_isJump_0 rfl (lv_at hl 0 rfl) ?_
  refine g_Code_10 hx hb hts hown hK hP hwf hj0 (hts _ u_252) d_Code_isJump_1 ?_
  refine lv_bipush (v := 7) hx hb d_Code_isJump_4 (by decide) ?_
  refine lv_icmp_eq (tgt := 18) hx hb d_Code_isJump_6 (by decide) (fun c1 => ?_) (fun c1 => ?_)
  · have h := if_t c1 h
    refine lv_iconst (v := 1) hx hb d_Code_isJump_18 (by decide) ?_
    refine lv_goto (tgt := 23) hx hb d_Code_isJump_19 (by decide) ?_
    exact me_retz (me_kp M0) h (by decide) hx hb hr hlocks hwf hkp hP hK hD hS d_Code_isJump_23
  have h := if_f c1 h
  refine lv_aload_n hx hb d_Code_isJump_9 rfl (lv_at hl 0 rfl) ?_
  refine g_Code_10 hx hb hts hown hK hP hwf hj0 (hts _ u_252) d_Code_isJump_10 ?_
  refine lv_bipush (v := 8) hx hb d_Code_isJump_13 (by decide) ?_
  refine lv_icmp_ne (tgt := 22) hx hb d_Code_isJump_15 (by decide) (fun c2 => ?_) (fun c2 => ?_)
  · have h := if_f c2 h
    refine lv_iconst (v := 0) hx hb d_Code_isJump_22 (by decide) ?_
    exact me_retz (me_kp M0) h (by decide) hx hb hr hlocks hwf hkp hP hK hD hS d_Code_isJump_23
  have h := if_t c2 h
  refine lv_iconst (v := 1) hx hb d_Code_isJump_18 (by decide) ?_
  refine lv_goto (tgt := 23) hx hb d_Code_isJump_19 (by decide) ?_
  exact me_retz (me_kp M0) h (by decide) hx hb hr hlocks hwf hkp hP hK hD hS d_Code_isJump_23
theorem d_Code_target_0 : decode prog_4_method_11_code 0 = .ok (.iload_n 1, 1) := by decide +kernel
theorem d_Code_target_1 : decode prog_4_method_11_code 1 = .ok (.iconst 1, 1) := by decide +kernel
theorem d_Code_target_2 : decode prog_4_method_11_code 2 = .ok (.iadd, 1) := by decide +kernel
theorem d_Code_target_3 : decode prog_4_method_11_code 3 = .ok (.aload_n 0, 1) := by decide +kernel
theorem d_Code_target_4 : decode prog_4_method_11_code 4 = .ok (.getfield 38, 3) := by decide +kernel
theorem d_Code_target_7 : decode prog_4_method_11_code 7 = .ok (.iadd, 1) := by decide +kernel
theorem d_Code_target_8 : decode prog_4_method_11_code 8 = .ok (.ireturn, 1) := by decide +kernel
abbrev y_Code_target : MethodName := ⟨"FilterGuard$Code", "target", "(I)I"⟩
def f_Code_target (M0 : me_M) (j0 : Nat) (x1 : Int32) : Option (me_M × Int32) := some (M0, ((x1 + 1) + (mI M0 2 j0 8)))
def rm_Code_target : Room := { frames := 1, cells := 0, slots := 0, locals := 20 }
abbrev q_Code_target (D : va_G) (ad : Nat → Nat → Nat) (ca : Nat → ClassId) (N : Nat → Nat) (M0 MZ : me_M) (RZ : Int32) (A : Nat → Prop) : Array Value → Jvm.State → Outcome → Jvm.State → Prop := va_Qi (fun r (_ : Unit) => r = RZ ∧ me_wf N MZ ∧ me_kp M0 MZ) (fg_B D A (fun _ => me_W ad ca MZ) (fun _ => [])) A
set_option maxHeartbeats 4000000 in
set_option maxRecDepth 100000 in
theorem c_Code_target (l : Launch) (D : va_G) (ad : Nat → Nat → Nat) (ca : Nat → ClassId) (N : Nat → Nat) (M0 MZ : me_M) (RZ : Int32) (j0 : Nat) (x1 : Int32) (h : f_Code_target M0 j0 x1 = (some (MZ, RZ))) (hwf : me_wf N M0) (hj0 : j0 < N 2) (sz : Nat) : Met l y_Code_target (fg_w y_Code_target prog_4_method_11_code 2 (some .int)) rm_Code_target (va_Pc [.ref (ad 2 j0), .int x1] (fz_P D (me_T ca) (me_W ad ca M0) sz)) (q_Code_target D ad ca N M0 MZ RZ (va_A (me_W ad ca M0) sz)) rm_Code_target.cells rm_Code_target.slots (va_A (me_W ad ca M0) sz) := by
  refine fz_enter (fun A => q_Code_target D ad ca N M0 MZ RZ A) (by decide +kernel) (Nat.le_of_ble_eq_true rfl) ?_
  intro p e s m below meth c ls A hx hb hml hown hts hr hlocks hin hP hK hD hS hA hX hl hz
  have hl : lv_has ls 2 [(0, .ref (ad 2 j0)), (1, .int x1)] := hl
  unfold f_Code_target at h
  have hkp : me_kp M0 M0 := me_kp.rf
  have hkb := hkp
  refine lv_iload_n hx hb d_Code_target_0 rfl (lv_at hl 1 rfl) ?_
  refine lv_iconst (v := 1) hx hb d_Code_target_1 (by decide) ?_
  refine lv_iadd hx hb d_Code_target_2 ?_
  refine lv_aload_n hx hb d_Code_target_3 rfl (lv_at hl 0 rfl) ?_
  refine g_Code_8 hx hb hts hown hK hP hwf hj0 (hts _ u_242) d_Code_target_4 ?_
  refine lv_iadd hx hb d_Code_target_7 ?_
  exact me_reti (me_kp M0) h hx hb hr hlocks hwf hkp hP hK hD hS d_Code_target_8
theorem d_Code_markTarget_0 : decode prog_4_method_15_code 0 = .ok (.iload_n 1, 1) := by decide +kernel
theorem d_Code_markTarget_1 : decode prog_4_method_15_code 1 = .ok (.ifCond .lt 20, 3) := by decide +kernel
theorem d_Code_markTarget_21 : decode prog_4_method_15_code 21 = .ok (.iconst 0, 1) := by decide +kernel
theorem d_Code_markTarget_22 : decode prog_4_method_15_code 22 = .ok (.ireturn, 1) := by decide +kernel
theorem d_Code_markTarget_4 : decode prog_4_method_15_code 4 = .ok (.iload_n 1, 1) := by decide +kernel
theorem d_Code_markTarget_5 : decode prog_4_method_15_code 5 = .ok (.aload_n 0, 1) := by decide +kernel
theorem d_Code_markTarget_6 : decode prog_4_method_15_code 6 = .ok (.getfield 22, 3) := by decide +kernel
theorem d_Code_markTarget_9 : decode prog_4_method_15_code 9 = .ok (.if_icmp .ge 12, 3) := by decide +kernel
theorem d_Code_markTarget_12 : decode prog_4_method_15_code 12 = .ok (.aload_n 0, 1) := by decide +kernel
theorem d_Code_markTarget_13 : decode prog_4_method_15_code 13 = .ok (.getfield 15, 3) := by decide +kernel
theorem d_Code_markTarget_16 : decode prog_4_method_15_code 16 = .ok (.iload_n 1, 1) := by decide +kernel
theorem d_Code_markTarget_17 : decode prog_4_method_15_code 17 = .ok (.baload, 1) := by decide +kernel
theorem d_Code_markTarget_18 : decode prog_4_method_15_code 18 = .ok (.ifCond .eq 5, 3) := by decide +kernel
theorem d_Code_markTarget_23 : decode prog_4_method_15_code 23 = .ok (.aload_n 0, 1) := by decide +kernel
theorem d_Code_markTarget_24 : decode prog_4_method_15_code 24 = .ok (.getfield 19, 3) := by decide +kernel
theorem d_Code_markTarget_27 : decode prog_4_method_15_code 27 = .ok (.iload_n 1, 1) := by decide +kernel
theorem d_Code_markTarget_28 : decode prog_4_method_15_code 28 = .ok (.iconst 1, 1) := by decide +kernel
theorem d_Code_markTarget_29 : decode prog_4_method_15_code 29 = .ok (.bastore, 1) := by decide +kernel
theorem d_Code_markTarget_30 : decode prog_4_method_15_code 30 = .ok (.iconst 1, 1) := by decide +kernel
theorem d_Code_markTarget_31 : decode prog_4_method_15_code 31 = .ok (.ireturn, 1) := by decide +kernel
abbrev y_Code_markTarget : MethodName := ⟨"FilterGuard$Code", "markTarget", "(I)Z"⟩
def f_Code_markTarget (M0 : me_M) (j0 : Nat) (x1 : Int32) : Option (me_M × Int32) := (if x1 < 0 then some (M0, (0 : Int32)) else (if (mI M0 2 j0 3) ≤ x1 then some (M0, (0 : Int32)) else bd (mR M0 2 j0 1) (fun (j3 : Nat) => gd (¬ (x1 < 0 ∨ mZ M0 15 j3 ≤ x1.toNatClampNeg)) ((if (mI M0 15 j3 x1.toNatClampNeg) = 0 then bd (mR M0 2 j0 2) (fun (j8 : Nat) => gd (¬ (x1 < 0 ∨ mZ M0 15 j8 ≤ x1.toNatClampNeg)) (st (wI M0 15 j8 x1.toNatClampNeg (vp_nar .boolean (1 : Int32))) (fun (M11 : me_M) => some (M11, (1 : Int32))))) else some (M0, (0 : Int32)))))))
def rm_Code_markTarget : Room := { frames := 1, cells := 0, slots := 0, locals := 20 }
abbrev q_Code_markTarget (D : va_G) (ad : Nat → Nat → Nat) (ca : Nat → ClassId) (N : Nat → Nat) (M0 MZ : me_M) (RZ : Int32) (A : Nat → Prop) : Array Value → Jvm.State → Outcome → Jvm.State → Prop := va_Qi (fun r (_ : Unit) => r = RZ ∧ me_wf N MZ ∧ me_kp M0 MZ ∧ (RZ = 1 ∨ RZ = 0)) (fg_B D A (fun _ => me_W ad ca MZ) (fun _ => [])) A
set_option maxHeartbeats 4000000 in
set_option maxRecDepth 100000 in
theorem c_Code_markTarget (l : Launch) (D : va_G) (ad : Nat → Nat → Nat) (ca : Nat → ClassId) (N : Nat → Nat) (M0 MZ : me_M) (RZ : Int32) (j0 : Nat) (x1 : Int32) (h : f_Code_markTarget M0 j0 x1 = (some (MZ, RZ))) (hwf : me_wf N M0) (hj0 : j0 < N 2) (sz : Nat) : Met l y_Code_markTarget (fg_w y_Code_markTarget prog_4_method_15_code 2 (some .boolean)) rm_Code_markTarget (va_Pc [.ref (ad 2 j0), .int x1] (fz_P D (me_T ca) (me_W ad ca M0) sz)) (q_Code_markTarget D ad ca N M0 MZ RZ (va_A (me_W ad ca M0) sz)) rm_Code_markTarget.cells rm_Code_markTarget.slots (va_A (me_W ad ca M0) sz) := by
  refine fz_enter (fun A => q_Code_markTarget D ad ca N M0 MZ RZ A) (by decide +kernel) (Nat.le_of_ble_eq_true rfl) ?_
  intro p e s m below meth c ls A hx hb hml hown hts hr hlocks hin hP hK hD hS hA hX hl hz
  have hl : lv_has ls 2 [(0, .ref (ad 2 j0)), (1, .int x1)] := hl
  unfold f_Code_markTarget at h
  have hkp : me_kp M0 M0 := me_kp.rf
  have hkb := hkp
  refine lv_iload_n hx hb d_Code_markTarget_0 rfl (lv_at hl 1 rfl) ?_
  refine lv_if_lt (tgt := 21) hx hb d_Code_markTarget_1 (by decide) (fun c1 => ?_) (fun c1 => ?_)
  · have h := if_t c1 h
    refine lv_iconst (v := 0) hx hb d_Code_markTarget_21 (by decide) ?_
    exact me_retz (me_kp M0) h (by decide) hx hb hr hlocks hwf hkp hP hK hD hS d_Code_markTarget_22
  have h := if_f c1 h
  refine lv_iload_n hx hb d_Code_markTarget_4 rfl (lv_at hl 1 rfl) ?_
  refine lv_aload_n hx hb d_Code_markTarget_5 rfl (lv_at hl 0 rfl) ?_
  refine g_Code_3 hx hb hts hown hK hP hwf hj0 (hts _ u_226) d_Code_markTarget_6 ?_
  refine lv_icmp_ge (tgt := 21) hx hb d_Code_markTarget_9 (by decide) (fun c2 => ?_) (fun c2 => ?_)
  · have h := if_t c2 h
    refine lv_iconst (v := 0) hx hb d_Code_markTarget_21 (by decide) ?_
    exact me_retz (me_kp M0) h (by decide) hx hb hr hlocks hwf hkp hP hK hD hS d_Code_markTarget_22
  have h := if_f c2 h
  refine lv_aload_n hx hb d_Code_markTarget_12 rfl (lv_at hl 0 rfl) ?_
  refine g_Code_1 hx hb hts hown hK hP hwf hj0 (hts _ u_223) d_Code_markTarget_13 ?_
  obtain ⟨j3, e4, h⟩ := bd_ob h
  have hj3 : j3 < N 15 := (hwf.2.1 2 j0 1 _ e4 (by decide) hj0)
  refine me_opt (j := j3) e4 ?_
  refine lv_iload_n hx hb d_Code_markTarget_16 rfl (lv_at hl 1 rfl) ?_
  obtain ⟨g5, h⟩ := gd_ob h
  refine me_zald hx hb hK hP hwf hj3 g5 d_Code_markTarget_17 ?_
  have z6 := hwf.2.2.2 15 j3 x1.toNatClampNeg rfl
  refine lv_if_eq (tgt := 23) hx hb d_Code_markTarget_18 (by decide) (fun c7 => ?_) (fun c7 => ?_)
  · have h := if_t c7 h
    refine lv_aload_n hx hb d_Code_markTarget_23 rfl (lv_at hl 0 rfl) ?_
    refine g_Code_2 hx hb hts hown hK hP hwf hj0 (hts _ u_225) d_Code_markTarget_24 ?_
    obtain ⟨j8, e9, h⟩ := bd_ob h
    have hj8 : j8 < N 15 := (hwf.2.1 2 j0 2 _ e9 (by decide) hj0)
    refine me_opt (j := j8) e9 ?_
    refine lv_iload_n hx hb d_Code_markTarget_27 rfl (lv_at hl 1 rfl) ?_
    refine lv_iconst (v := 1) hx hb d_Code_markTarget_28 (by decide) ?_
    obtain ⟨g10, h⟩ := gd_ob h
    obtain ⟨M11, eM11, h⟩ := st_ob h
    refine me_zast eM11 hx hb hK hP hD hwf hS hj8 g10 d_Code_markTarget_29 (fun H locs hP hD hwf hS => ?_)
    have hkp := kp_I eM11 hkp
    refine lv_iconst (v := 1) hx hb d_Code_markTarget_30 (by decide) ?_
    exact me_retz (me_kp M0) h (by decide) hx hb hr hlocks hwf hkp hP hK hD hS d_Code_markTarget_31
  have h := if_f c7 h
  refine lv_iconst (v := 0) hx hb d_Code_markTarget_21 (by decide) ?_
  exact me_retz (me_kp M0) h (by decide) hx hb hr hlocks hwf hkp hP hK hD hS d_Code_markTarget_22
theorem d_Code_faultOfForm_66 : decode prog_4_method_14_code 66 = .ok (.iload_n 3, 1) := by decide +kernel
theorem d_Code_faultOfForm_67 : decode prog_4_method_14_code 67 = .ok (.aload_n 0, 1) := by decide +kernel
theorem d_Code_faultOfForm_68 : decode prog_4_method_14_code 68 = .ok (.getfield 22, 3) := by decide +kernel
theorem d_Code_faultOfForm_71 : decode prog_4_method_14_code 71 = .ok (.if_icmp .ge 49, 3) := by decide +kernel
theorem d_Code_faultOfForm_120 : decode prog_4_method_14_code 120 = .ok (.aload_n 0, 1) := by decide +kernel
theorem d_Code_faultOfForm_121 : decode prog_4_method_14_code 121 = .ok (.iload_n 2, 1) := by decide +kernel
theorem d_Code_faultOfForm_122 : decode prog_4_method_14_code 122 = .ok (.invokevirtual 88, 3) := by decide +kernel
theorem u_957 : Cond.methodLink "FilterGuard$Code" 88 ⟨"FilterGuard$Code", "look", "(I)V"⟩ ∈ fg_g := fg_in (List.mem_of_getElem? (i := 957) (by decide +kernel)) rfl
theorem u_960 : Cond.code ⟨"FilterGuard$Code", "look", "(I)V"⟩ prog_4_method_3_code 5 none ∈ fg_g := fg_in (List.mem_of_getElem? (i := 960) (by decide +kernel)) rfl
theorem u_958 : Cond.instanceMethod ⟨"FilterGuard$Code", "look", "(I)V"⟩ ∈ fg_g := fg_in (List.mem_of_getElem? (i := 958) (by decide +kernel)) rfl
theorem u_959 : Cond.selects "FilterGuard$Code" ⟨"FilterGuard$Code", "look", "(I)V"⟩ ⟨"FilterGuard$Code", "look", "(I)V"⟩ ∈ fg_g := fg_in (List.mem_of_getElem? (i := 959) (by decide +kernel)) rfl
theorem d_Code_faultOfForm_125 : decode prog_4_method_14_code 125 = .ok (.aload_n 0, 1) := by decide +kernel
theorem d_Code_faultOfForm_126 : decode prog_4_method_14_code 126 = .ok (.getfield 55, 3) := by decide +kernel
theorem d_Code_faultOfForm_129 : decode prog_4_method_14_code 129 = .ok (.bipush 10, 2) := by decide +kernel
theorem d_Code_faultOfForm_131 : decode prog_4_method_14_code 131 = .ok (.if_icmp .eq 20, 3) := by decide +kernel
theorem d_Code_faultOfForm_151 : decode prog_4_method_14_code 151 = .ok (.iconst 0, 1) := by decide +kernel
theorem d_Code_faultOfForm_152 : decode prog_4_method_14_code 152 = .ok (.ireturn, 1) := by decide +kernel
theorem d_Code_faultOfForm_134 : decode prog_4_method_14_code 134 = .ok (.aload_n 0, 1) := by decide +kernel
theorem d_Code_faultOfForm_135 : decode prog_4_method_14_code 135 = .ok (.getfield 55, 3) := by decide +kernel
theorem d_Code_faultOfForm_138 : decode prog_4_method_14_code 138 = .ok (.bipush 7, 2) := by decide +kernel
theorem d_Code_faultOfForm_140 : decode prog_4_method_14_code 140 = .ok (.if_icmp .eq 11, 3) := by decide +kernel
theorem d_Code_faultOfForm_143 : decode prog_4_method_14_code 143 = .ok (.aload_n 0, 1) := by decide +kernel
theorem d_Code_faultOfForm_144 : decode prog_4_method_14_code 144 = .ok (.iload_n 2, 1) := by decide +kernel
theorem d_Code_faultOfForm_145 : decode prog_4_method_14_code 145 = .ok (.putfield 26, 3) := by decide +kernel
theorem d_Code_faultOfForm_148 : decode prog_4_method_14_code 148 = .ok (.bipush 6, 2) := by decide +kernel
theorem d_Code_faultOfForm_150 : decode prog_4_method_14_code 150 = .ok (.ireturn, 1) := by decide +kernel
theorem d_Code_faultOfForm_74 : decode prog_4_method_14_code 74 = .ok (.aload_n 0, 1) := by decide +kernel
theorem d_Code_faultOfForm_75 : decode prog_4_method_14_code 75 = .ok (.iload_n 3, 1) := by decide +kernel
theorem d_Code_faultOfForm_76 : decode prog_4_method_14_code 76 = .ok (.invokevirtual 88, 3) := by decide +kernel
theorem d_Code_faultOfForm_79 : decode prog_4_method_14_code 79 = .ok (.aload_n 0, 1) := by decide +kernel
theorem d_Code_faultOfForm_80 : decode prog_4_method_14_code 80 = .ok (.getfield 15, 3) := by decide +kernel
theorem d_Code_faultOfForm_83 : decode prog_4_method_14_code 83 = .ok (.iload_n 3, 1) := by decide +kernel
theorem d_Code_faultOfForm_84 : decode prog_4_method_14_code 84 = .ok (.baload, 1) := by decide +kernel
theorem d_Code_faultOfForm_85 : decode prog_4_method_14_code 85 = .ok (.ifCond .ne 29, 3) := by decide +kernel
theorem d_Code_faultOfForm_114 : decode prog_4_method_14_code 114 = .ok (.iinc 3 1, 3) := by decide +kernel
theorem d_Code_faultOfForm_117 : decode prog_4_method_14_code 117 = .ok (.goto (-51), 3) := by decide +kernel
theorem d_Code_faultOfForm_88 : decode prog_4_method_14_code 88 = .ok (.aload_n 0, 1) := by decide +kernel
theorem d_Code_faultOfForm_89 : decode prog_4_method_14_code 89 = .ok (.invokevirtual 96, 3) := by decide +kernel
theorem u_1000 : Cond.methodLink "FilterGuard$Code" 96 ⟨"FilterGuard$Code", "isJump", "()Z"⟩ ∈ fg_g := fg_in (List.mem_of_getElem? (i := 1000) (by decide +kernel)) rfl
theorem u_1003 : Cond.code ⟨"FilterGuard$Code", "isJump", "()Z"⟩ prog_4_method_13_code 1 (some .boolean) ∈ fg_g := fg_in (List.mem_of_getElem? (i := 1003) (by decide +kernel)) rfl
theorem u_1001 : Cond.instanceMethod ⟨"FilterGuard$Code", "isJump", "()Z"⟩ ∈ fg_g := fg_in (List.mem_of_getElem? (i := 1001) (by decide +kernel)) rfl
theorem u_1002 : Cond.selects "FilterGuard$Code" ⟨"FilterGuard$Code", "isJump", "()Z"⟩ ⟨"FilterGuard$Code", "isJump", "()Z"⟩ ∈ fg_g := fg_in (List.mem_of_getElem? (i := 1002) (by decide +kernel)) rfl
theorem d_Code_faultOfForm_92 : decode prog_4_method_14_code 92 = .ok (.ifCond .eq 22, 3) := by decide +kernel
theorem d_Code_faultOfForm_95 : decode prog_4_method_14_code 95 = .ok (.aload_n 0, 1) := by decide +kernel
theorem d_Code_faultOfForm_96 : decode prog_4_method_14_code 96 = .ok (.aload_n 0, 1) := by decide +kernel
theorem d_Code_faultOfForm_97 : decode prog_4_method_14_code 97 = .ok (.iload_n 3, 1) := by decide +kernel
theorem d_Code_faultOfForm_98 : decode prog_4_method_14_code 98 = .ok (.invokevirtual 100, 3) := by decide +kernel
theorem u_1004 : Cond.methodLink "FilterGuard$Code" 100 ⟨"FilterGuard$Code", "target", "(I)I"⟩ ∈ fg_g := fg_in (List.mem_of_getElem? (i := 1004) (by decide +kernel)) rfl
theorem u_1007 : Cond.code ⟨"FilterGuard$Code", "target", "(I)I"⟩ prog_4_method_11_code 2 (some .int) ∈ fg_g := fg_in (List.mem_of_getElem? (i := 1007) (by decide +kernel)) rfl
theorem u_1005 : Cond.instanceMethod ⟨"FilterGuard$Code", "target", "(I)I"⟩ ∈ fg_g := fg_in (List.mem_of_getElem? (i := 1005) (by decide +kernel)) rfl
theorem u_1006 : Cond.selects "FilterGuard$Code" ⟨"FilterGuard$Code", "target", "(I)I"⟩ ⟨"FilterGuard$Code", "target", "(I)I"⟩ ∈ fg_g := fg_in (List.mem_of_getElem? (i := 1006) (by decide +kernel)) rfl
theorem d_Code_faultOfForm_101 : decode prog_4_method_14_code 101 = .ok (.invokevirtual 104, 3) := by decide +kernel
theorem u_1008 : Cond.methodLink "FilterGuard$Code" 104 ⟨"FilterGuard$Code", "markTarget", "(I)Z"⟩ ∈ fg_g := fg_in (List.mem_of_getElem? (i := 1008) (by decide +kernel)) rfl
theorem u_1011 : Cond.code ⟨"FilterGuard$Code", "markTarget", "(I)Z"⟩ prog_4_method_15_code 2 (some .boolean) ∈ fg_g := fg_in (List.mem_of_getElem? (i := 1011) (by decide +kernel)) rfl
theorem u_1010 : Cond.instanceMethod ⟨"FilterGuard$Code", "markTarget", "(I)Z"⟩ ∈ fg_g := fg_in (List.mem_of_getElem? (i := 1010) (by decide +kernel)) rfl
theorem u_11 : Cond.selects "FilterGuard$Code" ⟨"FilterGuard$Code", "markTarget", "(I)Z"⟩ ⟨"FilterGuard$Code", "markTarget", "(I)Z"⟩ ∈ fg_g := fg_in (List.mem_of_getElem? (i := 11) (by decide +kernel)) rfl
theorem d_Code_faultOfForm_104 : decode prog_4_method_14_code 104 = .ok (.ifCond .ne 10, 3) := by decide +kernel
theorem d_Code_faultOfForm_107 : decode prog_4_method_14_code 107 = .ok (.aload_n 0, 1) := by decide +kernel
theorem d_Code_faultOfForm_108 : decode prog_4_method_14_code 108 = .ok (.iload_n 3, 1) := by decide +kernel
theorem d_Code_faultOfForm_109 : decode prog_4_method_14_code 109 = .ok (.putfield 26, 3) := by decide +kernel
theorem d_Code_faultOfForm_112 : decode prog_4_method_14_code 112 = .ok (.iconst 5, 1) := by decide +kernel
theorem d_Code_faultOfForm_113 : decode prog_4_method_14_code 113 = .ok (.ireturn, 1) := by decide +kernel
theorem d_Code_faultOfForm_4 : decode prog_4_method_14_code 4 = .ok (.iload_n 3, 1) := by decide +kernel
theorem d_Code_faultOfForm_5 : decode prog_4_method_14_code 5 = .ok (.aload_n 0, 1) := by decide +kernel
theorem d_Code_faultOfForm_6 : decode prog_4_method_14_code 6 = .ok (.getfield 22, 3) := by decide +kernel
theorem d_Code_faultOfForm_9 : decode prog_4_method_14_code 9 = .ok (.if_icmp .ge 55, 3) := by decide +kernel
theorem d_Code_faultOfForm_64 : decode prog_4_method_14_code 64 = .ok (.iconst 0, 1) := by decide +kernel
theorem d_Code_faultOfForm_65 : decode prog_4_method_14_code 65 = .ok (.istore_n 3, 1) := by decide +kernel
theorem d_Code_faultOfForm_12 : decode prog_4_method_14_code 12 = .ok (.aload_n 0, 1) := by decide +kernel
theorem d_Code_faultOfForm_13 : decode prog_4_method_14_code 13 = .ok (.iload_n 3, 1) := by decide +kernel
theorem d_Code_faultOfForm_14 : decode prog_4_method_14_code 14 = .ok (.invokevirtual 88, 3) := by decide +kernel
theorem d_Code_faultOfForm_17 : decode prog_4_method_14_code 17 = .ok (.aload_n 0, 1) := by decide +kernel
theorem d_Code_faultOfForm_18 : decode prog_4_method_14_code 18 = .ok (.iload_n 3, 1) := by decide +kernel
theorem d_Code_faultOfForm_19 : decode prog_4_method_14_code 19 = .ok (.iload_n 1, 1) := by decide +kernel
theorem d_Code_faultOfForm_20 : decode prog_4_method_14_code 20 = .ok (.invokevirtual 92, 3) := by decide +kernel
theorem u_979 : Cond.methodLink "FilterGuard$Code" 92 ⟨"FilterGuard$Code", "faultOfSlot", "(II)I"⟩ ∈ fg_g := fg_in (List.mem_of_getElem? (i := 979) (by decide +kernel)) rfl
theorem u_982 : Cond.code ⟨"FilterGuard$Code", "faultOfSlot", "(II)I"⟩ prog_4_method_16_code 4 (some .int) ∈ fg_g := fg_in (List.mem_of_getElem? (i := 982) (by decide +kernel)) rfl
theorem u_981 : Cond.instanceMethod ⟨"FilterGuard$Code", "faultOfSlot", "(II)I"⟩ ∈ fg_g := fg_in (List.mem_of_getElem? (i := 981) (by decide +kernel)) rfl
theorem u_6 : Cond.selects "FilterGuard$Code" ⟨"FilterGuard$Code", "faultOfSlot", "(II)I"⟩ ⟨"FilterGuard$Code", "faultOfSlot", "(II)I"⟩ ∈ fg_g := fg_in (List.mem_of_getElem? (i := 6) (by decide +kernel)) rfl
theorem d_Code_faultOfForm_23 : decode prog_4_method_14_code 23 = .ok (.istore 4, 2) := by decide +kernel
theorem d_Code_faultOfForm_25 : decode prog_4_method_14_code 25 = .ok (.iload 4, 2) := by decide +kernel
theorem d_Code_faultOfForm_27 : decode prog_4_method_14_code 27 = .ok (.ifCond .eq 11, 3) := by decide +kernel
theorem d_Code_faultOfForm_38 : decode prog_4_method_14_code 38 = .ok (.iload_n 3, 1) := by decide +kernel
theorem d_Code_faultOfForm_39 : decode prog_4_method_14_code 39 = .ok (.istore_n 2, 1) := by decide +kernel
theorem d_Code_faultOfForm_40 : decode prog_4_method_14_code 40 = .ok (.aload_n 0, 1) := by decide +kernel
theorem d_Code_faultOfForm_41 : decode prog_4_method_14_code 41 = .ok (.getfield 55, 3) := by decide +kernel
theorem d_Code_faultOfForm_44 : decode prog_4_method_14_code 44 = .ok (.iconst 1, 1) := by decide +kernel
theorem d_Code_faultOfForm_45 : decode prog_4_method_14_code 45 = .ok (.if_icmp .ne 13, 3) := by decide +kernel
theorem d_Code_faultOfForm_58 : decode prog_4_method_14_code 58 = .ok (.iinc 3 1, 3) := by decide +kernel
theorem d_Code_faultOfForm_61 : decode prog_4_method_14_code 61 = .ok (.goto (-57), 3) := by decide +kernel
theorem d_Code_faultOfForm_48 : decode prog_4_method_14_code 48 = .ok (.iinc 3 1, 3) := by decide +kernel
theorem d_Code_faultOfForm_51 : decode prog_4_method_14_code 51 = .ok (.aload_n 0, 1) := by decide +kernel
theorem d_Code_faultOfForm_52 : decode prog_4_method_14_code 52 = .ok (.getfield 15, 3) := by decide +kernel
theorem d_Code_faultOfForm_55 : decode prog_4_method_14_code 55 = .ok (.iload_n 3, 1) := by decide +kernel
theorem d_Code_faultOfForm_56 : decode prog_4_method_14_code 56 = .ok (.iconst 1, 1) := by decide +kernel
theorem d_Code_faultOfForm_57 : decode prog_4_method_14_code 57 = .ok (.bastore, 1) := by decide +kernel
theorem d_Code_faultOfForm_30 : decode prog_4_method_14_code 30 = .ok (.aload_n 0, 1) := by decide +kernel
theorem d_Code_faultOfForm_31 : decode prog_4_method_14_code 31 = .ok (.iload_n 3, 1) := by decide +kernel
theorem d_Code_faultOfForm_32 : decode prog_4_method_14_code 32 = .ok (.putfield 26, 3) := by decide +kernel
theorem d_Code_faultOfForm_35 : decode prog_4_method_14_code 35 = .ok (.iload 4, 2) := by decide +kernel
theorem d_Code_faultOfForm_37 : decode prog_4_method_14_code 37 = .ok (.ireturn, 1) := by decide +kernel
theorem d_Code_faultOfForm_0 : decode prog_4_method_14_code 0 = .ok (.iconst 0, 1) := by decide +kernel
theorem d_Code_faultOfForm_1 : decode prog_4_method_14_code 1 = .ok (.istore_n 2, 1) := by decide +kernel
theorem d_Code_faultOfForm_2 : decode prog_4_method_14_code 2 = .ok (.iconst 0, 1) := by decide +kernel
theorem d_Code_faultOfForm_3 : decode prog_4_method_14_code 3 = .ok (.istore_n 3, 1) := by decide +kernel
abbrev y_Code_faultOfForm : MethodName := ⟨"FilterGuard$Code", "faultOfForm", "(I)I"⟩
def f_Code_faultOfForm_l66 (j0 : Nat) : Nat → me_M → Int32 → Int32 → Option (me_M × Int32)
  | 0, _, _, _ => none
  | fu + 1, M, y2, y3 => (if (mI M 2 j0 3) ≤ y3 then bd (f_Code_look M j0 y2) (fun (M2 : me_M) => (if (mI M2 2 j0 10) = 10 then some (M2, (0 : Int32)) else (if (mI M2 2 j0 10) = 7 then some (M2, (0 : Int32)) else st (wI M2 2 j0 4 y2) (fun (M5 : me_M) => some (M5, (6 : Int32)))))) else bd (f_Code_look M j0 y3) (fun (M6 : me_M) => bd (mR M 2 j0 1) (fun (j7 : Nat) => gd (¬ (y3 < 0 ∨ mZ M 15 j7 ≤ y3.toNatClampNeg)) ((if (mI M6 15 j7 y3.toNatClampNeg) = 0 then b2 (f_Code_isJump M6 j0) (fun (M12 : me_M) (r13 : Int32) => (if r13 = 0 then f_Code_faultOfForm_l66 j0 fu M12 y2 (y3 + 1) else b2 (f_Code_target M12 j0 y3) (fun (M15 : me_M) (r16 : Int32) => b2 (f_Code_markTarget M15 j0 r16) (fun (M17 : me_M) (r18 : Int32) => (if r18 = 0 then st (wI M17 2 j0 4 y3) (fun (M20 : me_M) => some (M20, (5 : Int32))) else f_Code_faultOfForm_l66 j0 fu M17 y2 (y3 + 1)))))) else f_Code_faultOfForm_l66 j0 fu M6 y2 (y3 + 1))))))
def f_Code_faultOfForm_l4 (j0 : Nat) (x1 : Int32) : Nat → me_M → Int32 → Int32 → Option (me_M × Int32)
  | 0, _, _, _ => none
  | fu + 1, M, y2, y3 => (if (mI M 2 j0 3) ≤ y3 then f_Code_faultOfForm_l66 j0 fuel M y2 (0 : Int32) else bd (f_Code_look M j0 y3) (fun (M22 : me_M) => b2 (f_Code_faultOfSlot M22 j0 y3 x1) (fun (M23 : me_M) (r24 : Int32) => (if r24 = 0 then (if (mI M23 2 j0 10) = 1 then bd (mR M 2 j0 1) (fun (j27 : Nat) => gd (¬ ((y3 + 1) < 0 ∨ mZ M 15 j27 ≤ (y3 + 1).toNatClampNeg)) (st (wI M23 15 j27 (y3 + 1).toNatClampNeg (vp_nar .boolean (1 : Int32))) (fun (M30 : me_M) => f_Code_faultOfForm_l4 j0 x1 fu M30 y3 ((y3 + 1) + 1)))) else f_Code_faultOfForm_l4 j0 x1 fu M23 y3 (y3 + 1)) else st (wI M23 2 j0 4 y3) (fun (M31 : me_M) => some (M31, r24))))))
def f_Code_faultOfForm (M0 : me_M) (j0 : Nat) (x1 : Int32) : Option (me_M × Int32) := f_Code_faultOfForm_l4 j0 x1 fuel M0 (0 : Int32) (0 : Int32)
def rm_Code_faultOfForm : Room := { frames := 4, cells := 0, slots := 0, locals := 84 }
abbrev q_Code_faultOfForm (D : va_G) (ad : Nat → Nat → Nat) (ca : Nat → ClassId) (N : Nat → Nat) (M0 MZ : me_M) (RZ : Int32) (A : Nat → Prop) : Array Value → Jvm.State → Outcome → Jvm.State → Prop := va_Qi (fun r (_ : Unit) => r = RZ ∧ me_wf N MZ ∧ me_kp M0 MZ) (fg_B D A (fun _ => me_W ad ca MZ) (fun _ => [])) A
set_option maxHeartbeats 4000000 in
set_option maxRecDepth 100000 in
theorem c_Code_faultOfForm (l : Launch) (D : va_G) (ad : Nat → Nat → Nat) (ca : Nat → ClassId) (N : Nat → Nat) (M0 MZ : me_M) (RZ : Int32) (j0 : Nat) (x1 : Int32) (h : f_Code_faultOfForm M0 j0 x1 = (some (MZ, RZ))) (hwf : me_wf N M0) (hj0 : j0 < N 2) (sz : Nat) : Met l y_Code_faultOfForm (fg_w y_Code_faultOfForm prog_4_method_14_code 5 (some .int)) rm_Code_faultOfForm (va_Pc [.ref (ad 2 j0), .int x1] (fz_P D (me_T ca) (me_W ad ca M0) sz)) (q_Code_faultOfForm D ad ca N M0 MZ RZ (va_A (me_W ad ca M0) sz)) rm_Code_faultOfForm.cells rm_Code_faultOfForm.slots (va_A (me_W ad ca M0) sz) := by
  refine fz_enter (fun A => q_Code_faultOfForm D ad ca N M0 MZ RZ A) (by decide +kernel) (Nat.le_of_ble_eq_true rfl) ?_
  intro p e s m below meth c ls A hx hb hml hown hts hr hlocks hin hP hK hD hS hA hX hl hz
  have hl : lv_has ls 5 [(0, .ref (ad 2 j0)), (1, .int x1)] := hl
  unfold f_Code_faultOfForm at h
  have hkp : me_kp M0 M0 := me_kp.rf
  have hkb := hkp
  have b_66 : ∀ (fu : Nat), ∀ (M : me_M) (y2 : Int32) (y3 : Int32) (H : Heap) (locs : List Loc) (ls : Array Slot), f_Code_faultOfForm_l66 j0 fu M y2 y3 = (some (MZ, RZ)) → me_wf N M → me_kp M0 M → va_P D classes (me_W ad ca M) H → va_D A (me_W ad ca M) → va_S A s.heap H locs → lv_has ls 5 [(0, .ref (ad 2 j0)), (2, .int y2), (3, .int y3)] → W p l e rm_Code_faultOfForm s m [.ref (ad 2 j0), .int x1].toArray below meth c H locs 0 0 (MQ below (q_Code_faultOfForm D ad ca N M0 MZ RZ A) [.ref (ad 2 j0), .int x1].toArray s rm_Code_faultOfForm.cells rm_Code_faultOfForm.slots A) (F0 m 66 ls []) := by
    intro fu
    induction fu with
    | zero =>
      intro M y2 y3 H locs ls h hwf hkp hP hD hS hl
      cases h
    | succ fu ih =>
      intro M y2 y3 H locs ls h hwf hkp hP hD hS hl
      unfold f_Code_faultOfForm_l66 at h
      have hkb := hkp
      refine lv_iload_n hx hb d_Code_faultOfForm_66 rfl (lv_at hl 2 rfl) ?_
      refine lv_aload_n hx hb d_Code_faultOfForm_67 rfl (lv_at hl 0 rfl) ?_
      refine g_Code_3 hx hb hts hown hK hP hwf hj0 (hts _ u_226) d_Code_faultOfForm_68 ?_
      refine lv_icmp_ge (tgt := 120) hx hb d_Code_faultOfForm_71 (by decide) (fun c1 => ?_) (fun c1 => ?_)
      · have h := if_t c1 h
        refine lv_aload_n hx hb d_Code_faultOfForm_120 rfl (lv_at hl 0 rfl) ?_
        refine lv_iload_n hx hb d_Code_faultOfForm_121 rfl (lv_at hl 1 rfl) ?_
        obtain ⟨M2, eM2, h⟩ := bd_ob h
        refine me_thenv0 (M1 := M2) (me_runV (C := "FilterGuard$Code") (As := [.int y2]) (rest := []) ⟨hx, hb, hml, hown, hts⟩ (c_Code_look l D ad ca N M M2 j0 y2 eM2 hwf hj0 _) rfl (by show fg_nm y_Code_look 1; decide +kernel) u_957 u_958 u_959 u_182 u_960 ⟨Nat.le_of_ble_eq_true rfl, Nat.le_of_ble_eq_true rfl⟩ hX hz hK hP hD hwf hS hA hj0 (by decide) rfl rfl rfl hl.1 (Nat.le_of_ble_eq_true rfl) d_Code_faultOfForm_122 ⟨Nat.le_of_ble_eq_true rfl, Nat.le_of_ble_eq_true rfl⟩) hP hD hK hS hA rfl rfl (fun H locs hw hP hD hS => ?_)
        obtain ⟨hwf, hk9⟩ := hw
        have hkp := hkp.tr hk9
        refine lv_aload_n hx hb d_Code_faultOfForm_125 rfl (lv_at hl 0 rfl) ?_
        refine g_Code_10 hx hb hts hown hK hP hwf hj0 (hts _ u_252) d_Code_faultOfForm_126 ?_
        refine lv_bipush (v := 10) hx hb d_Code_faultOfForm_129 (by decide) ?_
        refine lv_icmp_eq (tgt := 151) hx hb d_Code_faultOfForm_131 (by decide) (fun c3 => ?_) (fun c3 => ?_)
        · have h := if_t c3 h
          refine lv_iconst (v := 0) hx hb d_Code_faultOfForm_151 (by decide) ?_
          exact me_reti (me_kp M0) h hx hb hr hlocks hwf hkp hP hK hD hS d_Code_faultOfForm_152
        have h := if_f c3 h
        refine lv_aload_n hx hb d_Code_faultOfForm_134 rfl (lv_at hl 0 rfl) ?_
        refine g_Code_10 hx hb hts hown hK hP hwf hj0 (hts _ u_252) d_Code_faultOfForm_135 ?_
        refine lv_bipush (v := 7) hx hb d_Code_faultOfForm_138 (by decide) ?_
        refine lv_icmp_eq (tgt := 151) hx hb d_Code_faultOfForm_140 (by decide) (fun c4 => ?_) (fun c4 => ?_)
        · have h := if_t c4 h
          refine lv_iconst (v := 0) hx hb d_Code_faultOfForm_151 (by decide) ?_
          exact me_reti (me_kp M0) h hx hb hr hlocks hwf hkp hP hK hD hS d_Code_faultOfForm_152
        have h := if_f c4 h
        refine lv_aload_n hx hb d_Code_faultOfForm_143 rfl (lv_at hl 0 rfl) ?_
        refine lv_iload_n hx hb d_Code_faultOfForm_144 rfl (lv_at hl 1 rfl) ?_
        obtain ⟨M5, eM5, h⟩ := st_ob h
        refine p_Code_4 eM5 hx hb hts hown hK hP hD hwf hS hj0 (hts _ u_229) d_Code_faultOfForm_145 (fun H locs hP hD hwf hS => ?_)
        have hkp := kp_I eM5 hkp
        refine lv_bipush (v := 6) hx hb d_Code_faultOfForm_148 (by decide) ?_
        exact me_reti (me_kp M0) h hx hb hr hlocks hwf hkp hP hK hD hS d_Code_faultOfForm_150
      have h := if_f c1 h
      refine lv_aload_n hx hb d_Code_faultOfForm_74 rfl (lv_at hl 0 rfl) ?_
      refine lv_iload_n hx hb d_Code_faultOfForm_75 rfl (lv_at hl 2 rfl) ?_
      obtain ⟨M6, eM6, h⟩ := bd_ob h
      refine me_thenv0 (M1 := M6) (me_runV (C := "FilterGuard$Code") (As := [.int y3]) (rest := []) ⟨hx, hb, hml, hown, hts⟩ (c_Code_look l D ad ca N M M6 j0 y3 eM6 hwf hj0 _) rfl (by show fg_nm y_Code_look 1; decide +kernel) u_957 u_958 u_959 u_182 u_960 ⟨Nat.le_of_ble_eq_true rfl, Nat.le_of_ble_eq_true rfl⟩ hX hz hK hP hD hwf hS hA hj0 (by decide) rfl rfl rfl hl.1 (Nat.le_of_ble_eq_true rfl) d_Code_faultOfForm_76 ⟨Nat.le_of_ble_eq_true rfl, Nat.le_of_ble_eq_true rfl⟩) hP hD hK hS hA rfl rfl (fun H locs hw hP hD hS => ?_)
      obtain ⟨hwf, hk9⟩ := hw
      have hkp := hkp.tr hk9
      refine lv_aload_n hx hb d_Code_faultOfForm_79 rfl (lv_at hl 0 rfl) ?_
      refine g_Code_1 hx hb hts hown hK hP hwf hj0 (hts _ u_223) d_Code_faultOfForm_80 ?_
      obtain ⟨j7, e8, h⟩ := bd_ob h
      have hj7 : j7 < N 15 := (hwf.2.1 2 j0 1 _ (kp_r hkb hkp e8) (by decide) hj0)
      refine me_opt (j := j7) (kp_r hkb hkp e8) ?_
      refine lv_iload_n hx hb d_Code_faultOfForm_83 rfl (lv_at hl 2 rfl) ?_
      obtain ⟨g9, h⟩ := gd_ob h
      refine me_zald hx hb hK hP hwf hj7 (kp_z hkb.z hkp.z g9) d_Code_faultOfForm_84 ?_
      have z10 := hwf.2.2.2 15 j7 y3.toNatClampNeg rfl
      refine lv_if_ne (tgt := 114) hx hb d_Code_faultOfForm_85 (by decide) (fun c11 => ?_) (fun c11 => ?_)
      · have h := if_f c11 h
        refine lv_iinc (v := y3 + 1) (lv' := [(3, .int (y3 + 1)), (0, .ref (ad 2 j0)), (2, .int y2)]) hx hb d_Code_faultOfForm_114 hl (k := 2) rfl (by rfl) (by decide) rfl (fun ls hl => ?_)
        refine lv_goto (tgt := 66) hx hb d_Code_faultOfForm_117 (by decide) ?_
        exact ih M6 y2 (y3 + 1) _ _ _ h hwf hkp hP hD hS (lv_sub hl [1, 2, 0] rfl)
      have h := if_t c11 h
      refine lv_aload_n hx hb d_Code_faultOfForm_88 rfl (lv_at hl 0 rfl) ?_
      obtain ⟨M12, r13, eM12, h⟩ := b2_ob h
      refine me_theni0 (M1 := M12) (me_runV (C := "FilterGuard$Code") (As := []) (rest := []) ⟨hx, hb, hml, hown, hts⟩ (c_Code_isJump l D ad ca N M6 M12 r13 j0 eM12 hwf hj0 _) rfl (by show fg_nm y_Code_isJump 0; decide +kernel) u_1000 u_1001 u_1002 u_182 u_1003 ⟨Nat.le_of_ble_eq_true rfl, Nat.le_of_ble_eq_true rfl⟩ hX hz hK hP hD hwf hS hA hj0 (by decide) rfl rfl rfl hl.1 (Nat.le_of_ble_eq_true rfl) d_Code_faultOfForm_89 ⟨Nat.le_of_ble_eq_true rfl, Nat.le_of_ble_eq_true rfl⟩) hP hD hK hS hA rfl rfl (fun H locs hw hP hD hS => ?_)
      obtain ⟨hwf, hk9, zr13⟩ := hw
      have hkp := hkp.tr hk9
      refine lv_if_eq (tgt := 114) hx hb d_Code_faultOfForm_92 (by decide) (fun c14 => ?_) (fun c14 => ?_)
      · have h := if_t c14 h
        refine lv_iinc (v := y3 + 1) (lv' := [(3, .int (y3 + 1)), (0, .ref (ad 2 j0)), (2, .int y2)]) hx hb d_Code_faultOfForm_114 hl (k := 2) rfl (by rfl) (by decide) rfl (fun ls hl => ?_)
        refine lv_goto (tgt := 66) hx hb d_Code_faultOfForm_117 (by decide) ?_
        exact ih M12 y2 (y3 + 1) _ _ _ h hwf hkp hP hD hS (lv_sub hl [1, 2, 0] rfl)
      have h := if_f c14 h
      refine lv_aload_n hx hb d_Code_faultOfForm_95 rfl (lv_at hl 0 rfl) ?_
      refine lv_aload_n hx hb d_Code_faultOfForm_96 rfl (lv_at hl 0 rfl) ?_
      refine lv_iload_n hx hb d_Code_faultOfForm_97 rfl (lv_at hl 2 rfl) ?_
      obtain ⟨M15, r16, eM15, h⟩ := b2_ob h
      refine me_theni0 (M1 := M15) (me_runV (C := "FilterGuard$Code") (As := [.int y3]) (rest := [.ref (ad 2 j0)]) ⟨hx, hb, hml, hown, hts⟩ (c_Code_target l D ad ca N M12 M15 r16 j0 y3 eM15 hwf hj0 _) rfl (by show fg_nm y_Code_target 1; decide +kernel) u_1004 u_1005 u_1006 u_182 u_1007 ⟨Nat.le_of_ble_eq_true rfl, Nat.le_of_ble_eq_true rfl⟩ hX hz hK hP hD hwf hS hA hj0 (by decide) rfl rfl rfl hl.1 (Nat.le_of_ble_eq_true rfl) d_Code_faultOfForm_98 ⟨Nat.le_of_ble_eq_true rfl, Nat.le_of_ble_eq_true rfl⟩) hP hD hK hS hA rfl rfl (fun H locs hw hP hD hS => ?_)
      obtain ⟨hwf, hk9⟩ := hw
      have hkp := hkp.tr hk9
      obtain ⟨M17, r18, eM17, h⟩ := b2_ob h
      refine me_theni0 (M1 := M17) (me_runV (C := "FilterGuard$Code") (As := [.int r16]) (rest := []) ⟨hx, hb, hml, hown, hts⟩ (c_Code_markTarget l D ad ca N M15 M17 r18 j0 r16 eM17 hwf hj0 _) rfl (by show fg_nm y_Code_markTarget 1; decide +kernel) u_1008 u_1010 u_11 u_182 u_1011 ⟨Nat.le_of_ble_eq_true rfl, Nat.le_of_ble_eq_true rfl⟩ hX hz hK hP hD hwf hS hA hj0 (by decide) rfl rfl rfl hl.1 (Nat.le_of_ble_eq_true rfl) d_Code_faultOfForm_101 ⟨Nat.le_of_ble_eq_true rfl, Nat.le_of_ble_eq_true rfl⟩) hP hD hK hS hA rfl rfl (fun H locs hw hP hD hS => ?_)
      obtain ⟨hwf, hk9, zr18⟩ := hw
      have hkp := hkp.tr hk9
      refine lv_if_ne (tgt := 114) hx hb d_Code_faultOfForm_104 (by decide) (fun c19 => ?_) (fun c19 => ?_)
      · have h := if_f c19 h
        refine lv_iinc (v := y3 + 1) (lv' := [(3, .int (y3 + 1)), (0, .ref (ad 2 j0)), (2, .int y2)]) hx hb d_Code_faultOfForm_114 hl (k := 2) rfl (by rfl) (by decide) rfl (fun ls hl => ?_)
        refine lv_goto (tgt := 66) hx hb d_Code_faultOfForm_117 (by decide) ?_
        exact ih M17 y2 (y3 + 1) _ _ _ h hwf hkp hP hD hS (lv_sub hl [1, 2, 0] rfl)
      have h := if_t c19 h
      refine lv_aload_n hx hb d_Code_faultOfForm_107 rfl (lv_at hl 0 rfl) ?_
      refine lv_iload_n hx hb d_Code_faultOfForm_108 rfl (lv_at hl 2 rfl) ?_
      obtain ⟨M20, eM20, h⟩ := st_ob h
      refine p_Code_4 eM20 hx hb hts hown hK hP hD hwf hS hj0 (hts _ u_229) d_Code_faultOfForm_109 (fun H locs hP hD hwf hS => ?_)
      have hkp := kp_I eM20 hkp
      refine lv_iconst (v := 5) hx hb d_Code_faultOfForm_112 (by decide) ?_
      exact me_reti (me_kp M0) h hx hb hr hlocks hwf hkp hP hK hD hS d_Code_faultOfForm_113
  have b_4 : ∀ (fu : Nat), ∀ (M : me_M) (y2 : Int32) (y3 : Int32) (H : Heap) (locs : List Loc) (ls : Array Slot), f_Code_faultOfForm_l4 j0 x1 fu M y2 y3 = (some (MZ, RZ)) → me_wf N M → me_kp M0 M → va_P D classes (me_W ad ca M) H → va_D A (me_W ad ca M) → va_S A s.heap H locs → lv_has ls 5 [(0, .ref (ad 2 j0)), (1, .int x1), (2, .int y2), (3, .int y3)] → W p l e rm_Code_faultOfForm s m [.ref (ad 2 j0), .int x1].toArray below meth c H locs 0 0 (MQ below (q_Code_faultOfForm D ad ca N M0 MZ RZ A) [.ref (ad 2 j0), .int x1].toArray s rm_Code_faultOfForm.cells rm_Code_faultOfForm.slots A) (F0 m 4 ls []) := by
    intro fu
    induction fu with
    | zero =>
      intro M y2 y3 H locs ls h hwf hkp hP hD hS hl
      cases h
    | succ fu ih =>
      intro M y2 y3 H locs ls h hwf hkp hP hD hS hl
      unfold f_Code_faultOfForm_l4 at h
      have hkb := hkp
      refine lv_iload_n hx hb d_Code_faultOfForm_4 rfl (lv_at hl 3 rfl) ?_
      refine lv_aload_n hx hb d_Code_faultOfForm_5 rfl (lv_at hl 0 rfl) ?_
      refine g_Code_3 hx hb hts hown hK hP hwf hj0 (hts _ u_226) d_Code_faultOfForm_6 ?_
      refine lv_icmp_ge (tgt := 64) hx hb d_Code_faultOfForm_9 (by decide) (fun c21 => ?_) (fun c21 => ?_)
      · have h := if_t c21 h
        refine lv_iconst (v := 0) hx hb d_Code_faultOfForm_64 (by decide) ?_
        refine lv_istore_n (lv' := [(3, .int 0), (0, .ref (ad 2 j0)), (1, .int x1), (2, .int y2)]) hx hb d_Code_faultOfForm_65 rfl hl (by decide) rfl (fun ls hl => ?_)
        exact b_66 _ M y2 (0 : Int32) _ _ _ h hwf hkp hP hD hS (lv_sub hl [1, 3, 0] rfl)
      have h := if_f c21 h
      refine lv_aload_n hx hb d_Code_faultOfForm_12 rfl (lv_at hl 0 rfl) ?_
      refine lv_iload_n hx hb d_Code_faultOfForm_13 rfl (lv_at hl 3 rfl) ?_
      obtain ⟨M22, eM22, h⟩ := bd_ob h
      refine me_thenv0 (M1 := M22) (me_runV (C := "FilterGuard$Code") (As := [.int y3]) (rest := []) ⟨hx, hb, hml, hown, hts⟩ (c_Code_look l D ad ca N M M22 j0 y3 eM22 hwf hj0 _) rfl (by show fg_nm y_Code_look 1; decide +kernel) u_957 u_958 u_959 u_182 u_960 ⟨Nat.le_of_ble_eq_true rfl, Nat.le_of_ble_eq_true rfl⟩ hX hz hK hP hD hwf hS hA hj0 (by decide) rfl rfl rfl hl.1 (Nat.le_of_ble_eq_true rfl) d_Code_faultOfForm_14 ⟨Nat.le_of_ble_eq_true rfl, Nat.le_of_ble_eq_true rfl⟩) hP hD hK hS hA rfl rfl (fun H locs hw hP hD hS => ?_)
      obtain ⟨hwf, hk9⟩ := hw
      have hkp := hkp.tr hk9
      refine lv_aload_n hx hb d_Code_faultOfForm_17 rfl (lv_at hl 0 rfl) ?_
      refine lv_iload_n hx hb d_Code_faultOfForm_18 rfl (lv_at hl 3 rfl) ?_
      refine lv_iload_n hx hb d_Code_faultOfForm_19 rfl (lv_at hl 1 rfl) ?_
      obtain ⟨M23, r24, eM23, h⟩ := b2_ob h
      refine me_theni0 (M1 := M23) (me_runV (C := "FilterGuard$Code") (As := [.int y3, .int x1]) (rest := []) ⟨hx, hb, hml, hown, hts⟩ (c_Code_faultOfSlot l D ad ca N M22 M23 r24 j0 y3 x1 eM23 hwf hj0 _) rfl (by show fg_nm y_Code_faultOfSlot 2; decide +kernel) u_979 u_981 u_6 u_182 u_982 ⟨Nat.le_of_ble_eq_true rfl, Nat.le_of_ble_eq_true rfl⟩ hX hz hK hP hD hwf hS hA hj0 (by decide) rfl rfl rfl hl.1 (Nat.le_of_ble_eq_true rfl) d_Code_faultOfForm_20 ⟨Nat.le_of_ble_eq_true rfl, Nat.le_of_ble_eq_true rfl⟩) hP hD hK hS hA rfl rfl (fun H locs hw hP hD hS => ?_)
      obtain ⟨hwf, hk9⟩ := hw
      have hkp := hkp.tr hk9
      refine lv_istore (lv' := [(4, .int r24), (0, .ref (ad 2 j0)), (1, .int x1), (2, .int y2), (3, .int y3)]) hx hb d_Code_faultOfForm_23 hl (by decide) rfl (fun ls hl => ?_)
      refine lv_iload hx hb d_Code_faultOfForm_25 (lv_at hl 0 rfl) ?_
      refine lv_if_eq (tgt := 38) hx hb d_Code_faultOfForm_27 (by decide) (fun c25 => ?_) (fun c25 => ?_)
      · have h := if_t c25 h
        refine lv_iload_n hx hb d_Code_faultOfForm_38 rfl (lv_at hl 4 rfl) ?_
        refine lv_istore_n (lv' := [(2, .int y3), (4, .int r24), (0, .ref (ad 2 j0)), (1, .int x1), (3, .int y3)]) hx hb d_Code_faultOfForm_39 rfl hl (by decide) rfl (fun ls hl => ?_)
        refine lv_aload_n hx hb d_Code_faultOfForm_40 rfl (lv_at hl 2 rfl) ?_
        refine g_Code_10 hx hb hts hown hK hP hwf hj0 (hts _ u_252) d_Code_faultOfForm_41 ?_
        refine lv_iconst (v := 1) hx hb d_Code_faultOfForm_44 (by decide) ?_
        refine lv_icmp_ne (tgt := 58) hx hb d_Code_faultOfForm_45 (by decide) (fun c26 => ?_) (fun c26 => ?_)
        · have h := if_f c26 h
          refine lv_iinc (v := y3 + 1) (lv' := [(3, .int (y3 + 1)), (2, .int y3), (4, .int r24), (0, .ref (ad 2 j0)), (1, .int x1)]) hx hb d_Code_faultOfForm_58 hl (k := 4) rfl (by rfl) (by decide) rfl (fun ls hl => ?_)
          refine lv_goto (tgt := 4) hx hb d_Code_faultOfForm_61 (by decide) ?_
          exact ih M23 y3 (y3 + 1) _ _ _ h hwf hkp hP hD hS (lv_sub hl [3, 4, 1, 0] rfl)
        have h := if_t c26 h
        refine lv_iinc (v := y3 + 1) (lv' := [(3, .int (y3 + 1)), (2, .int y3), (4, .int r24), (0, .ref (ad 2 j0)), (1, .int x1)]) hx hb d_Code_faultOfForm_48 hl (k := 4) rfl (by rfl) (by decide) rfl (fun ls hl => ?_)
        refine lv_aload_n hx hb d_Code_faultOfForm_51 rfl (lv_at hl 3 rfl) ?_
        refine g_Code_1 hx hb hts hown hK hP hwf hj0 (hts _ u_223) d_Code_faultOfForm_52 ?_
        obtain ⟨j27, e28, h⟩ := bd_ob h
        have hj27 : j27 < N 15 := (hwf.2.1 2 j0 1 _ (kp_r hkb hkp e28) (by decide) hj0)
        refine me_opt (j := j27) (kp_r hkb hkp e28) ?_
        refine lv_iload_n hx hb d_Code_faultOfForm_55 rfl (lv_at hl 0 rfl) ?_
        refine lv_iconst (v := 1) hx hb d_Code_faultOfForm_56 (by decide) ?_
        obtain ⟨g29, h⟩ := gd_ob h
        obtain ⟨M30, eM30, h⟩ := st_ob h
        refine me_zast eM30 hx hb hK hP hD hwf hS hj27 (kp_z hkb.z hkp.z g29) d_Code_faultOfForm_57 (fun H locs hP hD hwf hS => ?_)
        have hkp := kp_I eM30 hkp
        refine lv_iinc (v := (y3 + 1) + 1) (lv' := [(3, .int ((y3 + 1) + 1)), (2, .int y3), (4, .int r24), (0, .ref (ad 2 j0)), (1, .int x1)]) hx hb d_Code_faultOfForm_58 hl (k := 0) rfl (by rfl) (by decide) rfl (fun ls hl => ?_)
        refine lv_goto (tgt := 4) hx hb d_Code_faultOfForm_61 (by decide) ?_
        exact ih M30 y3 ((y3 + 1) + 1) _ _ _ h hwf hkp hP hD hS (lv_sub hl [3, 4, 1, 0] rfl)
      have h := if_f c25 h
      refine lv_aload_n hx hb d_Code_faultOfForm_30 rfl (lv_at hl 1 rfl) ?_
      refine lv_iload_n hx hb d_Code_faultOfForm_31 rfl (lv_at hl 4 rfl) ?_
      obtain ⟨M31, eM31, h⟩ := st_ob h
      refine p_Code_4 eM31 hx hb hts hown hK hP hD hwf hS hj0 (hts _ u_229) d_Code_faultOfForm_32 (fun H locs hP hD hwf hS => ?_)
      have hkp := kp_I eM31 hkp
      refine lv_iload hx hb d_Code_faultOfForm_35 (lv_at hl 0 rfl) ?_
      exact me_reti (me_kp M0) h hx hb hr hlocks hwf hkp hP hK hD hS d_Code_faultOfForm_37
  refine lv_iconst (v := 0) hx hb d_Code_faultOfForm_0 (by decide) ?_
  refine lv_istore_n (lv' := [(2, .int 0), (0, .ref (ad 2 j0)), (1, .int x1)]) hx hb d_Code_faultOfForm_1 rfl hl (by decide) rfl (fun ls hl => ?_)
  refine lv_iconst (v := 0) hx hb d_Code_faultOfForm_2 (by decide) ?_
  refine lv_istore_n (lv' := [(3, .int 0), (2, .int 0), (0, .ref (ad 2 j0)), (1, .int x1)]) hx hb d_Code_faultOfForm_3 rfl hl (by decide) rfl (fun ls hl => ?_)
  exact b_4 _ M0 (0 : Int32) (0 : Int32) _ _ _ h hwf hkp hP hD hS (lv_sub hl [2, 3, 1, 0] rfl)
