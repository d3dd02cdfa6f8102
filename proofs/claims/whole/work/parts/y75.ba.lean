theorem d_M_fact_61 : decode prog_14_method_112_code 61 = .ok (.istore_n 3, 1) := by decide +kernel
theorem d_M_fact_62 : decode prog_14_method_112_code 62 = .ok (.iload_n 2, 1) := by decide +kernel
theorem d_M_fact_63 : decode prog_14_method_112_code 63 = .ok (.tableswitch 77 0 3 #[29, 37, 52, 67], 29) := by decide +kernel
theorem d_M_fact_92 : decode prog_14_method_112_code 92 = .ok (.aload_n 0, 1) := by decide +kernel
theorem d_M_fact_93 : decode prog_14_method_112_code 93 = .ok (.getfield 47, 3) := by decide +kernel
theorem d_M_fact_96 : decode prog_14_method_112_code 96 = .ok (.iload_n 1, 1) := by decide +kernel
theorem d_M_fact_97 : decode prog_14_method_112_code 97 = .ok (.iaload, 1) := by decide +kernel
theorem d_M_fact_98 : decode prog_14_method_112_code 98 = .ok (.i2l, 1) := by decide +kernel
theorem d_M_fact_99 : decode prog_14_method_112_code 99 = .ok (.lreturn, 1) := by decide +kernel
theorem d_M_fact_100 : decode prog_14_method_112_code 100 = .ok (.aload_n 0, 1) := by decide +kernel
theorem d_M_fact_101 : decode prog_14_method_112_code 101 = .ok (.getfield 50, 3) := by decide +kernel
theorem d_M_fact_104 : decode prog_14_method_112_code 104 = .ok (.iload_n 1, 1) := by decide +kernel
theorem d_M_fact_105 : decode prog_14_method_112_code 105 = .ok (.baload, 1) := by decide +kernel
theorem d_M_fact_106 : decode prog_14_method_112_code 106 = .ok (.ifCond .eq 7, 3) := by decide +kernel
theorem d_M_fact_113 : decode prog_14_method_112_code 113 = .ok (.lconst 0, 1) := by decide +kernel
theorem d_M_fact_114 : decode prog_14_method_112_code 114 = .ok (.lreturn, 1) := by decide +kernel
theorem d_M_fact_109 : decode prog_14_method_112_code 109 = .ok (.lconst 1, 1) := by decide +kernel
theorem d_M_fact_110 : decode prog_14_method_112_code 110 = .ok (.goto 4, 3) := by decide +kernel
theorem d_M_fact_115 : decode prog_14_method_112_code 115 = .ok (.aload_n 0, 1) := by decide +kernel
theorem d_M_fact_116 : decode prog_14_method_112_code 116 = .ok (.getfield 53, 3) := by decide +kernel
theorem d_M_fact_119 : decode prog_14_method_112_code 119 = .ok (.iload_n 1, 1) := by decide +kernel
theorem d_M_fact_120 : decode prog_14_method_112_code 120 = .ok (.baload, 1) := by decide +kernel
theorem d_M_fact_121 : decode prog_14_method_112_code 121 = .ok (.ifCond .eq 7, 3) := by decide +kernel
theorem d_M_fact_128 : decode prog_14_method_112_code 128 = .ok (.lconst 0, 1) := by decide +kernel
theorem d_M_fact_129 : decode prog_14_method_112_code 129 = .ok (.lreturn, 1) := by decide +kernel
theorem d_M_fact_124 : decode prog_14_method_112_code 124 = .ok (.lconst 1, 1) := by decide +kernel
theorem d_M_fact_125 : decode prog_14_method_112_code 125 = .ok (.goto 4, 3) := by decide +kernel
theorem d_M_fact_130 : decode prog_14_method_112_code 130 = .ok (.iload_n 3, 1) := by decide +kernel
theorem d_M_fact_131 : decode prog_14_method_112_code 131 = .ok (.ifCond .eq 7, 3) := by decide +kernel
theorem d_M_fact_138 : decode prog_14_method_112_code 138 = .ok (.lconst 0, 1) := by decide +kernel
theorem d_M_fact_139 : decode prog_14_method_112_code 139 = .ok (.lreturn, 1) := by decide +kernel
theorem d_M_fact_134 : decode prog_14_method_112_code 134 = .ok (.lconst 1, 1) := by decide +kernel
theorem d_M_fact_135 : decode prog_14_method_112_code 135 = .ok (.goto 4, 3) := by decide +kernel
theorem d_M_fact_140 : decode prog_14_method_112_code 140 = .ok (.iload_n 3, 1) := by decide +kernel
theorem d_M_fact_141 : decode prog_14_method_112_code 141 = .ok (.ifCond .eq 12, 3) := by decide +kernel
theorem d_M_fact_153 : decode prog_14_method_112_code 153 = .ok (.lconst 0, 1) := by decide +kernel
theorem d_M_fact_154 : decode prog_14_method_112_code 154 = .ok (.lreturn, 1) := by decide +kernel
theorem d_M_fact_144 : decode prog_14_method_112_code 144 = .ok (.aload_n 0, 1) := by decide +kernel
theorem d_M_fact_145 : decode prog_14_method_112_code 145 = .ok (.getfield 59, 3) := by decide +kernel
theorem d_M_fact_148 : decode prog_14_method_112_code 148 = .ok (.iload_n 1, 1) := by decide +kernel
theorem d_M_fact_149 : decode prog_14_method_112_code 149 = .ok (.laload, 1) := by decide +kernel
theorem d_M_fact_150 : decode prog_14_method_112_code 150 = .ok (.goto 4, 3) := by decide +kernel
theorem d_M_fact_34 : decode prog_14_method_112_code 34 = .ok (.putfield 152, 3) := by decide +kernel
theorem d_M_fact_37 : decode prog_14_method_112_code 37 = .ok (.aload_n 0, 1) := by decide +kernel
theorem d_M_fact_38 : decode prog_14_method_112_code 38 = .ok (.getfield 152, 3) := by decide +kernel
theorem d_M_fact_41 : decode prog_14_method_112_code 41 = .ok (.ifCond .le 5, 3) := by decide +kernel
theorem d_M_fact_46 : decode prog_14_method_112_code 46 = .ok (.aload_n 0, 1) := by decide +kernel
theorem d_M_fact_47 : decode prog_14_method_112_code 47 = .ok (.getfield 56, 3) := by decide +kernel
theorem d_M_fact_50 : decode prog_14_method_112_code 50 = .ok (.iload_n 1, 1) := by decide +kernel
theorem d_M_fact_51 : decode prog_14_method_112_code 51 = .ok (.iaload, 1) := by decide +kernel
theorem d_M_fact_52 : decode prog_14_method_112_code 52 = .ok (.iconst 1, 1) := by decide +kernel
theorem d_M_fact_53 : decode prog_14_method_112_code 53 = .ok (.if_icmp .ne 7, 3) := by decide +kernel
theorem d_M_fact_60 : decode prog_14_method_112_code 60 = .ok (.iconst 0, 1) := by decide +kernel
theorem d_M_fact_56 : decode prog_14_method_112_code 56 = .ok (.iconst 1, 1) := by decide +kernel
theorem d_M_fact_57 : decode prog_14_method_112_code 57 = .ok (.goto 4, 3) := by decide +kernel
theorem d_M_fact_44 : decode prog_14_method_112_code 44 = .ok (.lconst 0, 1) := by decide +kernel
theorem d_M_fact_45 : decode prog_14_method_112_code 45 = .ok (.lreturn, 1) := by decide +kernel
theorem d_M_fact_33 : decode prog_14_method_112_code 33 = .ok (.iconst 1, 1) := by decide +kernel
theorem d_M_fact_0 : decode prog_14_method_112_code 0 = .ok (.aload_n 0, 1) := by decide +kernel
theorem d_M_fact_1 : decode prog_14_method_112_code 1 = .ok (.aload_n 0, 1) := by decide +kernel
theorem d_M_fact_2 : decode prog_14_method_112_code 2 = .ok (.getfield 571, 3) := by decide +kernel
theorem d_M_fact_5 : decode prog_14_method_112_code 5 = .ok (.ifCond .eq 28, 3) := by decide +kernel
theorem d_M_fact_8 : decode prog_14_method_112_code 8 = .ok (.iload_n 1, 1) := by decide +kernel
theorem d_M_fact_9 : decode prog_14_method_112_code 9 = .ok (.ifCond .lt 24, 3) := by decide +kernel
theorem d_M_fact_12 : decode prog_14_method_112_code 12 = .ok (.iload_n 1, 1) := by decide +kernel
theorem d_M_fact_13 : decode prog_14_method_112_code 13 = .ok (.aload_n 0, 1) := by decide +kernel
theorem d_M_fact_14 : decode prog_14_method_112_code 14 = .ok (.getfield 327, 3) := by decide +kernel
theorem d_M_fact_17 : decode prog_14_method_112_code 17 = .ok (.if_icmp .ge 16, 3) := by decide +kernel
theorem d_M_fact_20 : decode prog_14_method_112_code 20 = .ok (.iload_n 2, 1) := by decide +kernel
theorem d_M_fact_21 : decode prog_14_method_112_code 21 = .ok (.ifCond .lt 12, 3) := by decide +kernel
theorem d_M_fact_24 : decode prog_14_method_112_code 24 = .ok (.iload_n 2, 1) := by decide +kernel
theorem d_M_fact_25 : decode prog_14_method_112_code 25 = .ok (.iconst 5, 1) := by decide +kernel
theorem d_M_fact_26 : decode prog_14_method_112_code 26 = .ok (.if_icmp .ge 7, 3) := by decide +kernel
theorem d_M_fact_29 : decode prog_14_method_112_code 29 = .ok (.iconst 0, 1) := by decide +kernel
theorem d_M_fact_30 : decode prog_14_method_112_code 30 = .ok (.goto 4, 3) := by decide +kernel
abbrev y_M_fact : MethodName := ⟨"FilterGuardModel", "fact", "(II)J"⟩
def rm_M_fact : Room := { frames := 1, cells := 0, slots := 0, locals := 20 }
abbrev q_M_fact (D : va_G) (ad : Nat → Nat → Nat) (ca : Nat → ClassId) (N : Nat → Nat) (M0 MZ : me_M) (RZ : Int64) (A : Nat → Prop) : Array Value → Jvm.State → Outcome → Jvm.State → Prop := va_Ql (fun r (_ : Unit) => r = RZ ∧ me_wf N MZ ∧ me_kp M0 MZ) (fg_B D A (fun _ => me_W ad ca MZ) (fun _ => [])) A
set_option maxHeartbeats 4000000 in
set_option maxRecDepth 100000 in
theorem c_M_fact (l : Launch) (D : va_G) (ad : Nat → Nat → Nat) (ca : Nat → ClassId) (N : Nat → Nat) (M0 MZ : me_M) (RZ : Int64) (j0 : Nat) (x1 : Int32) (x2 : Int32) (h : f_M_fact M0 j0 x1 x2 = (some (MZ, RZ))) (hwf : me_wf N M0) (hj0 : j0 < N 1) (sz : Nat) : Met l y_M_fact (fg_w y_M_fact prog_14_method_112_code 4 (some .long)) rm_M_fact (va_Pc [.ref (ad 1 j0), .int x1, .int x2] (fz_P D (me_T ca) (me_W ad ca M0) sz)) (q_M_fact D ad ca N M0 MZ RZ (va_A (me_W ad ca M0) sz)) rm_M_fact.cells rm_M_fact.slots (va_A (me_W ad ca M0) sz) := by
  refine fz_enter (fun A => q_M_fact D ad ca N M0 MZ RZ A) (by decide +kernel) (Nat.le_of_ble_eq_true rfl) ?_
  intro p e s m below meth c ls A hx hb hml hown hts hr hlocks hin hP hK hD hS hA hX hl hz
  have hl : lv_has ls 4 [(0, .ref (ad 1 j0)), (1, .int x1), (2, .int x2)] := hl
  unfold f_M_fact at h
  have hkp : me_kp M0 M0 := me_kp.rf
  have hkb := hkp
  have b_61 : ∀ (M : me_M) (s0 : Int32) (H : Heap) (locs : List Loc) (ls : Array Slot), f_M_fact_b61 j0 x1 x2 M s0 = (some (MZ, RZ)) → (s0 = 1 ∨ s0 = 0) → me_wf N M → me_kp M0 M → va_P D classes (me_W ad ca M) H → va_D A (me_W ad ca M) → va_S A s.heap H locs → lv_has ls 4 [(0, .ref (ad 1 j0)), (1, .int x1), (2, .int x2)] → W p l e rm_M_fact s m [.ref (ad 1 j0), .int x1, .int x2].toArray below meth c H locs 0 0 (MQ below (q_M_fact D ad ca N M0 MZ RZ A) [.ref (ad 1 j0), .int x1, .int x2].toArray s rm_M_fact.cells rm_M_fact.slots A) (F0 m 61 ls [.int s0]) := by
    intro M s0 H locs ls h zs0 hwf hkp hP hD hS hl
    unfold f_M_fact_b61 at h
    have hkb := hkp
    refine lv_istore_n (lv' := [(3, .int s0), (0, .ref (ad 1 j0)), (1, .int x1), (2, .int x2)]) hx hb d_M_fact_61 rfl hl (by decide) rfl (fun ls hl => ?_)
    refine lv_iload_n hx hb d_M_fact_62 rfl (lv_at hl 3 rfl) ?_
    refine lv_topi (fun w1 ew1 => ?_)
    by_cases n2 : w1 = 0
    · have h := if_t (ew1.symm.trans n2) h
      subst n2
      refine lv_tableIn (off := 29) (tgt := 92) hx hb d_M_fact_63 (by decide) (by decide) (by decide) (by decide) ?_
      refine lv_aload_n hx hb d_M_fact_92 rfl (lv_at hl 1 rfl) ?_
      refine g_M_27 hx hb hts hown hK hP hwf hj0 (hts _ u_1768) d_M_fact_93 ?_
      obtain ⟨j3, e4, h⟩ := bd_ob h
      have hj3 : j3 < N 13 := (hwf.2.1 1 j0 27 _ e4 (by decide) hj0)
      refine me_opt (j := j3) e4 ?_
      refine lv_iload_n hx hb d_M_fact_96 rfl (lv_at hl 2 rfl) ?_
      obtain ⟨g5, h⟩ := gd_ob h
      refine me_iald hx hb hK hP hwf hj3 g5 d_M_fact_97 ?_
      refine lv_i2l (v := (mI M 13 j3 x1.toNatClampNeg).toInt64) hx hb d_M_fact_98 rfl ?_
      exact me_retl (me_kp M0) h hx hb hr hlocks hwf hkp hP hK hD hS d_M_fact_99
    have h := if_f (fun z => n2 (ew1.trans z)) h
    by_cases n6 : w1 = 1
    · have h := if_t (ew1.symm.trans n6) h
      subst n6
      refine lv_tableIn (off := 37) (tgt := 100) hx hb d_M_fact_63 (by decide) (by decide) (by decide) (by decide) ?_
      refine lv_aload_n hx hb d_M_fact_100 rfl (lv_at hl 1 rfl) ?_
      refine g_M_28 hx hb hts hown hK hP hwf hj0 (hts _ u_1769) d_M_fact_101 ?_
      obtain ⟨j7, e8, h⟩ := bd_ob h
      have hj7 : j7 < N 15 := (hwf.2.1 1 j0 28 _ e8 (by decide) hj0)
      refine me_opt (j := j7) e8 ?_
      refine lv_iload_n hx hb d_M_fact_104 rfl (lv_at hl 2 rfl) ?_
      obtain ⟨g9, h⟩ := gd_ob h
      refine me_zald hx hb hK hP hwf hj7 g9 d_M_fact_105 ?_
      have z10 := hwf.2.2.2 15 j7 x1.toNatClampNeg rfl
      refine lv_if_eq (tgt := 113) hx hb d_M_fact_106 (by decide) (fun c11 => ?_) (fun c11 => ?_)
      · have h := if_t c11 h
        refine lv_lconst (v := 0) hx hb d_M_fact_113 (by decide) ?_
        exact me_retl (me_kp M0) h hx hb hr hlocks hwf hkp hP hK hD hS d_M_fact_114
      have h := if_f c11 h
      refine lv_lconst (v := 1) hx hb d_M_fact_109 (by decide) ?_
      refine lv_goto (tgt := 114) hx hb d_M_fact_110 (by decide) ?_
      exact me_retl (me_kp M0) h hx hb hr hlocks hwf hkp hP hK hD hS d_M_fact_114
    have h := if_f (fun z => n6 (ew1.trans z)) h
    by_cases n12 : w1 = 2
    · have h := if_t (ew1.symm.trans n12) h
      subst n12
      refine lv_tableIn (off := 52) (tgt := 115) hx hb d_M_fact_63 (by decide) (by decide) (by decide) (by decide) ?_
      refine lv_aload_n hx hb d_M_fact_115 rfl (lv_at hl 1 rfl) ?_
      refine g_M_29 hx hb hts hown hK hP hwf hj0 (hts _ u_1770) d_M_fact_116 ?_
      obtain ⟨j13, e14, h⟩ := bd_ob h
      have hj13 : j13 < N 15 := (hwf.2.1 1 j0 29 _ e14 (by decide) hj0)
      refine me_opt (j := j13) e14 ?_
      refine lv_iload_n hx hb d_M_fact_119 rfl (lv_at hl 2 rfl) ?_
      obtain ⟨g15, h⟩ := gd_ob h
      refine me_zald hx hb hK hP hwf hj13 g15 d_M_fact_120 ?_
      have z16 := hwf.2.2.2 15 j13 x1.toNatClampNeg rfl
      refine lv_if_eq (tgt := 128) hx hb d_M_fact_121 (by decide) (fun c17 => ?_) (fun c17 => ?_)
      · have h := if_t c17 h
        refine lv_lconst (v := 0) hx hb d_M_fact_128 (by decide) ?_
        exact me_retl (me_kp M0) h hx hb hr hlocks hwf hkp hP hK hD hS d_M_fact_129
      have h := if_f c17 h
      refine lv_lconst (v := 1) hx hb d_M_fact_124 (by decide) ?_
      refine lv_goto (tgt := 129) hx hb d_M_fact_125 (by decide) ?_
      exact me_retl (me_kp M0) h hx hb hr hlocks hwf hkp hP hK hD hS d_M_fact_129
    have h := if_f (fun z => n12 (ew1.trans z)) h
    by_cases n18 : w1 = 3
    · have h := if_t (ew1.symm.trans n18) h
      subst n18
      refine lv_tableIn (off := 67) (tgt := 130) hx hb d_M_fact_63 (by decide) (by decide) (by decide) (by decide) ?_
      refine lv_iload_n hx hb d_M_fact_130 rfl (lv_at hl 0 rfl) ?_
      refine lv_if_eq (tgt := 138) hx hb d_M_fact_131 (by decide) (fun c19 => ?_) (fun c19 => ?_)
      · have h := if_t c19 h
        refine lv_lconst (v := 0) hx hb d_M_fact_138 (by decide) ?_
        exact me_retl (me_kp M0) h hx hb hr hlocks hwf hkp hP hK hD hS d_M_fact_139
      have h := if_f c19 h
      refine lv_lconst (v := 1) hx hb d_M_fact_134 (by decide) ?_
      refine lv_goto (tgt := 139) hx hb d_M_fact_135 (by decide) ?_
      exact me_retl (me_kp M0) h hx hb hr hlocks hwf hkp hP hK hD hS d_M_fact_139
    have h := if_f (fun z => n18 (ew1.trans z)) h
    have in2 := lv_neT n2 (show (0 : Int32).toInt = 0 from rfl)
    have in6 := lv_neT n6 (show (1 : Int32).toInt = 1 from rfl)
    have in12 := lv_neT n12 (show (2 : Int32).toInt = 2 from rfl)
    have in18 := lv_neT n18 (show (3 : Int32).toInt = 3 from rfl)
    refine lv_tableOut (tgt := 140) hx hb d_M_fact_63 (by omega) (by decide) ?_
    refine lv_iload_n hx hb d_M_fact_140 rfl (lv_at hl 0 rfl) ?_
    refine lv_if_eq (tgt := 153) hx hb d_M_fact_141 (by decide) (fun c20 => ?_) (fun c20 => ?_)
    · have h := if_t c20 h
      refine lv_lconst (v := 0) hx hb d_M_fact_153 (by decide) ?_
      exact me_retl (me_kp M0) h hx hb hr hlocks hwf hkp hP hK hD hS d_M_fact_154
    have h := if_f c20 h
    refine lv_aload_n hx hb d_M_fact_144 rfl (lv_at hl 1 rfl) ?_
    refine g_M_31 hx hb hts hown hK hP hwf hj0 (hts _ u_1772) d_M_fact_145 ?_
    obtain ⟨j21, e22, h⟩ := bd_ob h
    have hj21 : j21 < N 16 := (hwf.2.1 1 j0 31 _ e22 (by decide) hj0)
    refine me_opt (j := j21) e22 ?_
    refine lv_iload_n hx hb d_M_fact_148 rfl (lv_at hl 2 rfl) ?_
    obtain ⟨g23, h⟩ := gd_ob h
    refine me_lald hx hb hK hP hwf hj21 g23 d_M_fact_149 ?_
    refine lv_goto (tgt := 154) hx hb d_M_fact_150 (by decide) ?_
    exact me_retl (me_kp M0) h hx hb hr hlocks hwf hkp hP hK hD hS d_M_fact_154
  have b_34 : ∀ (M : me_M) (s0 : Int32) (s1 : Nat) (H : Heap) (locs : List Loc) (ls : Array Slot), f_M_fact_b34 j0 x1 x2 M s0 s1 = (some (MZ, RZ)) → (s0 = 1 ∨ s0 = 0) → (s1 < N 1) → me_wf N M → me_kp M0 M → va_P D classes (me_W ad ca M) H → va_D A (me_W ad ca M) → va_S A s.heap H locs → lv_has ls 4 [(0, .ref (ad 1 j0)), (1, .int x1), (2, .int x2)] → W p l e rm_M_fact s m [.ref (ad 1 j0), .int x1, .int x2].toArray below meth c H locs 0 0 (MQ below (q_M_fact D ad ca N M0 MZ RZ A) [.ref (ad 1 j0), .int x1, .int x2].toArray s rm_M_fact.cells rm_M_fact.slots A) (F0 m 34 ls [.int s0, .ref (ad 1 s1)]) := by
    intro M s0 s1 H locs ls h zs0 hs1 hwf hkp hP hD hS hl
    unfold f_M_fact_b34 at h
    have hkb := hkp
    obtain ⟨M24, eM24, h⟩ := st_ob h
    refine p_M_0 eM24 hx hb hts hown hK hP hD hwf hS hs1 (hts _ u_1741) d_M_fact_34 (fun H locs hP hD hwf hS => ?_)
    have hkp := kp_I eM24 hkp
    refine lv_aload_n hx hb d_M_fact_37 rfl (lv_at hl 0 rfl) ?_
    refine g_M_0 hx hb hts hown hK hP hwf hj0 (hts _ u_1741) d_M_fact_38 ?_
    refine lv_if_le (tgt := 46) hx hb d_M_fact_41 (by decide) (fun c25 => ?_) (fun c25 => ?_)
    · have h := if_t c25 h
      refine lv_aload_n hx hb d_M_fact_46 rfl (lv_at hl 0 rfl) ?_
      refine g_M_30 hx hb hts hown hK hP hwf hj0 (hts _ u_1771) d_M_fact_47 ?_
      obtain ⟨j26, e27, h⟩ := bd_ob h
      have hj26 : j26 < N 13 := (hwf.2.1 1 j0 30 _ (kp_r hkb hkp e27) (by decide) hj0)
      refine me_opt (j := j26) (kp_r hkb hkp e27) ?_
      refine lv_iload_n hx hb d_M_fact_50 rfl (lv_at hl 1 rfl) ?_
      obtain ⟨g28, h⟩ := gd_ob h
      refine me_iald hx hb hK hP hwf hj26 (kp_z hkb.z hkp.z g28) d_M_fact_51 ?_
      refine lv_iconst (v := 1) hx hb d_M_fact_52 (by decide) ?_
      refine lv_icmp_ne (tgt := 60) hx hb d_M_fact_53 (by decide) (fun c29 => ?_) (fun c29 => ?_)
      · have h := if_f c29 h
        refine lv_iconst (v := 0) hx hb d_M_fact_60 (by decide) ?_
        exact b_61 M24 (0 : Int32) _ _ _ h (by decide) hwf hkp hP hD hS (lv_sub hl [0, 1, 2] rfl)
      have h := if_t c29 h
      refine lv_iconst (v := 1) hx hb d_M_fact_56 (by decide) ?_
      refine lv_goto (tgt := 61) hx hb d_M_fact_57 (by decide) ?_
      exact b_61 M24 (1 : Int32) _ _ _ h (by decide) hwf hkp hP hD hS (lv_sub hl [0, 1, 2] rfl)
    have h := if_f c25 h
    refine lv_lconst (v := 0) hx hb d_M_fact_44 (by decide) ?_
    exact me_retl (me_kp M0) h hx hb hr hlocks hwf hkp hP hK hD hS d_M_fact_45
  have b_33 : ∀ (M : me_M) (s0 : Nat) (H : Heap) (locs : List Loc) (ls : Array Slot), f_M_fact_b33 j0 x1 x2 M s0 = (some (MZ, RZ)) → (s0 < N 1) → me_wf N M → me_kp M0 M → va_P D classes (me_W ad ca M) H → va_D A (me_W ad ca M) → va_S A s.heap H locs → lv_has ls 4 [(0, .ref (ad 1 j0)), (1, .int x1), (2, .int x2)] → W p l e rm_M_fact s m [.ref (ad 1 j0), .int x1, .int x2].toArray below meth c H locs 0 0 (MQ below (q_M_fact D ad ca N M0 MZ RZ A) [.ref (ad 1 j0), .int x1, .int x2].toArray s rm_M_fact.cells rm_M_fact.slots A) (F0 m 33 ls [.ref (ad 1 s0)]) := by
    intro M s0 H locs ls h hs0 hwf hkp hP hD hS hl
    unfold f_M_fact_b33 at h
    have hkb := hkp
    refine lv_iconst (v := 1) hx hb d_M_fact_33 (by decide) ?_
    exact b_34 M (1 : Int32) s0 _ _ _ h (by decide) hs0 hwf hkp hP hD hS (lv_sub hl [0, 1, 2] rfl)
  refine lv_aload_n hx hb d_M_fact_0 rfl (lv_at hl 0 rfl) ?_
  refine lv_aload_n hx hb d_M_fact_1 rfl (lv_at hl 0 rfl) ?_
  refine g_M_18 hx hb hts hown hK hP hwf hj0 (hts _ u_1759) d_M_fact_2 ?_
  have z30 := (hwf.2.2.2 1 j0 18 rfl)
  refine lv_if_eq (tgt := 33) hx hb d_M_fact_5 (by decide) (fun c31 => ?_) (fun c31 => ?_)
  · have h := if_t c31 h
    exact b_33 M0 j0 _ _ _ h hj0 hwf hkp hP hD hS (lv_sub hl [0, 1, 2] rfl)
  have h := if_f c31 h
  refine lv_iload_n hx hb d_M_fact_8 rfl (lv_at hl 1 rfl) ?_
  refine lv_if_lt (tgt := 33) hx hb d_M_fact_9 (by decide) (fun c32 => ?_) (fun c32 => ?_)
  · have h := if_t c32 h
    exact b_33 M0 j0 _ _ _ h hj0 hwf hkp hP hD hS (lv_sub hl [0, 1, 2] rfl)
  have h := if_f c32 h
  refine lv_iload_n hx hb d_M_fact_12 rfl (lv_at hl 1 rfl) ?_
  refine lv_aload_n hx hb d_M_fact_13 rfl (lv_at hl 0 rfl) ?_
  refine g_M_12 hx hb hts hown hK hP hwf hj0 (hts _ u_1753) d_M_fact_14 ?_
  refine lv_icmp_ge (tgt := 33) hx hb d_M_fact_17 (by decide) (fun c33 => ?_) (fun c33 => ?_)
  · have h := if_t c33 h
    exact b_33 M0 j0 _ _ _ h hj0 hwf hkp hP hD hS (lv_sub hl [0, 1, 2] rfl)
  have h := if_f c33 h
  refine lv_iload_n hx hb d_M_fact_20 rfl (lv_at hl 2 rfl) ?_
  refine lv_if_lt (tgt := 33) hx hb d_M_fact_21 (by decide) (fun c34 => ?_) (fun c34 => ?_)
  · have h := if_t c34 h
    exact b_33 M0 j0 _ _ _ h hj0 hwf hkp hP hD hS (lv_sub hl [0, 1, 2] rfl)
  have h := if_f c34 h
  refine lv_iload_n hx hb d_M_fact_24 rfl (lv_at hl 2 rfl) ?_
  refine lv_iconst (v := 5) hx hb d_M_fact_25 (by decide) ?_
  refine lv_icmp_ge (tgt := 33) hx hb d_M_fact_26 (by decide) (fun c35 => ?_) (fun c35 => ?_)
  · have h := if_t c35 h
    exact b_33 M0 j0 _ _ _ h hj0 hwf hkp hP hD hS (lv_sub hl [0, 1, 2] rfl)
  have h := if_f c35 h
  refine lv_iconst (v := 0) hx hb d_M_fact_29 (by decide) ?_
  refine lv_goto (tgt := 34) hx hb d_M_fact_30 (by decide) ?_
  exact b_34 M0 (0 : Int32) j0 _ _ _ h (by decide) hj0 hwf hkp hP hD hS (lv_sub hl [0, 1, 2] rfl)
theorem d_M_code_36 : decode prog_14_method_113_code 36 = .ok (.putfield 152, 3) := by decide +kernel
theorem d_M_code_39 : decode prog_14_method_113_code 39 = .ok (.aload_n 0, 1) := by decide +kernel
theorem d_M_code_40 : decode prog_14_method_113_code 40 = .ok (.getfield 152, 3) := by decide +kernel
theorem d_M_code_43 : decode prog_14_method_113_code 43 = .ok (.ifCond .le 7, 3) := by decide +kernel
theorem d_M_code_50 : decode prog_14_method_113_code 50 = .ok (.iload_n 2, 1) := by decide +kernel
theorem d_M_code_51 : decode prog_14_method_113_code 51 = .ok (.ifCond .eq 12, 3) := by decide +kernel
theorem d_M_code_63 : decode prog_14_method_113_code 63 = .ok (.aload_n 0, 1) := by decide +kernel
theorem d_M_code_64 : decode prog_14_method_113_code 64 = .ok (.getfield 41, 3) := by decide +kernel
theorem d_M_code_67 : decode prog_14_method_113_code 67 = .ok (.iload_n 1, 1) := by decide +kernel
theorem d_M_code_68 : decode prog_14_method_113_code 68 = .ok (.laload, 1) := by decide +kernel
theorem d_M_code_69 : decode prog_14_method_113_code 69 = .ok (.lreturn, 1) := by decide +kernel
theorem d_M_code_54 : decode prog_14_method_113_code 54 = .ok (.aload_n 0, 1) := by decide +kernel
theorem d_M_code_55 : decode prog_14_method_113_code 55 = .ok (.getfield 44, 3) := by decide +kernel
theorem d_M_code_58 : decode prog_14_method_113_code 58 = .ok (.iload_n 1, 1) := by decide +kernel
theorem d_M_code_59 : decode prog_14_method_113_code 59 = .ok (.laload, 1) := by decide +kernel
theorem d_M_code_60 : decode prog_14_method_113_code 60 = .ok (.goto 9, 3) := by decide +kernel
theorem d_M_code_46 : decode prog_14_method_113_code 46 = .ok (.lconst 0, 1) := by decide +kernel
theorem d_M_code_47 : decode prog_14_method_113_code 47 = .ok (.goto 22, 3) := by decide +kernel
theorem d_M_code_35 : decode prog_14_method_113_code 35 = .ok (.iconst 1, 1) := by decide +kernel
theorem d_M_code_28 : decode prog_14_method_113_code 28 = .ok (.if_icmp .ge 7, 3) := by decide +kernel
theorem d_M_code_31 : decode prog_14_method_113_code 31 = .ok (.iconst 0, 1) := by decide +kernel
theorem d_M_code_32 : decode prog_14_method_113_code 32 = .ok (.goto 4, 3) := by decide +kernel
theorem d_M_code_0 : decode prog_14_method_113_code 0 = .ok (.aload_n 0, 1) := by decide +kernel
theorem d_M_code_1 : decode prog_14_method_113_code 1 = .ok (.aload_n 0, 1) := by decide +kernel
theorem d_M_code_2 : decode prog_14_method_113_code 2 = .ok (.getfield 575, 3) := by decide +kernel
theorem g_M_19 {p : Program} {l : Launch} {e : Env} {R : Room} {s : Jvm.State} {m : MethodId} {args : Array Value} {below : List Frame} {meth : Method} {c : Code} {H : Heap} {locs : List Loc} {cells slots : Nat} {Q : Jvm.State → Prop} {cc : ByteArray} {pc : Nat} {ls : Array Slot} {rest : List Value} {D : va_G} {ad : Nat → Nat → Nat} {ca : Nat → ClassId} {M : me_M} {N : Nat → Nat} {own : String} {index j : Nat} (hexec : p.tables.exec = Jvm.exec) (hb : c.code = cc) (hts : ∀ w ∈ fg_g, w.before args s = true) (hown : s.vm.findClass own = some m.cls) (hK : va_K D classes (me_T ca) s) (hP : va_P D classes (me_W ad ca M) H) (hwf : me_wf N M) (hj : j < N 1) (hlink : (Cond.fieldLink own index "FilterGuardModel" "hasProgram" "Z").before args s = true) (hdg : decode cc pc = .ok (.getfield index, 3)) (kk : W p l e R s m args below meth c H locs cells slots Q (F0 m (pc + 3) ls (.int (mI M 1 j 19) :: rest))) : W p l e R s m args below meth c H locs cells slots Q (F0 m pc ls (.ref (ad 1 j) :: rest)) := me_get (k := 1) (f := 19) (C := "FilterGuardModel") (T := F_M) (Nf := 75) hexec hb hts i_M hown hK hP hwf hj (by decide) rfl (by decide) (by decide) hlink (fun _ h9 => h9) hdg kk
theorem d_M_code_5 : decode prog_14_method_113_code 5 = .ok (.ifCond .eq 30, 3) := by decide +kernel
theorem d_M_code_8 : decode prog_14_method_113_code 8 = .ok (.iload_n 1, 1) := by decide +kernel
theorem d_M_code_9 : decode prog_14_method_113_code 9 = .ok (.ifCond .lt 26, 3) := by decide +kernel
theorem d_M_code_12 : decode prog_14_method_113_code 12 = .ok (.iload_n 1, 1) := by decide +kernel
theorem d_M_code_13 : decode prog_14_method_113_code 13 = .ok (.iload_n 2, 1) := by decide +kernel
theorem d_M_code_14 : decode prog_14_method_113_code 14 = .ok (.ifCond .eq 10, 3) := by decide +kernel
theorem d_M_code_24 : decode prog_14_method_113_code 24 = .ok (.aload_n 0, 1) := by decide +kernel
theorem d_M_code_25 : decode prog_14_method_113_code 25 = .ok (.getfield 593, 3) := by decide +kernel
theorem g_M_14 {p : Program} {l : Launch} {e : Env} {R : Room} {s : Jvm.State} {m : MethodId} {args : Array Value} {below : List Frame} {meth : Method} {c : Code} {H : Heap} {locs : List Loc} {cells slots : Nat} {Q : Jvm.State → Prop} {cc : ByteArray} {pc : Nat} {ls : Array Slot} {rest : List Value} {D : va_G} {ad : Nat → Nat → Nat} {ca : Nat → ClassId} {M : me_M} {N : Nat → Nat} {own : String} {index j : Nat} (hexec : p.tables.exec = Jvm.exec) (hb : c.code = cc) (hts : ∀ w ∈ fg_g, w.before args s = true) (hown : s.vm.findClass own = some m.cls) (hK : va_K D classes (me_T ca) s) (hP : va_P D classes (me_W ad ca M) H) (hwf : me_wf N M) (hj : j < N 1) (hlink : (Cond.fieldLink own index "FilterGuardModel" "programSlots" "I").before args s = true) (hdg : decode cc pc = .ok (.getfield index, 3)) (kk : W p l e R s m args below meth c H locs cells slots Q (F0 m (pc + 3) ls (.int (mI M 1 j 14) :: rest))) : W p l e R s m args below meth c H locs cells slots Q (F0 m pc ls (.ref (ad 1 j) :: rest)) := me_get (k := 1) (f := 14) (C := "FilterGuardModel") (T := F_M) (Nf := 75) hexec hb hts i_M hown hK hP hwf hj (by decide) rfl (by decide) (by decide) hlink (fun _ h9 => h9) hdg kk
theorem d_M_code_17 : decode prog_14_method_113_code 17 = .ok (.aload_n 0, 1) := by decide +kernel
theorem d_M_code_18 : decode prog_14_method_113_code 18 = .ok (.getfield 607, 3) := by decide +kernel
theorem d_M_code_21 : decode prog_14_method_113_code 21 = .ok (.goto 7, 3) := by decide +kernel
abbrev y_M_code : MethodName := ⟨"FilterGuardModel", "code", "(IZ)J"⟩
def rm_M_code : Room := { frames := 1, cells := 0, slots := 0, locals := 20 }
abbrev q_M_code (D : va_G) (ad : Nat → Nat → Nat) (ca : Nat → ClassId) (N : Nat → Nat) (M0 MZ : me_M) (RZ : Int64) (A : Nat → Prop) : Array Value → Jvm.State → Outcome → Jvm.State → Prop := va_Ql (fun r (_ : Unit) => r = RZ ∧ me_wf N MZ ∧ me_kp M0 MZ) (fg_B D A (fun _ => me_W ad ca MZ) (fun _ => [])) A
set_option maxHeartbeats 4000000 in
set_option maxRecDepth 100000 in
theorem c_M_code (l : Launch) (D : va_G) (ad : Nat → Nat → Nat) (ca : Nat → ClassId) (N : Nat → Nat) (M0 MZ : me_M) (RZ : Int64) (j0 : Nat) (x1 : Int32) (x2 : Int32) (h : f_M_code M0 j0 x1 x2 = (some (MZ, RZ))) (hwf : me_wf N M0) (hj0 : j0 < N 1) (zx2 : x2 = 1 ∨ x2 = 0) (sz : Nat) : Met l y_M_code (fg_w y_M_code prog_14_method_113_code 3 (some .long)) rm_M_code (va_Pc [.ref (ad 1 j0), .int x1, .int x2] (fz_P D (me_T ca) (me_W ad ca M0) sz)) (q_M_code D ad ca N M0 MZ RZ (va_A (me_W ad ca M0) sz)) rm_M_code.cells rm_M_code.slots (va_A (me_W ad ca M0) sz) := by
  refine fz_enter (fun A => q_M_code D ad ca N M0 MZ RZ A) (by decide +kernel) (Nat.le_of_ble_eq_true rfl) ?_
  intro p e s m below meth c ls A hx hb hml hown hts hr hlocks hin hP hK hD hS hA hX hl hz
  have hl : lv_has ls 3 [(0, .ref (ad 1 j0)), (1, .int x1), (2, .int x2)] := hl
  unfold f_M_code at h
  have hkp : me_kp M0 M0 := me_kp.rf
  have hkb := hkp
  have b_36 : ∀ (M : me_M) (s0 : Int32) (s1 : Nat) (H : Heap) (locs : List Loc) (ls : Array Slot), f_M_code_b36 j0 x1 x2 M s0 s1 = (some (MZ, RZ)) → (s0 = 1 ∨ s0 = 0) → (s1 < N 1) → me_wf N M → me_kp M0 M → va_P D classes (me_W ad ca M) H → va_D A (me_W ad ca M) → va_S A s.heap H locs → lv_has ls 3 [(0, .ref (ad 1 j0)), (1, .int x1), (2, .int x2)] → W p l e rm_M_code s m [.ref (ad 1 j0), .int x1, .int x2].toArray below meth c H locs 0 0 (MQ below (q_M_code D ad ca N M0 MZ RZ A) [.ref (ad 1 j0), .int x1, .int x2].toArray s rm_M_code.cells rm_M_code.slots A) (F0 m 36 ls [.int s0, .ref (ad 1 s1)]) := by
    intro M s0 s1 H locs ls h zs0 hs1 hwf hkp hP hD hS hl
    unfold f_M_code_b36 at h
    have hkb := hkp
    obtain ⟨M1, eM1, h⟩ := st_ob h
    refine p_M_0 eM1 hx hb hts hown hK hP hD hwf hS hs1 (hts _ u_1741) d_M_code_36 (fun H locs hP hD hwf hS => ?_)
    have hkp := kp_I eM1 hkp
    refine lv_aload_n hx hb d_M_code_39 rfl (lv_at hl 0 rfl) ?_
    refine g_M_0 hx hb hts hown hK hP hwf hj0 (hts _ u_1741) d_M_code_40 ?_
    refine lv_if_le (tgt := 50) hx hb d_M_code_43 (by decide) (fun c2 => ?_) (fun c2 => ?_)
    · have h := if_t c2 h
      refine lv_iload_n hx hb d_M_code_50 rfl (lv_at hl 2 rfl) ?_
      refine lv_if_eq (tgt := 63) hx hb d_M_code_51 (by decide) (fun c3 => ?_) (fun c3 => ?_)
      · have h := if_t c3 h
        refine lv_aload_n hx hb d_M_code_63 rfl (lv_at hl 0 rfl) ?_
        refine g_M_16 hx hb hts hown hK hP hwf hj0 (hts _ u_1757) d_M_code_64 ?_
        obtain ⟨j4, e5, h⟩ := bd_ob h
        have hj4 : j4 < N 16 := (hwf.2.1 1 j0 16 _ (kp_r hkb hkp e5) (by decide) hj0)
        refine me_opt (j := j4) (kp_r hkb hkp e5) ?_
        refine lv_iload_n hx hb d_M_code_67 rfl (lv_at hl 1 rfl) ?_
        obtain ⟨g6, h⟩ := gd_ob h
        refine me_lald hx hb hK hP hwf hj4 (kp_z hkb.z hkp.z g6) d_M_code_68 ?_
        exact me_retl (me_kp M0) h hx hb hr hlocks hwf hkp hP hK hD hS d_M_code_69
      have h := if_f c3 h
      refine lv_aload_n hx hb d_M_code_54 rfl (lv_at hl 0 rfl) ?_
      refine g_M_17 hx hb hts hown hK hP hwf hj0 (hts _ u_1758) d_M_code_55 ?_
      obtain ⟨j7, e8, h⟩ := bd_ob h
      have hj7 : j7 < N 16 := (hwf.2.1 1 j0 17 _ (kp_r hkb hkp e8) (by decide) hj0)
      refine me_opt (j := j7) (kp_r hkb hkp e8) ?_
      refine lv_iload_n hx hb d_M_code_58 rfl (lv_at hl 1 rfl) ?_
      obtain ⟨g9, h⟩ := gd_ob h
      refine me_lald hx hb hK hP hwf hj7 (kp_z hkb.z hkp.z g9) d_M_code_59 ?_
      refine lv_goto (tgt := 69) hx hb d_M_code_60 (by decide) ?_
      exact me_retl (me_kp M0) h hx hb hr hlocks hwf hkp hP hK hD hS d_M_code_69
    have h := if_f c2 h
    refine lv_lconst (v := 0) hx hb d_M_code_46 (by decide) ?_
    refine lv_goto (tgt := 69) hx hb d_M_code_47 (by decide) ?_
    exact me_retl (me_kp M0) h hx hb hr hlocks hwf hkp hP hK hD hS d_M_code_69
  have b_35 : ∀ (M : me_M) (s0 : Nat) (H : Heap) (locs : List Loc) (ls : Array Slot), f_M_code_b35 j0 x1 x2 M s0 = (some (MZ, RZ)) → (s0 < N 1) → me_wf N M → me_kp M0 M → va_P D classes (me_W ad ca M) H → va_D A (me_W ad ca M) → va_S A s.heap H locs → lv_has ls 3 [(0, .ref (ad 1 j0)), (1, .int x1), (2, .int x2)] → W p l e rm_M_code s m [.ref (ad 1 j0), .int x1, .int x2].toArray below meth c H locs 0 0 (MQ below (q_M_code D ad ca N M0 MZ RZ A) [.ref (ad 1 j0), .int x1, .int x2].toArray s rm_M_code.cells rm_M_code.slots A) (F0 m 35 ls [.ref (ad 1 s0)]) := by
    intro M s0 H locs ls h hs0 hwf hkp hP hD hS hl
    unfold f_M_code_b35 at h
    have hkb := hkp
    refine lv_iconst (v := 1) hx hb d_M_code_35 (by decide) ?_
    exact b_36 M (1 : Int32) s0 _ _ _ h (by decide) hs0 hwf hkp hP hD hS (lv_sub hl [0, 1, 2] rfl)
  have b_28 : ∀ (M : me_M) (s0 : Int32) (s1 : Int32) (s2 : Nat) (H : Heap) (locs : List Loc) (ls : Array Slot), f_M_code_b28 j0 x1 x2 M s0 s1 s2 = (some (MZ, RZ)) → (s2 < N 1) → me_wf N M → me_kp M0 M → va_P D classes (me_W ad ca M) H → va_D A (me_W ad ca M) → va_S A s.heap H locs → lv_has ls 3 [(0, .ref (ad 1 j0)), (1, .int x1), (2, .int x2)] → W p l e rm_M_code s m [.ref (ad 1 j0), .int x1, .int x2].toArray below meth c H locs 0 0 (MQ below (q_M_code D ad ca N M0 MZ RZ A) [.ref (ad 1 j0), .int x1, .int x2].toArray s rm_M_code.cells rm_M_code.slots A) (F0 m 28 ls [.int s0, .int s1, .ref (ad 1 s2)]) := by
    intro M s0 s1 s2 H locs ls h hs2 hwf hkp hP hD hS hl
    unfold f_M_code_b28 at h
    have hkb := hkp
    refine lv_icmp_ge (tgt := 35) hx hb d_M_code_28 (by decide) (fun c10 => ?_) (fun c10 => ?_)
    · have h := if_t c10 h
      exact b_35 M s2 _ _ _ h hs2 hwf hkp hP hD hS (lv_sub hl [0, 1, 2] rfl)
    have h := if_f c10 h
    refine lv_iconst (v := 0) hx hb d_M_code_31 (by decide) ?_
    refine lv_goto (tgt := 36) hx hb d_M_code_32 (by decide) ?_
    exact b_36 M (0 : Int32) s2 _ _ _ h (by decide) hs2 hwf hkp hP hD hS (lv_sub hl [0, 1, 2] rfl)
  refine lv_aload_n hx hb d_M_code_0 rfl (lv_at hl 0 rfl) ?_
  refine lv_aload_n hx hb d_M_code_1 rfl (lv_at hl 0 rfl) ?_
  refine g_M_19 hx hb hts hown hK hP hwf hj0 (hts _ u_1760) d_M_code_2 ?_
  have z11 := (hwf.2.2.2 1 j0 19 rfl)
  refine lv_if_eq (tgt := 35) hx hb d_M_code_5 (by decide) (fun c12 => ?_) (fun c12 => ?_)
  · have h := if_t c12 h
    exact b_35 M0 j0 _ _ _ h hj0 hwf hkp hP hD hS (lv_sub hl [0, 1, 2] rfl)
  have h := if_f c12 h
  refine lv_iload_n hx hb d_M_code_8 rfl (lv_at hl 1 rfl) ?_
  refine lv_if_lt (tgt := 35) hx hb d_M_code_9 (by decide) (fun c13 => ?_) (fun c13 => ?_)
  · have h := if_t c13 h
    exact b_35 M0 j0 _ _ _ h hj0 hwf hkp hP hD hS (lv_sub hl [0, 1, 2] rfl)
  have h := if_f c13 h
  refine lv_iload_n hx hb d_M_code_12 rfl (lv_at hl 1 rfl) ?_
  refine lv_iload_n hx hb d_M_code_13 rfl (lv_at hl 2 rfl) ?_
  refine lv_if_eq (tgt := 24) hx hb d_M_code_14 (by decide) (fun c14 => ?_) (fun c14 => ?_)
  · have h := if_t c14 h
    refine lv_aload_n hx hb d_M_code_24 rfl (lv_at hl 0 rfl) ?_
    refine g_M_14 hx hb hts hown hK hP hwf hj0 (hts _ u_1755) d_M_code_25 ?_
    exact b_28 M0 (mI M0 1 j0 14) x1 j0 _ _ _ h hj0 hwf hkp hP hD hS (lv_sub hl [0, 1, 2] rfl)
  have h := if_f c14 h
  refine lv_aload_n hx hb d_M_code_17 rfl (lv_at hl 0 rfl) ?_
  refine g_M_15 hx hb hts hown hK hP hwf hj0 (hts _ u_1756) d_M_code_18 ?_
  refine lv_goto (tgt := 28) hx hb d_M_code_21 (by decide) ?_
  exact b_28 M0 (mI M0 1 j0 15) x1 j0 _ _ _ h hj0 hwf hkp hP hD hS (lv_sub hl [0, 1, 2] rfl)
theorem d_M_feed_75 : decode prog_14_method_114_code 75 = .ok (.istore 7, 2) := by decide +kernel
theorem d_M_feed_77 : decode prog_14_method_114_code 77 = .ok (.aload_n 0, 1) := by decide +kernel
theorem d_M_feed_78 : decode prog_14_method_114_code 78 = .ok (.getfield 10, 3) := by decide +kernel
theorem d_M_feed_81 : decode prog_14_method_114_code 81 = .ok (.aload_n 0, 1) := by decide +kernel
theorem d_M_feed_82 : decode prog_14_method_114_code 82 = .ok (.getfield 566, 3) := by decide +kernel
theorem d_M_feed_85 : decode prog_14_method_114_code 85 = .ok (.iload 6, 2) := by decide +kernel
theorem d_M_feed_87 : decode prog_14_method_114_code 87 = .ok (.iadd, 1) := by decide +kernel
theorem d_M_feed_88 : decode prog_14_method_114_code 88 = .ok (.iload 7, 2) := by decide +kernel
theorem d_M_feed_90 : decode prog_14_method_114_code 90 = .ok (.bipush 24, 2) := by decide +kernel
theorem d_M_feed_92 : decode prog_14_method_114_code 92 = .ok (.bipush 8, 2) := by decide +kernel
theorem d_M_feed_94 : decode prog_14_method_114_code 94 = .ok (.iload 6, 2) := by decide +kernel
theorem d_M_feed_96 : decode prog_14_method_114_code 96 = .ok (.iconst 4, 1) := by decide +kernel
theorem d_M_feed_97 : decode prog_14_method_114_code 97 = .ok (.irem, 1) := by decide +kernel
theorem d_M_feed_98 : decode prog_14_method_114_code 98 = .ok (.imul, 1) := by decide +kernel
theorem d_M_feed_99 : decode prog_14_method_114_code 99 = .ok (.isub, 1) := by decide +kernel
theorem d_M_feed_100 : decode prog_14_method_114_code 100 = .ok (.ishr, 1) := by decide +kernel
theorem d_M_feed_101 : decode prog_14_method_114_code 101 = .ok (.i2b, 1) := by decide +kernel
theorem d_M_feed_102 : decode prog_14_method_114_code 102 = .ok (.bastore, 1) := by decide +kernel
theorem d_M_feed_103 : decode prog_14_method_114_code 103 = .ok (.iinc 6 1, 3) := by decide +kernel
theorem d_M_feed_106 : decode prog_14_method_114_code 106 = .ok (.goto (-84), 3) := by decide +kernel
theorem d_M_feed_22 : decode prog_14_method_114_code 22 = .ok (.iload 6, 2) := by decide +kernel
theorem d_M_feed_24 : decode prog_14_method_114_code 24 = .ok (.bipush 20, 2) := by decide +kernel
theorem d_M_feed_26 : decode prog_14_method_114_code 26 = .ok (.if_icmp .ge 83, 3) := by decide +kernel
theorem d_M_feed_109 : decode prog_14_method_114_code 109 = .ok (.aload_n 0, 1) := by decide +kernel
theorem d_M_feed_110 : decode prog_14_method_114_code 110 = .ok (.dup, 1) := by decide +kernel
theorem d_M_feed_111 : decode prog_14_method_114_code 111 = .ok (.getfield 566, 3) := by decide +kernel
theorem d_M_feed_114 : decode prog_14_method_114_code 114 = .ok (.bipush 20, 2) := by decide +kernel
theorem d_M_feed_116 : decode prog_14_method_114_code 116 = .ok (.iadd, 1) := by decide +kernel
theorem d_M_feed_117 : decode prog_14_method_114_code 117 = .ok (.putfield 566, 3) := by decide +kernel
theorem d_M_feed_120 : decode prog_14_method_114_code 120 = .ok (.iconst 1, 1) := by decide +kernel
theorem d_M_feed_121 : decode prog_14_method_114_code 121 = .ok (.ireturn, 1) := by decide +kernel
theorem d_M_feed_29 : decode prog_14_method_114_code 29 = .ok (.iload 6, 2) := by decide +kernel
theorem d_M_feed_31 : decode prog_14_method_114_code 31 = .ok (.iconst 4, 1) := by decide +kernel
theorem d_M_feed_32 : decode prog_14_method_114_code 32 = .ok (.if_icmp .ge 7, 3) := by decide +kernel
theorem d_M_feed_39 : decode prog_14_method_114_code 39 = .ok (.iload 6, 2) := by decide +kernel
theorem d_M_feed_41 : decode prog_14_method_114_code 41 = .ok (.bipush 8, 2) := by decide +kernel
theorem d_M_feed_43 : decode prog_14_method_114_code 43 = .ok (.if_icmp .ge 7, 3) := by decide +kernel
theorem d_M_feed_50 : decode prog_14_method_114_code 50 = .ok (.iload 6, 2) := by decide +kernel
theorem d_M_feed_52 : decode prog_14_method_114_code 52 = .ok (.bipush 12, 2) := by decide +kernel
theorem d_M_feed_54 : decode prog_14_method_114_code 54 = .ok (.if_icmp .ge 7, 3) := by decide +kernel
theorem d_M_feed_61 : decode prog_14_method_114_code 61 = .ok (.iload 6, 2) := by decide +kernel
theorem d_M_feed_63 : decode prog_14_method_114_code 63 = .ok (.bipush 16, 2) := by decide +kernel
theorem d_M_feed_65 : decode prog_14_method_114_code 65 = .ok (.if_icmp .ge 8, 3) := by decide +kernel
theorem d_M_feed_73 : decode prog_14_method_114_code 73 = .ok (.iload 5, 2) := by decide +kernel
theorem d_M_feed_68 : decode prog_14_method_114_code 68 = .ok (.iload 4, 2) := by decide +kernel
theorem d_M_feed_70 : decode prog_14_method_114_code 70 = .ok (.goto 5, 3) := by decide +kernel
theorem d_M_feed_57 : decode prog_14_method_114_code 57 = .ok (.iload_n 3, 1) := by decide +kernel
theorem d_M_feed_58 : decode prog_14_method_114_code 58 = .ok (.goto 17, 3) := by decide +kernel
theorem d_M_feed_46 : decode prog_14_method_114_code 46 = .ok (.iload_n 2, 1) := by decide +kernel
theorem d_M_feed_47 : decode prog_14_method_114_code 47 = .ok (.goto 28, 3) := by decide +kernel
theorem d_M_feed_35 : decode prog_14_method_114_code 35 = .ok (.iload_n 1, 1) := by decide +kernel
theorem d_M_feed_36 : decode prog_14_method_114_code 36 = .ok (.goto 39, 3) := by decide +kernel
theorem d_M_feed_0 : decode prog_14_method_114_code 0 = .ok (.aload_n 0, 1) := by decide +kernel
theorem d_M_feed_1 : decode prog_14_method_114_code 1 = .ok (.iconst 0, 1) := by decide +kernel
theorem d_M_feed_2 : decode prog_14_method_114_code 2 = .ok (.putfield 152, 3) := by decide +kernel
theorem d_M_feed_5 : decode prog_14_method_114_code 5 = .ok (.aload_n 0, 1) := by decide +kernel
theorem d_M_feed_6 : decode prog_14_method_114_code 6 = .ok (.getfield 566, 3) := by decide +kernel
theorem d_M_feed_9 : decode prog_14_method_114_code 9 = .ok (.bipush 20, 2) := by decide +kernel
theorem d_M_feed_11 : decode prog_14_method_114_code 11 = .ok (.iadd, 1) := by decide +kernel
theorem d_M_feed_12 : decode prog_14_method_114_code 12 = .ok (.ldc 9, 2) := by decide +kernel
theorem d_M_feed_14 : decode prog_14_method_114_code 14 = .ok (.if_icmp .le 5, 3) := by decide +kernel
theorem d_M_feed_19 : decode prog_14_method_114_code 19 = .ok (.iconst 0, 1) := by decide +kernel
theorem d_M_feed_20 : decode prog_14_method_114_code 20 = .ok (.istore 6, 2) := by decide +kernel
theorem d_M_feed_17 : decode prog_14_method_114_code 17 = .ok (.iconst 0, 1) := by decide +kernel
theorem d_M_feed_18 : decode prog_14_method_114_code 18 = .ok (.ireturn, 1) := by decide +kernel
abbrev y_M_feed : MethodName := ⟨"FilterGuardModel", "feed", "(IIIII)Z"⟩
def rm_M_feed : Room := { frames := 1, cells := 0, slots := 0, locals := 20 }
abbrev q_M_feed (D : va_G) (ad : Nat → Nat → Nat) (ca : Nat → ClassId) (N : Nat → Nat) (M0 MZ : me_M) (RZ : Int32) (A : Nat → Prop) : Array Value → Jvm.State → Outcome → Jvm.State → Prop := va_Qi (fun r (_ : Unit) => r = RZ ∧ me_wf N MZ ∧ me_kp M0 MZ ∧ (RZ = 1 ∨ RZ = 0)) (fg_B D A (fun _ => me_W ad ca MZ) (fun _ => [])) A
set_option maxHeartbeats 4000000 in
set_option maxRecDepth 100000 in
theorem c_M_feed (l : Launch) (D : va_G) (ad : Nat → Nat → Nat) (ca : Nat → ClassId) (N : Nat → Nat) (M0 MZ : me_M) (RZ : Int32) (j0 : Nat) (x1 : Int32) (x2 : Int32) (x3 : Int32) (x4 : Int32) (x5 : Int32) (h : f_M_feed M0 j0 x1 x2 x3 x4 x5 = (some (MZ, RZ))) (hwf : me_wf N M0) (hj0 : j0 < N 1) (sz : Nat) : Met l y_M_feed (fg_w y_M_feed prog_14_method_114_code 8 (some .boolean)) rm_M_feed (va_Pc [.ref (ad 1 j0), .int x1, .int x2, .int x3, .int x4, .int x5] (fz_P D (me_T ca) (me_W ad ca M0) sz)) (q_M_feed D ad ca N M0 MZ RZ (va_A (me_W ad ca M0) sz)) rm_M_feed.cells rm_M_feed.slots (va_A (me_W ad ca M0) sz) := by
  refine fz_enter (fun A => q_M_feed D ad ca N M0 MZ RZ A) (by decide +kernel) (Nat.le_of_ble_eq_true rfl) ?_
  intro p e s m below meth c ls A hx hb hml hown hts hr hlocks hin hP hK hD hS hA hX hl hz
  have hl : lv_has ls 8 [(0, .ref (ad 1 j0)), (1, .int x1), (2, .int x2), (3, .int x3), (4, .int x4), (5, .int x5)] := hl
  unfold f_M_feed at h
  have hkp : me_kp M0 M0 := me_kp.rf
  have hkb := hkp
  have b_75 : ∀ (k22 : me_M → Int32 → Option (me_M × Int32)) (hk22 : ∀ (M : me_M) (y6 : Int32) (H : Heap) (locs : List Loc) (ls : Array Slot), k22 M y6 = (some (MZ, RZ)) → me_wf N M → me_kp M0 M → va_P D classes (me_W ad ca M) H → va_D A (me_W ad ca M) → va_S A s.heap H locs → lv_has ls 8 [(0, .ref (ad 1 j0)), (1, .int x1), (2, .int x2), (3, .int x3), (4, .int x4), (5, .int x5), (6, .int y6)] → W p l e rm_M_feed s m [.ref (ad 1 j0), .int x1, .int x2, .int x3, .int x4, .int x5].toArray below meth c H locs 0 0 (MQ below (q_M_feed D ad ca N M0 MZ RZ A) [.ref (ad 1 j0), .int x1, .int x2, .int x3, .int x4, .int x5].toArray s rm_M_feed.cells rm_M_feed.slots A) (F0 m 22 ls [])), ∀ (M : me_M) (y6 : Int32) (s0 : Int32) (H : Heap) (locs : List Loc) (ls : Array Slot), f_M_feed_b75 k22 j0 x1 x2 x3 x4 x5 M y6 s0 = (some (MZ, RZ)) → me_wf N M → me_kp M0 M → va_P D classes (me_W ad ca M) H → va_D A (me_W ad ca M) → va_S A s.heap H locs → lv_has ls 8 [(0, .ref (ad 1 j0)), (1, .int x1), (2, .int x2), (3, .int x3), (4, .int x4), (5, .int x5), (6, .int y6)] → W p l e rm_M_feed s m [.ref (ad 1 j0), .int x1, .int x2, .int x3, .int x4, .int x5].toArray below meth c H locs 0 0 (MQ below (q_M_feed D ad ca N M0 MZ RZ A) [.ref (ad 1 j0), .int x1, .int x2, .int x3, .int x4, .int x5].toArray s rm_M_feed.cells rm_M_feed.slots A) (F0 m 75 ls [.int s0]) := by
    intro k22 hk22 M y6 s0 H locs ls h hwf hkp hP hD hS hl
    unfold f_M_feed_b75 at h
    have hkb := hkp
    refine lv_istore (lv' := [(7, .int s0), (0, .ref (ad 1 j0)), (1, .int x1), (2, .int x2), (3, .int x3), (4, .int x4), (5, .int x5), (6, .int y6)]) hx hb d_M_feed_75 hl (by decide) rfl (fun ls hl => ?_)
    refine lv_aload_n hx hb d_M_feed_77 rfl (lv_at hl 1 rfl) ?_
    refine g_M_1 hx hb hts hown hK hP hwf hj0 (hts _ u_1742) d_M_feed_78 ?_
    obtain ⟨j1, e2, h⟩ := bd_ob h
    have hj1 : j1 < N 14 := (hwf.2.1 1 j0 1 _ e2 (by decide) hj0)
    refine me_opt (j := j1) e2 ?_
    refine lv_aload_n hx hb d_M_feed_81 rfl (lv_at hl 1 rfl) ?_
    refine g_M_2 hx hb hts hown hK hP hwf hj0 (hts _ u_1743) d_M_feed_82 ?_
    refine lv_iload hx hb d_M_feed_85 (lv_at hl 7 rfl) ?_
    refine lv_iadd hx hb d_M_feed_87 ?_
    refine lv_iload hx hb d_M_feed_88 (lv_at hl 0 rfl) ?_
    refine lv_bipush (v := 24) hx hb d_M_feed_90 (by decide) ?_
    refine lv_bipush (v := 8) hx hb d_M_feed_92 (by decide) ?_
    refine lv_iload hx hb d_M_feed_94 (lv_at hl 7 rfl) ?_
    refine lv_iconst (v := 4) hx hb d_M_feed_96 (by decide) ?_
    refine lv_irem hx hb d_M_feed_97 (by decide) ?_
    refine fg_topi (y := jirem y6 4) rfl ?_
    refine lv_imul hx hb d_M_feed_98 ?_
    refine lv_isub hx hb d_M_feed_99 ?_
    refine lv_ishr hx hb d_M_feed_100 ?_
    refine fg_topi (y := jishr s0 (24 - (8 * (jirem y6 4)))) rfl ?_
    refine lv_i2b (v := (jishr s0 (24 - (8 * (jirem y6 4)))).toInt8.toInt32) hx hb d_M_feed_101 rfl ?_
    obtain ⟨g3, h⟩ := gd_ob h
    obtain ⟨M4, eM4, h⟩ := st_ob h
    refine me_bast eM4 hx hb hK hP hD hwf hS hj1 g3 d_M_feed_102 (fun H locs hP hD hwf hS => ?_)
    have hkp := kp_I eM4 hkp
    refine lv_iinc (v := y6 + 1) (lv' := [(6, .int (y6 + 1)), (7, .int s0), (0, .ref (ad 1 j0)), (1, .int x1), (2, .int x2), (3, .int x3), (4, .int x4), (5, .int x5)]) hx hb d_M_feed_103 hl (k := 7) rfl (by rfl) (by decide) rfl (fun ls hl => ?_)
    refine lv_goto (tgt := 22) hx hb d_M_feed_106 (by decide) ?_
    exact hk22 M4 (y6 + 1) _ _ _ h hwf hkp hP hD hS (lv_sub hl [2, 3, 4, 5, 6, 7, 0] rfl)
  have b_22 : ∀ (fu : Nat), ∀ (M : me_M) (y6 : Int32) (H : Heap) (locs : List Loc) (ls : Array Slot), f_M_feed_l22 j0 x1 x2 x3 x4 x5 fu M y6 = (some (MZ, RZ)) → me_wf N M → me_kp M0 M → va_P D classes (me_W ad ca M) H → va_D A (me_W ad ca M) → va_S A s.heap H locs → lv_has ls 8 [(0, .ref (ad 1 j0)), (1, .int x1), (2, .int x2), (3, .int x3), (4, .int x4), (5, .int x5), (6, .int y6)] → W p l e rm_M_feed s m [.ref (ad 1 j0), .int x1, .int x2, .int x3, .int x4, .int x5].toArray below meth c H locs 0 0 (MQ below (q_M_feed D ad ca N M0 MZ RZ A) [.ref (ad 1 j0), .int x1, .int x2, .int x3, .int x4, .int x5].toArray s rm_M_feed.cells rm_M_feed.slots A) (F0 m 22 ls []) := by
    intro fu
    induction fu with
    | zero =>
      intro M y6 H locs ls h hwf hkp hP hD hS hl
      cases h
    | succ fu ih =>
      intro M y6 H locs ls h hwf hkp hP hD hS hl
      unfold f_M_feed_l22 at h
      have hkb := hkp
      refine lv_iload hx hb d_M_feed_22 (lv_at hl 6 rfl) ?_
      refine lv_bipush (v := 20) hx hb d_M_feed_24 (by decide) ?_
      refine lv_icmp_ge (tgt := 109) hx hb d_M_feed_26 (by decide) (fun c5 => ?_) (fun c5 => ?_)
      · have h := if_t c5 h
        refine lv_aload_n hx hb d_M_feed_109 rfl (lv_at hl 0 rfl) ?_
        refine lv_dup hx hb d_M_feed_110 rfl ?_
        refine g_M_2 hx hb hts hown hK hP hwf hj0 (hts _ u_1743) d_M_feed_111 ?_
        refine lv_bipush (v := 20) hx hb d_M_feed_114 (by decide) ?_
        refine lv_iadd hx hb d_M_feed_116 ?_
        obtain ⟨M6, eM6, h⟩ := st_ob h
        refine p_M_2 eM6 hx hb hts hown hK hP hD hwf hS hj0 (hts _ u_1743) d_M_feed_117 (fun H locs hP hD hwf hS => ?_)
        have hkp := kp_I eM6 hkp
        refine lv_iconst (v := 1) hx hb d_M_feed_120 (by decide) ?_
        exact me_retz (me_kp M0) h (by decide) hx hb hr hlocks hwf hkp hP hK hD hS d_M_feed_121
      have h := if_f c5 h
      refine lv_iload hx hb d_M_feed_29 (lv_at hl 6 rfl) ?_
      refine lv_iconst (v := 4) hx hb d_M_feed_31 (by decide) ?_
      refine lv_icmp_ge (tgt := 39) hx hb d_M_feed_32 (by decide) (fun c7 => ?_) (fun c7 => ?_)
      · have h := if_t c7 h
        refine lv_iload hx hb d_M_feed_39 (lv_at hl 6 rfl) ?_
        refine lv_bipush (v := 8) hx hb d_M_feed_41 (by decide) ?_
        refine lv_icmp_ge (tgt := 50) hx hb d_M_feed_43 (by decide) (fun c8 => ?_) (fun c8 => ?_)
        · have h := if_t c8 h
          refine lv_iload hx hb d_M_feed_50 (lv_at hl 6 rfl) ?_
          refine lv_bipush (v := 12) hx hb d_M_feed_52 (by decide) ?_
          refine lv_icmp_ge (tgt := 61) hx hb d_M_feed_54 (by decide) (fun c9 => ?_) (fun c9 => ?_)
          · have h := if_t c9 h
            refine lv_iload hx hb d_M_feed_61 (lv_at hl 6 rfl) ?_
            refine lv_bipush (v := 16) hx hb d_M_feed_63 (by decide) ?_
            refine lv_icmp_ge (tgt := 73) hx hb d_M_feed_65 (by decide) (fun c10 => ?_) (fun c10 => ?_)
            · have h := if_t c10 h
              refine lv_iload hx hb d_M_feed_73 (lv_at hl 5 rfl) ?_
              exact b_75 _ ih M y6 x5 _ _ _ h hwf hkp hP hD hS (lv_sub hl [0, 1, 2, 3, 4, 5, 6] rfl)
            have h := if_f c10 h
            refine lv_iload hx hb d_M_feed_68 (lv_at hl 4 rfl) ?_
            refine lv_goto (tgt := 75) hx hb d_M_feed_70 (by decide) ?_
            exact b_75 _ ih M y6 x4 _ _ _ h hwf hkp hP hD hS (lv_sub hl [0, 1, 2, 3, 4, 5, 6] rfl)
          have h := if_f c9 h
          refine lv_iload_n hx hb d_M_feed_57 rfl (lv_at hl 3 rfl) ?_
          refine lv_goto (tgt := 75) hx hb d_M_feed_58 (by decide) ?_
          exact b_75 _ ih M y6 x3 _ _ _ h hwf hkp hP hD hS (lv_sub hl [0, 1, 2, 3, 4, 5, 6] rfl)
        have h := if_f c8 h
        refine lv_iload_n hx hb d_M_feed_46 rfl (lv_at hl 2 rfl) ?_
        refine lv_goto (tgt := 75) hx hb d_M_feed_47 (by decide) ?_
        exact b_75 _ ih M y6 x2 _ _ _ h hwf hkp hP hD hS (lv_sub hl [0, 1, 2, 3, 4, 5, 6] rfl)
      have h := if_f c7 h
      refine lv_iload_n hx hb d_M_feed_35 rfl (lv_at hl 1 rfl) ?_
      refine lv_goto (tgt := 75) hx hb d_M_feed_36 (by decide) ?_
      exact b_75 _ ih M y6 x1 _ _ _ h hwf hkp hP hD hS (lv_sub hl [0, 1, 2, 3, 4, 5, 6] rfl)
  refine lv_aload_n hx hb d_M_feed_0 rfl (lv_at hl 0 rfl) ?_
  refine lv_iconst (v := 0) hx hb d_M_feed_1 (by decide) ?_
  obtain ⟨M11, eM11, h⟩ := st_ob h
  refine p_M_0 eM11 hx hb hts hown hK hP hD hwf hS hj0 (hts _ u_1741) d_M_feed_2 (fun H locs hP hD hwf hS => ?_)
  have hkp := kp_I eM11 hkp
  refine lv_aload_n hx hb d_M_feed_5 rfl (lv_at hl 0 rfl) ?_
  refine g_M_2 hx hb hts hown hK hP hwf hj0 (hts _ u_1743) d_M_feed_6 ?_
  refine lv_bipush (v := 20) hx hb d_M_feed_9 (by decide) ?_
  refine lv_iadd hx hb d_M_feed_11 ?_
  refine lv_ldc hx hb hown (hts _ u_1740) d_M_feed_12 ?_
  refine lv_icmp_le (tgt := 19) hx hb d_M_feed_14 (by decide) (fun c12 => ?_) (fun c12 => ?_)
  · have h := if_t c12 h
    refine lv_iconst (v := 0) hx hb d_M_feed_19 (by decide) ?_
    refine lv_istore (lv' := [(6, .int 0), (0, .ref (ad 1 j0)), (1, .int x1), (2, .int x2), (3, .int x3), (4, .int x4), (5, .int x5)]) hx hb d_M_feed_20 hl (by decide) rfl (fun ls hl => ?_)
    exact b_22 _ M11 (0 : Int32) _ _ _ h hwf hkp hP hD hS (lv_sub hl [1, 2, 3, 4, 5, 6, 0] rfl)
  have h := if_f c12 h
  refine lv_iconst (v := 0) hx hb d_M_feed_17 (by decide) ?_
  exact me_retz (me_kp M0) h (by decide) hx hb hr hlocks hwf hkp hP hK hD hS d_M_feed_18
theorem d_M_map_152 : decode prog_14_method_115_code 152 = .ok (.iload 6, 2) := by decide +kernel
theorem d_M_map_154 : decode prog_14_method_115_code 154 = .ok (.bipush 64, 2) := by decide +kernel
theorem d_M_map_156 : decode prog_14_method_115_code 156 = .ok (.if_icmp .ge 40, 3) := by decide +kernel
theorem d_M_map_196 : decode prog_14_method_115_code 196 = .ok (.aload_n 0, 1) := by decide +kernel
theorem d_M_map_197 : decode prog_14_method_115_code 197 = .ok (.dup, 1) := by decide +kernel
theorem d_M_map_198 : decode prog_14_method_115_code 198 = .ok (.getfield 348, 3) := by decide +kernel
theorem d_M_map_201 : decode prog_14_method_115_code 201 = .ok (.iconst 1, 1) := by decide +kernel
theorem d_M_map_202 : decode prog_14_method_115_code 202 = .ok (.iadd, 1) := by decide +kernel
theorem d_M_map_203 : decode prog_14_method_115_code 203 = .ok (.putfield 348, 3) := by decide +kernel
theorem p_M_3 {p : Program} {l : Launch} {e : Env} {R : Room} {s : Jvm.State} {m : MethodId} {args : Array Value} {below : List Frame} {meth : Method} {c : Code} {H : Heap} {locs : List Loc} {cells slots : Nat} {Q : Jvm.State → Prop} {cc : ByteArray} {pc : Nat} {ls : Array Slot} {rest : List Value} {D : va_G} {A : Nat → Prop} {H0 : Heap} {ad : Nat → Nat → Nat} {ca : Nat → ClassId} {M M1 : me_M} {N : Nat → Nat} {own : String} {index j : Nat} {v : Int32} (he : M1 = wI M 1 j 3 v) (hexec : p.tables.exec = Jvm.exec) (hb : c.code = cc) (hts : ∀ w ∈ fg_g, w.before args s = true) (hown : s.vm.findClass own = some m.cls) (hK : va_K D classes (me_T ca) s) (hP : va_P D classes (me_W ad ca M) H) (hD : va_D A (me_W ad ca M)) (hwf : me_wf N M) (hS : va_S A H0 H locs) (hj : j < N 1) (hlink : (Cond.fieldLink own index "FilterGuardModel" "maps" "I").before args s = true) (hdg : decode cc pc = .ok (.putfield index, 3)) (kk : ∀ (H1 : Heap) (locs1 : List Loc), va_P D classes (me_W ad ca M1) H1 → va_D A (me_W ad ca M1) → me_wf N M1 → va_S A H0 H1 locs1 → W p l e R s m args below meth c H1 locs1 cells slots Q (F0 m (pc + 3) ls rest)) : W p l e R s m args below meth c H locs cells slots Q (F0 m pc ls (.int v :: .ref (ad 1 j) :: rest)) := by
  subst he
  exact me_put (M1 := wI M 1 j 3 v) (k := 1) (f := 3) (C := "FilterGuardModel") (T := F_M) (Nf := 75) hexec hb hts i_M t_M t_M_ok n_M hown hK hP hD hwf hS hj (by decide) rfl (by decide) (by decide) hlink (fun _ h9 => h9) rfl rfl rfl rfl (fun a b h => me_wIE h) (me_fIw (by decide) (by decide)) hdg (fun H1 locs1 a1 a2 a3 => kk H1 locs1 a1 a2 (me_wfI hwf (fun z => absurd z (by decide)) (fun z => absurd z (by decide))) a3)
theorem d_M_map_206 : decode prog_14_method_115_code 206 = .ok (.aload_n 0, 1) := by decide +kernel
theorem d_M_map_207 : decode prog_14_method_115_code 207 = .ok (.getfield 348, 3) := by decide +kernel
theorem d_M_map_210 : decode prog_14_method_115_code 210 = .ok (.iconst 1, 1) := by decide +kernel
theorem d_M_map_211 : decode prog_14_method_115_code 211 = .ok (.isub, 1) := by decide +kernel
theorem d_M_map_212 : decode prog_14_method_115_code 212 = .ok (.ireturn, 1) := by decide +kernel
theorem d_M_map_159 : decode prog_14_method_115_code 159 = .ok (.aload_n 0, 1) := by decide +kernel
theorem d_M_map_160 : decode prog_14_method_115_code 160 = .ok (.getfield 27, 3) := by decide +kernel
theorem g_M_9 {p : Program} {l : Launch} {e : Env} {R : Room} {s : Jvm.State} {m : MethodId} {args : Array Value} {below : List Frame} {meth : Method} {c : Code} {H : Heap} {locs : List Loc} {cells slots : Nat} {Q : Jvm.State → Prop} {cc : ByteArray} {pc : Nat} {ls : Array Slot} {rest : List Value} {D : va_G} {ad : Nat → Nat → Nat} {ca : Nat → ClassId} {M : me_M} {N : Nat → Nat} {own : String} {index j : Nat} (hexec : p.tables.exec = Jvm.exec) (hb : c.code = cc) (hts : ∀ w ∈ fg_g, w.before args s = true) (hown : s.vm.findClass own = some m.cls) (hK : va_K D classes (me_T ca) s) (hP : va_P D classes (me_W ad ca M) H) (hwf : me_wf N M) (hj : j < N 1) (hlink : (Cond.fieldLink own index "FilterGuardModel" "there" "[Z").before args s = true) (hdg : decode cc pc = .ok (.getfield index, 3)) (kk : W p l e R s m args below meth c H locs cells slots Q (F0 m (pc + 3) ls (va_rf ((mR M 1 j 9).map (ad 15)) :: rest))) : W p l e R s m args below meth c H locs cells slots Q (F0 m pc ls (.ref (ad 1 j) :: rest)) := me_get (k := 1) (f := 9) (C := "FilterGuardModel") (T := F_M) (Nf := 75) hexec hb hts i_M hown hK hP hwf hj (by decide) rfl (by decide) (by decide) hlink (fun _ h9 => h9) hdg kk
theorem d_M_map_163 : decode prog_14_method_115_code 163 = .ok (.bipush 64, 2) := by decide +kernel
theorem d_M_map_165 : decode prog_14_method_115_code 165 = .ok (.aload_n 0, 1) := by decide +kernel
theorem d_M_map_166 : decode prog_14_method_115_code 166 = .ok (.getfield 348, 3) := by decide +kernel
theorem d_M_map_169 : decode prog_14_method_115_code 169 = .ok (.imul, 1) := by decide +kernel
theorem d_M_map_170 : decode prog_14_method_115_code 170 = .ok (.iload 6, 2) := by decide +kernel
theorem d_M_map_172 : decode prog_14_method_115_code 172 = .ok (.iadd, 1) := by decide +kernel
theorem d_M_map_173 : decode prog_14_method_115_code 173 = .ok (.iload_n 1, 1) := by decide +kernel
theorem d_M_map_174 : decode prog_14_method_115_code 174 = .ok (.ifCond .ne 14, 3) := by decide +kernel
theorem d_M_map_188 : decode prog_14_method_115_code 188 = .ok (.iconst 0, 1) := by decide +kernel
theorem d_M_map_189 : decode prog_14_method_115_code 189 = .ok (.bastore, 1) := by decide +kernel
theorem d_M_map_190 : decode prog_14_method_115_code 190 = .ok (.iinc 6 1, 3) := by decide +kernel
theorem d_M_map_193 : decode prog_14_method_115_code 193 = .ok (.goto (-41), 3) := by decide +kernel
theorem d_M_map_177 : decode prog_14_method_115_code 177 = .ok (.iload 6, 2) := by decide +kernel
theorem d_M_map_179 : decode prog_14_method_115_code 179 = .ok (.iload 4, 2) := by decide +kernel
theorem d_M_map_181 : decode prog_14_method_115_code 181 = .ok (.if_icmp .ge 7, 3) := by decide +kernel
theorem d_M_map_184 : decode prog_14_method_115_code 184 = .ok (.iconst 1, 1) := by decide +kernel
theorem d_M_map_185 : decode prog_14_method_115_code 185 = .ok (.goto 4, 3) := by decide +kernel
theorem d_M_map_96 : decode prog_14_method_115_code 96 = .ok (.putfield 152, 3) := by decide +kernel
theorem d_M_map_99 : decode prog_14_method_115_code 99 = .ok (.aload_n 0, 1) := by decide +kernel
theorem d_M_map_100 : decode prog_14_method_115_code 100 = .ok (.getfield 152, 3) := by decide +kernel
theorem d_M_map_103 : decode prog_14_method_115_code 103 = .ok (.ifCond .le 5, 3) := by decide +kernel
theorem d_M_map_108 : decode prog_14_method_115_code 108 = .ok (.aload_n 0, 1) := by decide +kernel
theorem d_M_map_109 : decode prog_14_method_115_code 109 = .ok (.getfield 14, 3) := by decide +kernel
theorem g_M_5 {p : Program} {l : Launch} {e : Env} {R : Room} {s : Jvm.State} {m : MethodId} {args : Array Value} {below : List Frame} {meth : Method} {c : Code} {H : Heap} {locs : List Loc} {cells slots : Nat} {Q : Jvm.State → Prop} {cc : ByteArray} {pc : Nat} {ls : Array Slot} {rest : List Value} {D : va_G} {ad : Nat → Nat → Nat} {ca : Nat → ClassId} {M : me_M} {N : Nat → Nat} {own : String} {index j : Nat} (hexec : p.tables.exec = Jvm.exec) (hb : c.code = cc) (hts : ∀ w ∈ fg_g, w.before args s = true) (hown : s.vm.findClass own = some m.cls) (hK : va_K D classes (me_T ca) s) (hP : va_P D classes (me_W ad ca M) H) (hwf : me_wf N M) (hj : j < N 1) (hlink : (Cond.fieldLink own index "FilterGuardModel" "mapKind" "[I").before args s = true) (hdg : decode cc pc = .ok (.getfield index, 3)) (kk : W p l e R s m args below meth c H locs cells slots Q (F0 m (pc + 3) ls (va_rf ((mR M 1 j 5).map (ad 13)) :: rest))) : W p l e R s m args below meth c H locs cells slots Q (F0 m pc ls (.ref (ad 1 j) :: rest)) := me_get (k := 1) (f := 5) (C := "FilterGuardModel") (T := F_M) (Nf := 75) hexec hb hts i_M hown hK hP hwf hj (by decide) rfl (by decide) (by decide) hlink (fun _ h9 => h9) hdg kk
theorem d_M_map_112 : decode prog_14_method_115_code 112 = .ok (.aload_n 0, 1) := by decide +kernel
theorem d_M_map_113 : decode prog_14_method_115_code 113 = .ok (.getfield 348, 3) := by decide +kernel
theorem d_M_map_116 : decode prog_14_method_115_code 116 = .ok (.iload_n 1, 1) := by decide +kernel
theorem d_M_map_117 : decode prog_14_method_115_code 117 = .ok (.iastore, 1) := by decide +kernel
theorem d_M_map_118 : decode prog_14_method_115_code 118 = .ok (.aload_n 0, 1) := by decide +kernel
theorem d_M_map_119 : decode prog_14_method_115_code 119 = .ok (.getfield 18, 3) := by decide +kernel
theorem d_M_map_122 : decode prog_14_method_115_code 122 = .ok (.aload_n 0, 1) := by decide +kernel
theorem d_M_map_123 : decode prog_14_method_115_code 123 = .ok (.getfield 348, 3) := by decide +kernel
theorem d_M_map_126 : decode prog_14_method_115_code 126 = .ok (.iload_n 2, 1) := by decide +kernel
theorem d_M_map_127 : decode prog_14_method_115_code 127 = .ok (.iastore, 1) := by decide +kernel
theorem d_M_map_128 : decode prog_14_method_115_code 128 = .ok (.aload_n 0, 1) := by decide +kernel
theorem d_M_map_129 : decode prog_14_method_115_code 129 = .ok (.getfield 21, 3) := by decide +kernel
theorem d_M_map_132 : decode prog_14_method_115_code 132 = .ok (.aload_n 0, 1) := by decide +kernel
theorem d_M_map_133 : decode prog_14_method_115_code 133 = .ok (.getfield 348, 3) := by decide +kernel
theorem d_M_map_136 : decode prog_14_method_115_code 136 = .ok (.iload_n 3, 1) := by decide +kernel
theorem d_M_map_137 : decode prog_14_method_115_code 137 = .ok (.iastore, 1) := by decide +kernel
theorem d_M_map_138 : decode prog_14_method_115_code 138 = .ok (.aload_n 0, 1) := by decide +kernel
theorem d_M_map_139 : decode prog_14_method_115_code 139 = .ok (.getfield 24, 3) := by decide +kernel
theorem g_M_8 {p : Program} {l : Launch} {e : Env} {R : Room} {s : Jvm.State} {m : MethodId} {args : Array Value} {below : List Frame} {meth : Method} {c : Code} {H : Heap} {locs : List Loc} {cells slots : Nat} {Q : Jvm.State → Prop} {cc : ByteArray} {pc : Nat} {ls : Array Slot} {rest : List Value} {D : va_G} {ad : Nat → Nat → Nat} {ca : Nat → ClassId} {M : me_M} {N : Nat → Nat} {own : String} {index j : Nat} (hexec : p.tables.exec = Jvm.exec) (hb : c.code = cc) (hts : ∀ w ∈ fg_g, w.before args s = true) (hown : s.vm.findClass own = some m.cls) (hK : va_K D classes (me_T ca) s) (hP : va_P D classes (me_W ad ca M) H) (hwf : me_wf N M) (hj : j < N 1) (hlink : (Cond.fieldLink own index "FilterGuardModel" "entries" "[I").before args s = true) (hdg : decode cc pc = .ok (.getfield index, 3)) (kk : W p l e R s m args below meth c H locs cells slots Q (F0 m (pc + 3) ls (va_rf ((mR M 1 j 8).map (ad 13)) :: rest))) : W p l e R s m args below meth c H locs cells slots Q (F0 m pc ls (.ref (ad 1 j) :: rest)) := me_get (k := 1) (f := 8) (C := "FilterGuardModel") (T := F_M) (Nf := 75) hexec hb hts i_M hown hK hP hwf hj (by decide) rfl (by decide) (by decide) hlink (fun _ h9 => h9) hdg kk
theorem d_M_map_142 : decode prog_14_method_115_code 142 = .ok (.aload_n 0, 1) := by decide +kernel
theorem d_M_map_143 : decode prog_14_method_115_code 143 = .ok (.getfield 348, 3) := by decide +kernel
theorem d_M_map_146 : decode prog_14_method_115_code 146 = .ok (.iload 4, 2) := by decide +kernel
theorem d_M_map_148 : decode prog_14_method_115_code 148 = .ok (.iastore, 1) := by decide +kernel
theorem d_M_map_149 : decode prog_14_method_115_code 149 = .ok (.iconst 0, 1) := by decide +kernel
theorem d_M_map_150 : decode prog_14_method_115_code 150 = .ok (.istore 6, 2) := by decide +kernel
theorem d_M_map_106 : decode prog_14_method_115_code 106 = .ok (.iconst 0, 1) := by decide +kernel
theorem d_M_map_107 : decode prog_14_method_115_code 107 = .ok (.ireturn, 1) := by decide +kernel
theorem d_M_map_91 : decode prog_14_method_115_code 91 = .ok (.iconst 2, 1) := by decide +kernel
theorem d_M_map_92 : decode prog_14_method_115_code 92 = .ok (.goto 4, 3) := by decide +kernel
theorem d_M_map_64 : decode prog_14_method_115_code 64 = .ok (.istore 5, 2) := by decide +kernel
theorem d_M_map_66 : decode prog_14_method_115_code 66 = .ok (.aload_n 0, 1) := by decide +kernel
theorem d_M_map_67 : decode prog_14_method_115_code 67 = .ok (.iload 5, 2) := by decide +kernel
theorem d_M_map_69 : decode prog_14_method_115_code 69 = .ok (.ifCond .ne 7, 3) := by decide +kernel
theorem d_M_map_76 : decode prog_14_method_115_code 76 = .ok (.aload_n 0, 1) := by decide +kernel
theorem d_M_map_77 : decode prog_14_method_115_code 77 = .ok (.getfield 348, 3) := by decide +kernel
theorem d_M_map_80 : decode prog_14_method_115_code 80 = .ok (.iconst 4, 1) := by decide +kernel
theorem d_M_map_81 : decode prog_14_method_115_code 81 = .ok (.if_icmp .eq 10, 3) := by decide +kernel
theorem d_M_map_84 : decode prog_14_method_115_code 84 = .ok (.aload_n 0, 1) := by decide +kernel
theorem d_M_map_85 : decode prog_14_method_115_code 85 = .ok (.getfield 590, 3) := by decide +kernel
theorem g_M_4 {p : Program} {l : Launch} {e : Env} {R : Room} {s : Jvm.State} {m : MethodId} {args : Array Value} {below : List Frame} {meth : Method} {c : Code} {H : Heap} {locs : List Loc} {cells slots : Nat} {Q : Jvm.State → Prop} {cc : ByteArray} {pc : Nat} {ls : Array Slot} {rest : List Value} {D : va_G} {ad : Nat → Nat → Nat} {ca : Nat → ClassId} {M : me_M} {N : Nat → Nat} {own : String} {index j : Nat} (hexec : p.tables.exec = Jvm.exec) (hb : c.code = cc) (hts : ∀ w ∈ fg_g, w.before args s = true) (hown : s.vm.findClass own = some m.cls) (hK : va_K D classes (me_T ca) s) (hP : va_P D classes (me_W ad ca M) H) (hwf : me_wf N M) (hj : j < N 1) (hlink : (Cond.fieldLink own index "FilterGuardModel" "everAccepted" "Z").before args s = true) (hdg : decode cc pc = .ok (.getfield index, 3)) (kk : W p l e R s m args below meth c H locs cells slots Q (F0 m (pc + 3) ls (.int (mI M 1 j 4) :: rest))) : W p l e R s m args below meth c H locs cells slots Q (F0 m pc ls (.ref (ad 1 j) :: rest)) := me_get (k := 1) (f := 4) (C := "FilterGuardModel") (T := F_M) (Nf := 75) hexec hb hts i_M hown hK hP hwf hj (by decide) rfl (by decide) (by decide) hlink (fun _ h9 => h9) hdg kk
theorem d_M_map_88 : decode prog_14_method_115_code 88 = .ok (.ifCond .eq 7, 3) := by decide +kernel
theorem d_M_map_95 : decode prog_14_method_115_code 95 = .ok (.iconst 0, 1) := by decide +kernel
theorem d_M_map_72 : decode prog_14_method_115_code 72 = .ok (.iconst 1, 1) := by decide +kernel
theorem d_M_map_73 : decode prog_14_method_115_code 73 = .ok (.goto 23, 3) := by decide +kernel
theorem d_M_map_63 : decode prog_14_method_115_code 63 = .ok (.iconst 0, 1) := by decide +kernel
theorem d_M_map_34 : decode prog_14_method_115_code 34 = .ok (.iload_n 3, 1) := by decide +kernel
theorem d_M_map_35 : decode prog_14_method_115_code 35 = .ok (.i2l, 1) := by decide +kernel
theorem d_M_map_36 : decode prog_14_method_115_code 36 = .ok (.lconst 1, 1) := by decide +kernel
theorem d_M_map_37 : decode prog_14_method_115_code 37 = .ok (.ldc2_w 406, 3) := by decide +kernel
theorem d_M_map_40 : decode prog_14_method_115_code 40 = .ok (.invokestatic 342, 3) := by decide +kernel
theorem d_M_map_43 : decode prog_14_method_115_code 43 = .ok (.ifCond .eq 20, 3) := by decide +kernel
theorem d_M_map_46 : decode prog_14_method_115_code 46 = .ok (.iload 4, 2) := by decide +kernel
theorem d_M_map_48 : decode prog_14_method_115_code 48 = .ok (.i2l, 1) := by decide +kernel
theorem d_M_map_49 : decode prog_14_method_115_code 49 = .ok (.lconst 1, 1) := by decide +kernel
theorem d_M_map_50 : decode prog_14_method_115_code 50 = .ok (.ldc2_w 406, 3) := by decide +kernel
theorem d_M_map_53 : decode prog_14_method_115_code 53 = .ok (.invokestatic 342, 3) := by decide +kernel
theorem d_M_map_56 : decode prog_14_method_115_code 56 = .ok (.ifCond .eq 7, 3) := by decide +kernel
theorem d_M_map_59 : decode prog_14_method_115_code 59 = .ok (.iconst 1, 1) := by decide +kernel
theorem d_M_map_60 : decode prog_14_method_115_code 60 = .ok (.goto 4, 3) := by decide +kernel
theorem d_M_map_0 : decode prog_14_method_115_code 0 = .ok (.iload_n 1, 1) := by decide +kernel
theorem d_M_map_1 : decode prog_14_method_115_code 1 = .ok (.i2l, 1) := by decide +kernel
theorem d_M_map_2 : decode prog_14_method_115_code 2 = .ok (.lconst 0, 1) := by decide +kernel
theorem d_M_map_3 : decode prog_14_method_115_code 3 = .ok (.lconst 1, 1) := by decide +kernel
theorem d_M_map_4 : decode prog_14_method_115_code 4 = .ok (.invokestatic 342, 3) := by decide +kernel
theorem d_M_map_7 : decode prog_14_method_115_code 7 = .ok (.ifCond .eq 56, 3) := by decide +kernel
theorem d_M_map_10 : decode prog_14_method_115_code 10 = .ok (.iload_n 1, 1) := by decide +kernel
theorem d_M_map_11 : decode prog_14_method_115_code 11 = .ok (.ifCond .ne 11, 3) := by decide +kernel
theorem d_M_map_22 : decode prog_14_method_115_code 22 = .ok (.iload_n 2, 1) := by decide +kernel
theorem d_M_map_23 : decode prog_14_method_115_code 23 = .ok (.i2l, 1) := by decide +kernel
theorem d_M_map_24 : decode prog_14_method_115_code 24 = .ok (.lconst 1, 1) := by decide +kernel
theorem d_M_map_25 : decode prog_14_method_115_code 25 = .ok (.ldc2_w 408, 3) := by decide +kernel
theorem d_M_map_28 : decode prog_14_method_115_code 28 = .ok (.invokestatic 342, 3) := by decide +kernel
theorem d_M_map_31 : decode prog_14_method_115_code 31 = .ok (.ifCond .eq 32, 3) := by decide +kernel
theorem d_M_map_14 : decode prog_14_method_115_code 14 = .ok (.iload_n 2, 1) := by decide +kernel
theorem d_M_map_15 : decode prog_14_method_115_code 15 = .ok (.iconst 4, 1) := by decide +kernel
theorem d_M_map_16 : decode prog_14_method_115_code 16 = .ok (.if_icmp .ne 47, 3) := by decide +kernel
theorem d_M_map_19 : decode prog_14_method_115_code 19 = .ok (.goto 15, 3) := by decide +kernel
abbrev y_M_map : MethodName := ⟨"FilterGuardModel", "map", "(IIII)I"⟩
def rm_M_map : Room := { frames := 2, cells := 0, slots := 0, locals := 45 }
abbrev q_M_map (D : va_G) (ad : Nat → Nat → Nat) (ca : Nat → ClassId) (N : Nat → Nat) (M0 MZ : me_M) (RZ : Int32) (A : Nat → Prop) : Array Value → Jvm.State → Outcome → Jvm.State → Prop := va_Qi (fun r (_ : Unit) => r = RZ ∧ me_wf N MZ ∧ me_kp M0 MZ) (fg_B D A (fun _ => me_W ad ca MZ) (fun _ => [])) A
set_option maxHeartbeats 4000000 in
set_option maxRecDepth 100000 in
theorem c_M_map (l : Launch) (D : va_G) (ad : Nat → Nat → Nat) (ca : Nat → ClassId) (N : Nat → Nat) (M0 MZ : me_M) (RZ : Int32) (j0 : Nat) (x1 : Int32) (x2 : Int32) (x3 : Int32) (x4 : Int32) (h : f_M_map M0 j0 x1 x2 x3 x4 = (some (MZ, RZ))) (hwf : me_wf N M0) (hj0 : j0 < N 1) (sz : Nat) : Met l y_M_map (fg_w y_M_map prog_14_method_115_code 7 (some .int)) rm_M_map (va_Pc [.ref (ad 1 j0), .int x1, .int x2, .int x3, .int x4] (fz_P D (me_T ca) (me_W ad ca M0) sz)) (q_M_map D ad ca N M0 MZ RZ (va_A (me_W ad ca M0) sz)) rm_M_map.cells rm_M_map.slots (va_A (me_W ad ca M0) sz) := by
  refine fz_enter (fun A => q_M_map D ad ca N M0 MZ RZ A) (by decide +kernel) (Nat.le_of_ble_eq_true rfl) ?_
  intro p e s m below meth c ls A hx hb hml hown hts hr hlocks hin hP hK hD hS hA hX hl hz
  have hl : lv_has ls 7 [(0, .ref (ad 1 j0)), (1, .int x1), (2, .int x2), (3, .int x3), (4, .int x4)] := hl
  unfold f_M_map at h
  have hkp : me_kp M0 M0 := me_kp.rf
  have hkb := hkp
  have b_152 : ∀ (fu : Nat), ∀ (M : me_M) (y6 : Int32) (H : Heap) (locs : List Loc) (ls : Array Slot), f_M_map_l152 j0 x1 x4 fu M y6 = (some (MZ, RZ)) → me_wf N M → me_kp M0 M → va_P D classes (me_W ad ca M) H → va_D A (me_W ad ca M) → va_S A s.heap H locs → lv_has ls 7 [(0, .ref (ad 1 j0)), (1, .int x1), (4, .int x4), (6, .int y6)] → W p l e rm_M_map s m [.ref (ad 1 j0), .int x1, .int x2, .int x3, .int x4].toArray below meth c H locs 0 0 (MQ below (q_M_map D ad ca N M0 MZ RZ A) [.ref (ad 1 j0), .int x1, .int x2, .int x3, .int x4].toArray s rm_M_map.cells rm_M_map.slots A) (F0 m 152 ls []) := by
    intro fu
    induction fu with
    | zero =>
      intro M y6 H locs ls h hwf hkp hP hD hS hl
      cases h
    | succ fu ih =>
      intro M y6 H locs ls h hwf hkp hP hD hS hl
      unfold f_M_map_l152 at h
      have hkb := hkp
      refine lv_iload hx hb d_M_map_152 (lv_at hl 3 rfl) ?_
      refine lv_bipush (v := 64) hx hb d_M_map_154 (by decide) ?_
      refine lv_icmp_ge (tgt := 196) hx hb d_M_map_156 (by decide) (fun c1 => ?_) (fun c1 => ?_)
      · have h := if_t c1 h
        refine lv_aload_n hx hb d_M_map_196 rfl (lv_at hl 0 rfl) ?_
        refine lv_dup hx hb d_M_map_197 rfl ?_
        refine g_M_3 hx hb hts hown hK hP hwf hj0 (hts _ u_1744) d_M_map_198 ?_
        refine lv_iconst (v := 1) hx hb d_M_map_201 (by decide) ?_
        refine lv_iadd hx hb d_M_map_202 ?_
        obtain ⟨M2, eM2, h⟩ := st_ob h
        refine p_M_3 eM2 hx hb hts hown hK hP hD hwf hS hj0 (hts _ u_1744) d_M_map_203 (fun H locs hP hD hwf hS => ?_)
        have hkp := kp_I eM2 hkp
        refine lv_aload_n hx hb d_M_map_206 rfl (lv_at hl 0 rfl) ?_
        refine g_M_3 hx hb hts hown hK hP hwf hj0 (hts _ u_1744) d_M_map_207 ?_
        refine lv_iconst (v := 1) hx hb d_M_map_210 (by decide) ?_
        refine lv_isub hx hb d_M_map_211 ?_
        exact me_reti (me_kp M0) h hx hb hr hlocks hwf hkp hP hK hD hS d_M_map_212
      have h := if_f c1 h
      refine lv_aload_n hx hb d_M_map_159 rfl (lv_at hl 0 rfl) ?_
      refine g_M_9 hx hb hts hown hK hP hwf hj0 (hts _ u_1750) d_M_map_160 ?_
      obtain ⟨j3, e4, h⟩ := bd_ob h
      have hj3 : j3 < N 15 := (hwf.2.1 1 j0 9 _ e4 (by decide) hj0)
      refine me_opt (j := j3) e4 ?_
      refine lv_bipush (v := 64) hx hb d_M_map_163 (by decide) ?_
      refine lv_aload_n hx hb d_M_map_165 rfl (lv_at hl 0 rfl) ?_
      refine g_M_3 hx hb hts hown hK hP hwf hj0 (hts _ u_1744) d_M_map_166 ?_
      refine lv_imul hx hb d_M_map_169 ?_
      refine lv_iload hx hb d_M_map_170 (lv_at hl 3 rfl) ?_
      refine lv_iadd hx hb d_M_map_172 ?_
      refine lv_iload_n hx hb d_M_map_173 rfl (lv_at hl 1 rfl) ?_
      refine lv_if_ne (tgt := 188) hx hb d_M_map_174 (by decide) (fun c5 => ?_) (fun c5 => ?_)
      · have h := if_f c5 h
        refine lv_iconst (v := 0) hx hb d_M_map_188 (by decide) ?_
        obtain ⟨g6, h⟩ := gd_ob h
        obtain ⟨M7, eM7, h⟩ := st_ob h
        refine me_zast eM7 hx hb hK hP hD hwf hS hj3 g6 d_M_map_189 (fun H locs hP hD hwf hS => ?_)
        have hkp := kp_I eM7 hkp
        refine lv_iinc (v := y6 + 1) (lv' := [(6, .int (y6 + 1)), (0, .ref (ad 1 j0)), (1, .int x1), (4, .int x4)]) hx hb d_M_map_190 hl (k := 3) rfl (by rfl) (by decide) rfl (fun ls hl => ?_)
        refine lv_goto (tgt := 152) hx hb d_M_map_193 (by decide) ?_
        exact ih M7 (y6 + 1) _ _ _ h hwf hkp hP hD hS (lv_sub hl [1, 2, 3, 0] rfl)
      have h := if_t c5 h
      refine lv_iload hx hb d_M_map_177 (lv_at hl 3 rfl) ?_
      refine lv_iload hx hb d_M_map_179 (lv_at hl 2 rfl) ?_
      refine lv_icmp_ge (tgt := 188) hx hb d_M_map_181 (by decide) (fun c8 => ?_) (fun c8 => ?_)
      · have h := if_t c8 h
        refine lv_iconst (v := 0) hx hb d_M_map_188 (by decide) ?_
        obtain ⟨g9, h⟩ := gd_ob h
        obtain ⟨M10, eM10, h⟩ := st_ob h
        refine me_zast eM10 hx hb hK hP hD hwf hS hj3 g9 d_M_map_189 (fun H locs hP hD hwf hS => ?_)
        have hkp := kp_I eM10 hkp
        refine lv_iinc (v := y6 + 1) (lv' := [(6, .int (y6 + 1)), (0, .ref (ad 1 j0)), (1, .int x1), (4, .int x4)]) hx hb d_M_map_190 hl (k := 3) rfl (by rfl) (by decide) rfl (fun ls hl => ?_)
        refine lv_goto (tgt := 152) hx hb d_M_map_193 (by decide) ?_
        exact ih M10 (y6 + 1) _ _ _ h hwf hkp hP hD hS (lv_sub hl [1, 2, 3, 0] rfl)
      have h := if_f c8 h
      refine lv_iconst (v := 1) hx hb d_M_map_184 (by decide) ?_
      refine lv_goto (tgt := 189) hx hb d_M_map_185 (by decide) ?_
      obtain ⟨g11, h⟩ := gd_ob h
      obtain ⟨M12, eM12, h⟩ := st_ob h
      refine me_zast eM12 hx hb hK hP hD hwf hS hj3 g11 d_M_map_189 (fun H locs hP hD hwf hS => ?_)
      have hkp := kp_I eM12 hkp
      refine lv_iinc (v := y6 + 1) (lv' := [(6, .int (y6 + 1)), (0, .ref (ad 1 j0)), (1, .int x1), (4, .int x4)]) hx hb d_M_map_190 hl (k := 3) rfl (by rfl) (by decide) rfl (fun ls hl => ?_)
      refine lv_goto (tgt := 152) hx hb d_M_map_193 (by decide) ?_
      exact ih M12 (y6 + 1) _ _ _ h hwf hkp hP hD hS (lv_sub hl [1, 2, 3, 0] rfl)
  have b_96 : ∀ (M : me_M) (s0 : Int32) (s1 : Nat) (H : Heap) (locs : List Loc) (ls : Array Slot), f_M_map_b96 j0 x1 x2 x3 x4 M s0 s1 = (some (MZ, RZ)) → (s1 < N 1) → me_wf N M → me_kp M0 M → va_P D classes (me_W ad ca M) H → va_D A (me_W ad ca M) → va_S A s.heap H locs → lv_has ls 7 [(0, .ref (ad 1 j0)), (1, .int x1), (2, .int x2), (3, .int x3), (4, .int x4)] → W p l e rm_M_map s m [.ref (ad 1 j0), .int x1, .int x2, .int x3, .int x4].toArray below meth c H locs 0 0 (MQ below (q_M_map D ad ca N M0 MZ RZ A) [.ref (ad 1 j0), .int x1, .int x2, .int x3, .int x4].toArray s rm_M_map.cells rm_M_map.slots A) (F0 m 96 ls [.int s0, .ref (ad 1 s1)]) := by
    intro M s0 s1 H locs ls h hs1 hwf hkp hP hD hS hl
    unfold f_M_map_b96 at h
    have hkb := hkp
    obtain ⟨M13, eM13, h⟩ := st_ob h
    refine p_M_0 eM13 hx hb hts hown hK hP hD hwf hS hs1 (hts _ u_1741) d_M_map_96 (fun H locs hP hD hwf hS => ?_)
    have hkp := kp_I eM13 hkp
    refine lv_aload_n hx hb d_M_map_99 rfl (lv_at hl 0 rfl) ?_
    refine g_M_0 hx hb hts hown hK hP hwf hj0 (hts _ u_1741) d_M_map_100 ?_
    refine lv_if_le (tgt := 108) hx hb d_M_map_103 (by decide) (fun c14 => ?_) (fun c14 => ?_)
    · have h := if_t c14 h
      refine lv_aload_n hx hb d_M_map_108 rfl (lv_at hl 0 rfl) ?_
      refine g_M_5 hx hb hts hown hK hP hwf hj0 (hts _ u_1746) d_M_map_109 ?_
      obtain ⟨j15, e16, h⟩ := bd_ob h
      have hj15 : j15 < N 13 := (hwf.2.1 1 j0 5 _ (kp_r hkb hkp e16) (by decide) hj0)
      refine me_opt (j := j15) (kp_r hkb hkp e16) ?_
      refine lv_aload_n hx hb d_M_map_112 rfl (lv_at hl 0 rfl) ?_
      refine g_M_3 hx hb hts hown hK hP hwf hj0 (hts _ u_1744) d_M_map_113 ?_
      refine lv_iload_n hx hb d_M_map_116 rfl (lv_at hl 1 rfl) ?_
      obtain ⟨g17, h⟩ := gd_ob h
      obtain ⟨M18, eM18, h⟩ := st_ob h
      refine me_iast eM18 hx hb hK hP hD hwf hS hj15 (kp_z hkb.z hkp.z g17) d_M_map_117 (fun H locs hP hD hwf hS => ?_)
      have hkp := kp_I eM18 hkp
      refine lv_aload_n hx hb d_M_map_118 rfl (lv_at hl 0 rfl) ?_
      refine g_M_6 hx hb hts hown hK hP hwf hj0 (hts _ u_1747) d_M_map_119 ?_
      obtain ⟨j19, e20, h⟩ := bd_ob h
      have hj19 : j19 < N 13 := (hwf.2.1 1 j0 6 _ (kp_r hkb hkp e20) (by decide) hj0)
      refine me_opt (j := j19) (kp_r hkb hkp e20) ?_
      refine lv_aload_n hx hb d_M_map_122 rfl (lv_at hl 0 rfl) ?_
      refine g_M_3 hx hb hts hown hK hP hwf hj0 (hts _ u_1744) d_M_map_123 ?_
      refine lv_iload_n hx hb d_M_map_126 rfl (lv_at hl 2 rfl) ?_
      obtain ⟨g21, h⟩ := gd_ob h
      obtain ⟨M22, eM22, h⟩ := st_ob h
      refine me_iast eM22 hx hb hK hP hD hwf hS hj19 (kp_z hkb.z hkp.z g21) d_M_map_127 (fun H locs hP hD hwf hS => ?_)
      have hkp := kp_I eM22 hkp
      refine lv_aload_n hx hb d_M_map_128 rfl (lv_at hl 0 rfl) ?_
      refine g_M_7 hx hb hts hown hK hP hwf hj0 (hts _ u_1748) d_M_map_129 ?_
      obtain ⟨j23, e24, h⟩ := bd_ob h
      have hj23 : j23 < N 13 := (hwf.2.1 1 j0 7 _ (kp_r hkb hkp e24) (by decide) hj0)
      refine me_opt (j := j23) (kp_r hkb hkp e24) ?_
      refine lv_aload_n hx hb d_M_map_132 rfl (lv_at hl 0 rfl) ?_
      refine g_M_3 hx hb hts hown hK hP hwf hj0 (hts _ u_1744) d_M_map_133 ?_
      refine lv_iload_n hx hb d_M_map_136 rfl (lv_at hl 3 rfl) ?_
      obtain ⟨g25, h⟩ := gd_ob h
      obtain ⟨M26, eM26, h⟩ := st_ob h
      refine me_iast eM26 hx hb hK hP hD hwf hS hj23 (kp_z hkb.z hkp.z g25) d_M_map_137 (fun H locs hP hD hwf hS => ?_)
      have hkp := kp_I eM26 hkp
      refine lv_aload_n hx hb d_M_map_138 rfl (lv_at hl 0 rfl) ?_
      refine g_M_8 hx hb hts hown hK hP hwf hj0 (hts _ u_1749) d_M_map_139 ?_
      obtain ⟨j27, e28, h⟩ := bd_ob h
      have hj27 : j27 < N 13 := (hwf.2.1 1 j0 8 _ (kp_r hkb hkp e28) (by decide) hj0)
      refine me_opt (j := j27) (kp_r hkb hkp e28) ?_
      refine lv_aload_n hx hb d_M_map_142 rfl (lv_at hl 0 rfl) ?_
      refine g_M_3 hx hb hts hown hK hP hwf hj0 (hts _ u_1744) d_M_map_143 ?_
      refine lv_iload hx hb d_M_map_146 (lv_at hl 4 rfl) ?_
      obtain ⟨g29, h⟩ := gd_ob h
      obtain ⟨M30, eM30, h⟩ := st_ob h
      refine me_iast eM30 hx hb hK hP hD hwf hS hj27 (kp_z hkb.z hkp.z g29) d_M_map_148 (fun H locs hP hD hwf hS => ?_)
      have hkp := kp_I eM30 hkp
      refine lv_iconst (v := 0) hx hb d_M_map_149 (by decide) ?_
      refine lv_istore (lv' := [(6, .int 0), (0, .ref (ad 1 j0)), (1, .int x1), (2, .int x2), (3, .int x3), (4, .int x4)]) hx hb d_M_map_150 hl (by decide) rfl (fun ls hl => ?_)
      exact b_152 _ M30 (0 : Int32) _ _ _ h hwf hkp hP hD hS (lv_sub hl [1, 2, 5, 0] rfl)
    have h := if_f c14 h
    refine lv_iconst (v := 0) hx hb d_M_map_106 (by decide) ?_
    exact me_reti (me_kp M0) h hx hb hr hlocks hwf hkp hP hK hD hS d_M_map_107
  have b_91 : ∀ (M : me_M) (s0 : Nat) (H : Heap) (locs : List Loc) (ls : Array Slot), f_M_map_b91 j0 x1 x2 x3 x4 M s0 = (some (MZ, RZ)) → (s0 < N 1) → me_wf N M → me_kp M0 M → va_P D classes (me_W ad ca M) H → va_D A (me_W ad ca M) → va_S A s.heap H locs → lv_has ls 7 [(0, .ref (ad 1 j0)), (1, .int x1), (2, .int x2), (3, .int x3), (4, .int x4)] → W p l e rm_M_map s m [.ref (ad 1 j0), .int x1, .int x2, .int x3, .int x4].toArray below meth c H locs 0 0 (MQ below (q_M_map D ad ca N M0 MZ RZ A) [.ref (ad 1 j0), .int x1, .int x2, .int x3, .int x4].toArray s rm_M_map.cells rm_M_map.slots A) (F0 m 91 ls [.ref (ad 1 s0)]) := by
    intro M s0 H locs ls h hs0 hwf hkp hP hD hS hl
    unfold f_M_map_b91 at h
    have hkb := hkp
    refine lv_iconst (v := 2) hx hb d_M_map_91 (by decide) ?_
    refine lv_goto (tgt := 96) hx hb d_M_map_92 (by decide) ?_
    exact b_96 M (2 : Int32) s0 _ _ _ h hs0 hwf hkp hP hD hS (lv_sub hl [0, 1, 2, 3, 4] rfl)
  have b_64 : ∀ (M : me_M) (s0 : Int32) (H : Heap) (locs : List Loc) (ls : Array Slot), f_M_map_b64 j0 x1 x2 x3 x4 M s0 = (some (MZ, RZ)) → (s0 = 1 ∨ s0 = 0) → me_wf N M → me_kp M0 M → va_P D classes (me_W ad ca M) H → va_D A (me_W ad ca M) → va_S A s.heap H locs → lv_has ls 7 [(0, .ref (ad 1 j0)), (1, .int x1), (2, .int x2), (3, .int x3), (4, .int x4)] → W p l e rm_M_map s m [.ref (ad 1 j0), .int x1, .int x2, .int x3, .int x4].toArray below meth c H locs 0 0 (MQ below (q_M_map D ad ca N M0 MZ RZ A) [.ref (ad 1 j0), .int x1, .int x2, .int x3, .int x4].toArray s rm_M_map.cells rm_M_map.slots A) (F0 m 64 ls [.int s0]) := by
    intro M s0 H locs ls h zs0 hwf hkp hP hD hS hl
    unfold f_M_map_b64 at h
    have hkb := hkp
    refine lv_istore (lv' := [(5, .int s0), (0, .ref (ad 1 j0)), (1, .int x1), (2, .int x2), (3, .int x3), (4, .int x4)]) hx hb d_M_map_64 hl (by decide) rfl (fun ls hl => ?_)
    refine lv_aload_n hx hb d_M_map_66 rfl (lv_at hl 1 rfl) ?_
    refine lv_iload hx hb d_M_map_67 (lv_at hl 0 rfl) ?_
    refine lv_if_ne (tgt := 76) hx hb d_M_map_69 (by decide) (fun c31 => ?_) (fun c31 => ?_)
    · have h := if_f c31 h
      refine lv_aload_n hx hb d_M_map_76 rfl (lv_at hl 1 rfl) ?_
      refine g_M_3 hx hb hts hown hK hP hwf hj0 (hts _ u_1744) d_M_map_77 ?_
      refine lv_iconst (v := 4) hx hb d_M_map_80 (by decide) ?_
      refine lv_icmp_eq (tgt := 91) hx hb d_M_map_81 (by decide) (fun c32 => ?_) (fun c32 => ?_)
      · have h := if_t c32 h
        exact b_91 M j0 _ _ _ h hj0 hwf hkp hP hD hS (lv_sub hl [1, 2, 3, 4, 5] rfl)
      have h := if_f c32 h
      refine lv_aload_n hx hb d_M_map_84 rfl (lv_at hl 1 rfl) ?_
      refine g_M_4 hx hb hts hown hK hP hwf hj0 (hts _ u_1745) d_M_map_85 ?_
      have z33 := (hwf.2.2.2 1 j0 4 rfl)
      refine lv_if_eq (tgt := 95) hx hb d_M_map_88 (by decide) (fun c34 => ?_) (fun c34 => ?_)
      · have h := if_t c34 h
        refine lv_iconst (v := 0) hx hb d_M_map_95 (by decide) ?_
        exact b_96 M (0 : Int32) j0 _ _ _ h hj0 hwf hkp hP hD hS (lv_sub hl [1, 2, 3, 4, 5] rfl)
      have h := if_f c34 h
      exact b_91 M j0 _ _ _ h hj0 hwf hkp hP hD hS (lv_sub hl [1, 2, 3, 4, 5] rfl)
    have h := if_t c31 h
    refine lv_iconst (v := 1) hx hb d_M_map_72 (by decide) ?_
    refine lv_goto (tgt := 96) hx hb d_M_map_73 (by decide) ?_
    exact b_96 M (1 : Int32) j0 _ _ _ h hj0 hwf hkp hP hD hS (lv_sub hl [1, 2, 3, 4, 5] rfl)
  have b_63 : ∀ (M : me_M) (H : Heap) (locs : List Loc) (ls : Array Slot), f_M_map_b63 j0 x1 x2 x3 x4 M = (some (MZ, RZ)) → me_wf N M → me_kp M0 M → va_P D classes (me_W ad ca M) H → va_D A (me_W ad ca M) → va_S A s.heap H locs → lv_has ls 7 [(0, .ref (ad 1 j0)), (1, .int x1), (2, .int x2), (3, .int x3), (4, .int x4)] → W p l e rm_M_map s m [.ref (ad 1 j0), .int x1, .int x2, .int x3, .int x4].toArray below meth c H locs 0 0 (MQ below (q_M_map D ad ca N M0 MZ RZ A) [.ref (ad 1 j0), .int x1, .int x2, .int x3, .int x4].toArray s rm_M_map.cells rm_M_map.slots A) (F0 m 63 ls []) := by
    intro M H locs ls h hwf hkp hP hD hS hl
    unfold f_M_map_b63 at h
    have hkb := hkp
    refine lv_iconst (v := 0) hx hb d_M_map_63 (by decide) ?_
    exact b_64 M (0 : Int32) _ _ _ h (by decide) hwf hkp hP hD hS (lv_sub hl [0, 1, 2, 3, 4] rfl)
  have b_34 : ∀ (M : me_M) (H : Heap) (locs : List Loc) (ls : Array Slot), f_M_map_b34 j0 x1 x2 x3 x4 M = (some (MZ, RZ)) → me_wf N M → me_kp M0 M → va_P D classes (me_W ad ca M) H → va_D A (me_W ad ca M) → va_S A s.heap H locs → lv_has ls 7 [(0, .ref (ad 1 j0)), (1, .int x1), (2, .int x2), (3, .int x3), (4, .int x4)] → W p l e rm_M_map s m [.ref (ad 1 j0), .int x1, .int x2, .int x3, .int x4].toArray below meth c H locs 0 0 (MQ below (q_M_map D ad ca N M0 MZ RZ A) [.ref (ad 1 j0), .int x1, .int x2, .int x3, .int x4].toArray s rm_M_map.cells rm_M_map.slots A) (F0 m 34 ls []) := by
    intro M H locs ls h hwf hkp hP hD hS hl
    unfold f_M_map_b34 at h
    have hkb := hkp
    refine lv_iload_n hx hb d_M_map_34 rfl (lv_at hl 3 rfl) ?_
    refine lv_i2l (v := x3.toInt64) hx hb d_M_map_35 rfl ?_
    refine lv_lconst (v := 1) hx hb d_M_map_36 (by decide) ?_
    refine lv_ldc2 hx hb hown (hts _ u_2127) d_M_map_37 ?_
    obtain ⟨r35, er35, h⟩ := bd_ob h
    refine me_pani' (r0 := r35) (fg_runS (wc := []) (tc := []) (A2 := A) (As := [.long x3.toInt64, .long 1, .long 64]) (rest := []) ⟨hx, hb, hml, hown, hts⟩ (c_M_in l D r35 x3.toInt64 (1 : Int64) (64 : Int64) er35 _) (by show fg_nm y_M_in 3; decide +kernel) u_1976 u_1977 u_192 u_1978 ⟨Nat.le_of_ble_eq_true rfl, Nat.le_of_ble_eq_true rfl⟩ hX me_P0 (hK.sub (tys' := []) [] rfl) me_D0 rfl hl.1 (Nat.le_of_ble_eq_true rfl) d_M_map_40 ⟨Nat.le_of_ble_eq_true rfl, Nat.le_of_ble_eq_true rfl⟩) hP hD hK hS hA rfl rfl (fun H locs hw hP hD hS => ?_)
    have zr35 := hw
    refine lv_if_eq (tgt := 63) hx hb d_M_map_43 (by decide) (fun c36 => ?_) (fun c36 => ?_)
    · have h := if_t c36 h
      exact b_63 M _ _ _ h hwf hkp hP hD hS (lv_sub hl [0, 1, 2, 3, 4] rfl)
    have h := if_f c36 h
    refine lv_iload hx hb d_M_map_46 (lv_at hl 4 rfl) ?_
    refine lv_i2l (v := x4.toInt64) hx hb d_M_map_48 rfl ?_
    refine lv_lconst (v := 1) hx hb d_M_map_49 (by decide) ?_
    refine lv_ldc2 hx hb hown (hts _ u_2127) d_M_map_50 ?_
    obtain ⟨r37, er37, h⟩ := bd_ob h
    refine me_pani' (r0 := r37) (fg_runS (wc := []) (tc := []) (A2 := A) (As := [.long x4.toInt64, .long 1, .long 64]) (rest := []) ⟨hx, hb, hml, hown, hts⟩ (c_M_in l D r37 x4.toInt64 (1 : Int64) (64 : Int64) er37 _) (by show fg_nm y_M_in 3; decide +kernel) u_1976 u_1977 u_192 u_1978 ⟨Nat.le_of_ble_eq_true rfl, Nat.le_of_ble_eq_true rfl⟩ hX me_P0 (hK.sub (tys' := []) [] rfl) me_D0 rfl hl.1 (Nat.le_of_ble_eq_true rfl) d_M_map_53 ⟨Nat.le_of_ble_eq_true rfl, Nat.le_of_ble_eq_true rfl⟩) hP hD hK hS hA rfl rfl (fun H locs hw hP hD hS => ?_)
    have zr37 := hw
    refine lv_if_eq (tgt := 63) hx hb d_M_map_56 (by decide) (fun c38 => ?_) (fun c38 => ?_)
    · have h := if_t c38 h
      exact b_63 M _ _ _ h hwf hkp hP hD hS (lv_sub hl [0, 1, 2, 3, 4] rfl)
    have h := if_f c38 h
    refine lv_iconst (v := 1) hx hb d_M_map_59 (by decide) ?_
    refine lv_goto (tgt := 64) hx hb d_M_map_60 (by decide) ?_
    exact b_64 M (1 : Int32) _ _ _ h (by decide) hwf hkp hP hD hS (lv_sub hl [0, 1, 2, 3, 4] rfl)
  refine lv_iload_n hx hb d_M_map_0 rfl (lv_at hl 1 rfl) ?_
  refine lv_i2l (v := x1.toInt64) hx hb d_M_map_1 rfl ?_
  refine lv_lconst (v := 0) hx hb d_M_map_2 (by decide) ?_
  refine lv_lconst (v := 1) hx hb d_M_map_3 (by decide) ?_
  obtain ⟨r39, er39, h⟩ := bd_ob h
  refine me_pani' (r0 := r39) (fg_runS (wc := []) (tc := []) (A2 := A) (As := [.long x1.toInt64, .long 0, .long 1]) (rest := []) ⟨hx, hb, hml, hown, hts⟩ (c_M_in l D r39 x1.toInt64 (0 : Int64) (1 : Int64) er39 _) (by show fg_nm y_M_in 3; decide +kernel) u_1976 u_1977 u_192 u_1978 ⟨Nat.le_of_ble_eq_true rfl, Nat.le_of_ble_eq_true rfl⟩ hX me_P0 (hK.sub (tys' := []) [] rfl) me_D0 rfl hl.1 (Nat.le_of_ble_eq_true rfl) d_M_map_4 ⟨Nat.le_of_ble_eq_true rfl, Nat.le_of_ble_eq_true rfl⟩) hP hD hK hS hA rfl rfl (fun H locs hw hP hD hS => ?_)
  have zr39 := hw
  refine lv_if_eq (tgt := 63) hx hb d_M_map_7 (by decide) (fun c40 => ?_) (fun c40 => ?_)
  · have h := if_t c40 h
    exact b_63 M0 _ _ _ h hwf hkp hP hD hS (lv_sub hl [0, 1, 2, 3, 4] rfl)
  have h := if_f c40 h
  refine lv_iload_n hx hb d_M_map_10 rfl (lv_at hl 1 rfl) ?_
  refine lv_if_ne (tgt := 22) hx hb d_M_map_11 (by decide) (fun c41 => ?_) (fun c41 => ?_)
  · have h := if_f c41 h
    refine lv_iload_n hx hb d_M_map_22 rfl (lv_at hl 2 rfl) ?_
    refine lv_i2l (v := x2.toInt64) hx hb d_M_map_23 rfl ?_
    refine lv_lconst (v := 1) hx hb d_M_map_24 (by decide) ?_
    refine lv_ldc2 hx hb hown (hts _ u_2128) d_M_map_25 ?_
    obtain ⟨r42, er42, h⟩ := bd_ob h
    refine me_pani' (r0 := r42) (fg_runS (wc := []) (tc := []) (A2 := A) (As := [.long x2.toInt64, .long 1, .long 16]) (rest := []) ⟨hx, hb, hml, hown, hts⟩ (c_M_in l D r42 x2.toInt64 (1 : Int64) (16 : Int64) er42 _) (by show fg_nm y_M_in 3; decide +kernel) u_1976 u_1977 u_192 u_1978 ⟨Nat.le_of_ble_eq_true rfl, Nat.le_of_ble_eq_true rfl⟩ hX me_P0 (hK.sub (tys' := []) [] rfl) me_D0 rfl hl.1 (Nat.le_of_ble_eq_true rfl) d_M_map_28 ⟨Nat.le_of_ble_eq_true rfl, Nat.le_of_ble_eq_true rfl⟩) hP hD hK hS hA rfl rfl (fun H locs hw hP hD hS => ?_)
    have zr42 := hw
    refine lv_if_eq (tgt := 63) hx hb d_M_map_31 (by decide) (fun c43 => ?_) (fun c43 => ?_)
    · have h := if_t c43 h
      exact b_63 M0 _ _ _ h hwf hkp hP hD hS (lv_sub hl [0, 1, 2, 3, 4] rfl)
    have h := if_f c43 h
    exact b_34 M0 _ _ _ h hwf hkp hP hD hS (lv_sub hl [0, 1, 2, 3, 4] rfl)
  have h := if_t c41 h
  refine lv_iload_n hx hb d_M_map_14 rfl (lv_at hl 2 rfl) ?_
  refine lv_iconst (v := 4) hx hb d_M_map_15 (by decide) ?_
  refine lv_icmp_ne (tgt := 63) hx hb d_M_map_16 (by decide) (fun c44 => ?_) (fun c44 => ?_)
  · have h := if_f c44 h
    exact b_63 M0 _ _ _ h hwf hkp hP hD hS (lv_sub hl [0, 1, 2, 3, 4] rfl)
  have h := if_t c44 h
  refine lv_goto (tgt := 34) hx hb d_M_map_19 (by decide) ?_
  exact b_34 M0 _ _ _ h hwf hkp hP hD hS (lv_sub hl [0, 1, 2, 3, 4] rfl)
