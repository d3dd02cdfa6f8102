theorem d_Facts_answer_15 : decode prog_6_method_6_code 15 = .ok (.istore_n 3, 1) := by decide +kernel
theorem d_Facts_answer_16 : decode prog_6_method_6_code 16 = .ok (.iload_n 2, 1) := by decide +kernel
theorem d_Facts_answer_17 : decode prog_6_method_6_code 17 = .ok (.tableswitch 79 0 3 #[31, 39, 54, 69], 31) := by decide +kernel
theorem d_Facts_answer_48 : decode prog_6_method_6_code 48 = .ok (.aload_n 0, 1) := by decide +kernel
theorem d_Facts_answer_49 : decode prog_6_method_6_code 49 = .ok (.getfield 9, 3) := by decide +kernel
theorem d_Facts_answer_52 : decode prog_6_method_6_code 52 = .ok (.iload_n 1, 1) := by decide +kernel
theorem d_Facts_answer_53 : decode prog_6_method_6_code 53 = .ok (.iaload, 1) := by decide +kernel
theorem d_Facts_answer_54 : decode prog_6_method_6_code 54 = .ok (.i2l, 1) := by decide +kernel
theorem d_Facts_answer_55 : decode prog_6_method_6_code 55 = .ok (.lreturn, 1) := by decide +kernel
theorem d_Facts_answer_56 : decode prog_6_method_6_code 56 = .ok (.aload_n 0, 1) := by decide +kernel
theorem d_Facts_answer_57 : decode prog_6_method_6_code 57 = .ok (.getfield 15, 3) := by decide +kernel
theorem d_Facts_answer_60 : decode prog_6_method_6_code 60 = .ok (.iload_n 1, 1) := by decide +kernel
theorem d_Facts_answer_61 : decode prog_6_method_6_code 61 = .ok (.baload, 1) := by decide +kernel
theorem d_Facts_answer_62 : decode prog_6_method_6_code 62 = .ok (.ifCond .eq 7, 3) := by decide +kernel
theorem d_Facts_answer_69 : decode prog_6_method_6_code 69 = .ok (.lconst 0, 1) := by decide +kernel
theorem d_Facts_answer_70 : decode prog_6_method_6_code 70 = .ok (.lreturn, 1) := by decide +kernel
theorem d_Facts_answer_65 : decode prog_6_method_6_code 65 = .ok (.lconst 1, 1) := by decide +kernel
theorem d_Facts_answer_66 : decode prog_6_method_6_code 66 = .ok (.goto 4, 3) := by decide +kernel
theorem d_Facts_answer_71 : decode prog_6_method_6_code 71 = .ok (.aload_n 0, 1) := by decide +kernel
theorem d_Facts_answer_72 : decode prog_6_method_6_code 72 = .ok (.getfield 19, 3) := by decide +kernel
theorem d_Facts_answer_75 : decode prog_6_method_6_code 75 = .ok (.iload_n 1, 1) := by decide +kernel
theorem d_Facts_answer_76 : decode prog_6_method_6_code 76 = .ok (.baload, 1) := by decide +kernel
theorem d_Facts_answer_77 : decode prog_6_method_6_code 77 = .ok (.ifCond .eq 7, 3) := by decide +kernel
theorem d_Facts_answer_84 : decode prog_6_method_6_code 84 = .ok (.lconst 0, 1) := by decide +kernel
theorem d_Facts_answer_85 : decode prog_6_method_6_code 85 = .ok (.lreturn, 1) := by decide +kernel
theorem d_Facts_answer_80 : decode prog_6_method_6_code 80 = .ok (.lconst 1, 1) := by decide +kernel
theorem d_Facts_answer_81 : decode prog_6_method_6_code 81 = .ok (.goto 4, 3) := by decide +kernel
theorem d_Facts_answer_86 : decode prog_6_method_6_code 86 = .ok (.iload_n 3, 1) := by decide +kernel
theorem d_Facts_answer_87 : decode prog_6_method_6_code 87 = .ok (.ifCond .eq 7, 3) := by decide +kernel
theorem d_Facts_answer_94 : decode prog_6_method_6_code 94 = .ok (.lconst 0, 1) := by decide +kernel
theorem d_Facts_answer_95 : decode prog_6_method_6_code 95 = .ok (.lreturn, 1) := by decide +kernel
theorem d_Facts_answer_90 : decode prog_6_method_6_code 90 = .ok (.lconst 1, 1) := by decide +kernel
theorem d_Facts_answer_91 : decode prog_6_method_6_code 91 = .ok (.goto 4, 3) := by decide +kernel
theorem d_Facts_answer_96 : decode prog_6_method_6_code 96 = .ok (.iload_n 3, 1) := by decide +kernel
theorem d_Facts_answer_97 : decode prog_6_method_6_code 97 = .ok (.ifCond .eq 12, 3) := by decide +kernel
theorem d_Facts_answer_109 : decode prog_6_method_6_code 109 = .ok (.lconst 0, 1) := by decide +kernel
theorem d_Facts_answer_110 : decode prog_6_method_6_code 110 = .ok (.lreturn, 1) := by decide +kernel
theorem d_Facts_answer_100 : decode prog_6_method_6_code 100 = .ok (.aload_n 0, 1) := by decide +kernel
theorem d_Facts_answer_101 : decode prog_6_method_6_code 101 = .ok (.getfield 25, 3) := by decide +kernel
theorem d_Facts_answer_104 : decode prog_6_method_6_code 104 = .ok (.iload_n 1, 1) := by decide +kernel
theorem d_Facts_answer_105 : decode prog_6_method_6_code 105 = .ok (.laload, 1) := by decide +kernel
theorem d_Facts_answer_106 : decode prog_6_method_6_code 106 = .ok (.goto 4, 3) := by decide +kernel
theorem d_Facts_answer_0 : decode prog_6_method_6_code 0 = .ok (.aload_n 0, 1) := by decide +kernel
theorem d_Facts_answer_1 : decode prog_6_method_6_code 1 = .ok (.getfield 22, 3) := by decide +kernel
theorem d_Facts_answer_4 : decode prog_6_method_6_code 4 = .ok (.iload_n 1, 1) := by decide +kernel
theorem d_Facts_answer_5 : decode prog_6_method_6_code 5 = .ok (.iaload, 1) := by decide +kernel
theorem d_Facts_answer_6 : decode prog_6_method_6_code 6 = .ok (.iconst 1, 1) := by decide +kernel
theorem d_Facts_answer_7 : decode prog_6_method_6_code 7 = .ok (.if_icmp .ne 7, 3) := by decide +kernel
theorem d_Facts_answer_14 : decode prog_6_method_6_code 14 = .ok (.iconst 0, 1) := by decide +kernel
theorem d_Facts_answer_10 : decode prog_6_method_6_code 10 = .ok (.iconst 1, 1) := by decide +kernel
theorem d_Facts_answer_11 : decode prog_6_method_6_code 11 = .ok (.goto 4, 3) := by decide +kernel
abbrev y_Facts_answer : MethodName := ⟨"FilterGuard$Facts", "answer", "(II)J"⟩
def rm_Facts_answer : Room := { frames := 1, cells := 0, slots := 0, locals := 20 }
abbrev q_Facts_answer (D : va_G) (ad : Nat → Nat → Nat) (ca : Nat → ClassId) (N : Nat → Nat) (M0 MZ : me_M) (RZ : Int64) (A : Nat → Prop) : Array Value → Jvm.State → Outcome → Jvm.State → Prop := va_Ql (fun r (_ : Unit) => r = RZ ∧ me_wf N MZ ∧ me_kp M0 MZ) (fg_B D A (fun _ => me_W ad ca MZ) (fun _ => [])) A
set_option maxHeartbeats 4000000 in
set_option maxRecDepth 100000 in
theorem c_Facts_answer (l : Launch) (D : va_G) (ad : Nat → Nat → Nat) (ca : Nat → ClassId) (N : Nat → Nat) (M0 MZ : me_M) (RZ : Int64) (j0 : Nat) (x1 : Int32) (x2 : Int32) (h : f_Facts_answer M0 j0 x1 x2 = (some (MZ, RZ))) (hwf : me_wf N M0) (hj0 : j0 < N 3) (sz : Nat) : Met l y_Facts_answer (fg_w y_Facts_answer prog_6_method_6_code 4 (some .long)) rm_Facts_answer (va_Pc [.ref (ad 3 j0), .int x1, .int x2] (fz_P D (me_T ca) (me_W ad ca M0) sz)) (q_Facts_answer D ad ca N M0 MZ RZ (va_A (me_W ad ca M0) sz)) rm_Facts_answer.cells rm_Facts_answer.slots (va_A (me_W ad ca M0) sz) := by
  refine fz_enter (fun A => q_Facts_answer D ad ca N M0 MZ RZ A) (by decide +kernel) (Nat.le_of_ble_eq_true rfl) ?_
  intro p e s m below meth c ls A hx hb hml hown hts hr hlocks hin hP hK hD hS hA hX hl hz
  have hl : lv_has ls 4 [(0, .ref (ad 3 j0)), (1, .int x1), (2, .int x2)] := hl
  unfold f_Facts_answer at h
  have hkp : me_kp M0 M0 := me_kp.rf
  have hkb := hkp
  have b_15 : ∀ (M : me_M) (s0 : Int32) (H : Heap) (locs : List Loc) (ls : Array Slot), f_Facts_answer_b15 j0 x1 x2 M s0 = (some (MZ, RZ)) → (s0 = 1 ∨ s0 = 0) → me_wf N M → me_kp M0 M → va_P D classes (me_W ad ca M) H → va_D A (me_W ad ca M) → va_S A s.heap H locs → lv_has ls 4 [(0, .ref (ad 3 j0)), (1, .int x1), (2, .int x2)] → W p l e rm_Facts_answer s m [.ref (ad 3 j0), .int x1, .int x2].toArray below meth c H locs 0 0 (MQ below (q_Facts_answer D ad ca N M0 MZ RZ A) [.ref (ad 3 j0), .int x1, .int x2].toArray s rm_Facts_answer.cells rm_Facts_answer.slots A) (F0 m 15 ls [.int s0]) := by
    intro M s0 H locs ls h zs0 hwf hkp hP hD hS hl
    unfold f_Facts_answer_b15 at h
    have hkb := hkp
    refine lv_istore_n (lv' := [(3, .int s0), (0, .ref (ad 3 j0)), (1, .int x1), (2, .int x2)]) hx hb d_Facts_answer_15 rfl hl (by decide) rfl (fun ls hl => ?_)
    refine lv_iload_n hx hb d_Facts_answer_16 rfl (lv_at hl 3 rfl) ?_
    refine lv_topi (fun w1 ew1 => ?_)
    by_cases n2 : w1 = 0
    · have h := if_t (ew1.symm.trans n2) h
      subst n2
      refine lv_tableIn (off := 31) (tgt := 48) hx hb d_Facts_answer_17 (by decide) (by decide) (by decide) (by decide) ?_
      refine lv_aload_n hx hb d_Facts_answer_48 rfl (lv_at hl 1 rfl) ?_
      refine g_Facts_0 hx hb hts hown hK hP hwf hj0 (hts _ u_318) d_Facts_answer_49 ?_
      obtain ⟨j3, e4, h⟩ := bd_ob h
      have hj3 : j3 < N 13 := (hwf.2.1 3 j0 0 _ e4 (by decide) hj0)
      refine me_opt (j := j3) e4 ?_
      refine lv_iload_n hx hb d_Facts_answer_52 rfl (lv_at hl 2 rfl) ?_
      obtain ⟨g5, h⟩ := gd_ob h
      refine me_iald hx hb hK hP hwf hj3 g5 d_Facts_answer_53 ?_
      refine lv_i2l (v := (mI M 13 j3 x1.toNatClampNeg).toInt64) hx hb d_Facts_answer_54 rfl ?_
      exact me_retl (me_kp M0) h hx hb hr hlocks hwf hkp hP hK hD hS d_Facts_answer_55
    have h := if_f (fun z => n2 (ew1.trans z)) h
    by_cases n6 : w1 = 1
    · have h := if_t (ew1.symm.trans n6) h
      subst n6
      refine lv_tableIn (off := 39) (tgt := 56) hx hb d_Facts_answer_17 (by decide) (by decide) (by decide) (by decide) ?_
      refine lv_aload_n hx hb d_Facts_answer_56 rfl (lv_at hl 1 rfl) ?_
      refine g_Facts_1 hx hb hts hown hK hP hwf hj0 (hts _ u_319) d_Facts_answer_57 ?_
      obtain ⟨j7, e8, h⟩ := bd_ob h
      have hj7 : j7 < N 15 := (hwf.2.1 3 j0 1 _ e8 (by decide) hj0)
      refine me_opt (j := j7) e8 ?_
      refine lv_iload_n hx hb d_Facts_answer_60 rfl (lv_at hl 2 rfl) ?_
      obtain ⟨g9, h⟩ := gd_ob h
      refine me_zald hx hb hK hP hwf hj7 g9 d_Facts_answer_61 ?_
      have z10 := hwf.2.2.2 15 j7 x1.toNatClampNeg rfl
      refine lv_if_eq (tgt := 69) hx hb d_Facts_answer_62 (by decide) (fun c11 => ?_) (fun c11 => ?_)
      · have h := if_t c11 h
        refine lv_lconst (v := 0) hx hb d_Facts_answer_69 (by decide) ?_
        exact me_retl (me_kp M0) h hx hb hr hlocks hwf hkp hP hK hD hS d_Facts_answer_70
      have h := if_f c11 h
      refine lv_lconst (v := 1) hx hb d_Facts_answer_65 (by decide) ?_
      refine lv_goto (tgt := 70) hx hb d_Facts_answer_66 (by decide) ?_
      exact me_retl (me_kp M0) h hx hb hr hlocks hwf hkp hP hK hD hS d_Facts_answer_70
    have h := if_f (fun z => n6 (ew1.trans z)) h
    by_cases n12 : w1 = 2
    · have h := if_t (ew1.symm.trans n12) h
      subst n12
      refine lv_tableIn (off := 54) (tgt := 71) hx hb d_Facts_answer_17 (by decide) (by decide) (by decide) (by decide) ?_
      refine lv_aload_n hx hb d_Facts_answer_71 rfl (lv_at hl 1 rfl) ?_
      refine g_Facts_2 hx hb hts hown hK hP hwf hj0 (hts _ u_320) d_Facts_answer_72 ?_
      obtain ⟨j13, e14, h⟩ := bd_ob h
      have hj13 : j13 < N 15 := (hwf.2.1 3 j0 2 _ e14 (by decide) hj0)
      refine me_opt (j := j13) e14 ?_
      refine lv_iload_n hx hb d_Facts_answer_75 rfl (lv_at hl 2 rfl) ?_
      obtain ⟨g15, h⟩ := gd_ob h
      refine me_zald hx hb hK hP hwf hj13 g15 d_Facts_answer_76 ?_
      have z16 := hwf.2.2.2 15 j13 x1.toNatClampNeg rfl
      refine lv_if_eq (tgt := 84) hx hb d_Facts_answer_77 (by decide) (fun c17 => ?_) (fun c17 => ?_)
      · have h := if_t c17 h
        refine lv_lconst (v := 0) hx hb d_Facts_answer_84 (by decide) ?_
        exact me_retl (me_kp M0) h hx hb hr hlocks hwf hkp hP hK hD hS d_Facts_answer_85
      have h := if_f c17 h
      refine lv_lconst (v := 1) hx hb d_Facts_answer_80 (by decide) ?_
      refine lv_goto (tgt := 85) hx hb d_Facts_answer_81 (by decide) ?_
      exact me_retl (me_kp M0) h hx hb hr hlocks hwf hkp hP hK hD hS d_Facts_answer_85
    have h := if_f (fun z => n12 (ew1.trans z)) h
    by_cases n18 : w1 = 3
    · have h := if_t (ew1.symm.trans n18) h
      subst n18
      refine lv_tableIn (off := 69) (tgt := 86) hx hb d_Facts_answer_17 (by decide) (by decide) (by decide) (by decide) ?_
      refine lv_iload_n hx hb d_Facts_answer_86 rfl (lv_at hl 0 rfl) ?_
      refine lv_if_eq (tgt := 94) hx hb d_Facts_answer_87 (by decide) (fun c19 => ?_) (fun c19 => ?_)
      · have h := if_t c19 h
        refine lv_lconst (v := 0) hx hb d_Facts_answer_94 (by decide) ?_
        exact me_retl (me_kp M0) h hx hb hr hlocks hwf hkp hP hK hD hS d_Facts_answer_95
      have h := if_f c19 h
      refine lv_lconst (v := 1) hx hb d_Facts_answer_90 (by decide) ?_
      refine lv_goto (tgt := 95) hx hb d_Facts_answer_91 (by decide) ?_
      exact me_retl (me_kp M0) h hx hb hr hlocks hwf hkp hP hK hD hS d_Facts_answer_95
    have h := if_f (fun z => n18 (ew1.trans z)) h
    have in2 := lv_neT n2 (show (0 : Int32).toInt = 0 from rfl)
    have in6 := lv_neT n6 (show (1 : Int32).toInt = 1 from rfl)
    have in12 := lv_neT n12 (show (2 : Int32).toInt = 2 from rfl)
    have in18 := lv_neT n18 (show (3 : Int32).toInt = 3 from rfl)
    refine lv_tableOut (tgt := 96) hx hb d_Facts_answer_17 (by omega) (by decide) ?_
    refine lv_iload_n hx hb d_Facts_answer_96 rfl (lv_at hl 0 rfl) ?_
    refine lv_if_eq (tgt := 109) hx hb d_Facts_answer_97 (by decide) (fun c20 => ?_) (fun c20 => ?_)
    · have h := if_t c20 h
      refine lv_lconst (v := 0) hx hb d_Facts_answer_109 (by decide) ?_
      exact me_retl (me_kp M0) h hx hb hr hlocks hwf hkp hP hK hD hS d_Facts_answer_110
    have h := if_f c20 h
    refine lv_aload_n hx hb d_Facts_answer_100 rfl (lv_at hl 1 rfl) ?_
    refine g_Facts_4 hx hb hts hown hK hP hwf hj0 (hts _ u_322) d_Facts_answer_101 ?_
    obtain ⟨j21, e22, h⟩ := bd_ob h
    have hj21 : j21 < N 16 := (hwf.2.1 3 j0 4 _ e22 (by decide) hj0)
    refine me_opt (j := j21) e22 ?_
    refine lv_iload_n hx hb d_Facts_answer_104 rfl (lv_at hl 2 rfl) ?_
    obtain ⟨g23, h⟩ := gd_ob h
    refine me_lald hx hb hK hP hwf hj21 g23 d_Facts_answer_105 ?_
    refine lv_goto (tgt := 110) hx hb d_Facts_answer_106 (by decide) ?_
    exact me_retl (me_kp M0) h hx hb hr hlocks hwf hkp hP hK hD hS d_Facts_answer_110
  refine lv_aload_n hx hb d_Facts_answer_0 rfl (lv_at hl 0 rfl) ?_
  refine g_Facts_3 hx hb hts hown hK hP hwf hj0 (hts _ u_321) d_Facts_answer_1 ?_
  obtain ⟨j24, e25, h⟩ := bd_ob h
  have hj24 : j24 < N 13 := (hwf.2.1 3 j0 3 _ e25 (by decide) hj0)
  refine me_opt (j := j24) e25 ?_
  refine lv_iload_n hx hb d_Facts_answer_4 rfl (lv_at hl 1 rfl) ?_
  obtain ⟨g26, h⟩ := gd_ob h
  refine me_iald hx hb hK hP hwf hj24 g26 d_Facts_answer_5 ?_
  refine lv_iconst (v := 1) hx hb d_Facts_answer_6 (by decide) ?_
  refine lv_icmp_ne (tgt := 14) hx hb d_Facts_answer_7 (by decide) (fun c27 => ?_) (fun c27 => ?_)
  · have h := if_f c27 h
    refine lv_iconst (v := 0) hx hb d_Facts_answer_14 (by decide) ?_
    exact b_15 M0 (0 : Int32) _ _ _ h (by decide) hwf hkp hP hD hS (lv_sub hl [0, 1, 2] rfl)
  have h := if_t c27 h
  refine lv_iconst (v := 1) hx hb d_Facts_answer_10 (by decide) ?_
  refine lv_goto (tgt := 15) hx hb d_Facts_answer_11 (by decide) ?_
  exact b_15 M0 (1 : Int32) _ _ _ h (by decide) hwf hkp hP hD hS (lv_sub hl [0, 1, 2] rfl)
theorem d_G_fact_0 : decode prog_1_method_7_code 0 = .ok (.iload_n 1, 1) := by decide +kernel
theorem d_G_fact_1 : decode prog_1_method_7_code 1 = .ok (.ifCond .lt 23, 3) := by decide +kernel
theorem d_G_fact_24 : decode prog_1_method_7_code 24 = .ok (.new 151, 3) := by decide +kernel
theorem d_G_fact_4 : decode prog_1_method_7_code 4 = .ok (.iload_n 1, 1) := by decide +kernel
theorem d_G_fact_5 : decode prog_1_method_7_code 5 = .ok (.aload_n 0, 1) := by decide +kernel
theorem d_G_fact_6 : decode prog_1_method_7_code 6 = .ok (.getfield 22, 3) := by decide +kernel
theorem d_G_fact_9 : decode prog_1_method_7_code 9 = .ok (.getfield 136, 3) := by decide +kernel
theorem d_G_fact_12 : decode prog_1_method_7_code 12 = .ok (.if_icmp .ge 12, 3) := by decide +kernel
theorem d_G_fact_15 : decode prog_1_method_7_code 15 = .ok (.iload_n 2, 1) := by decide +kernel
theorem d_G_fact_16 : decode prog_1_method_7_code 16 = .ok (.ifCond .lt 8, 3) := by decide +kernel
theorem d_G_fact_19 : decode prog_1_method_7_code 19 = .ok (.iload_n 2, 1) := by decide +kernel
theorem d_G_fact_20 : decode prog_1_method_7_code 20 = .ok (.iconst 4, 1) := by decide +kernel
theorem d_G_fact_21 : decode prog_1_method_7_code 21 = .ok (.if_icmp .le 13, 3) := by decide +kernel
theorem d_G_fact_34 : decode prog_1_method_7_code 34 = .ok (.aload_n 0, 1) := by decide +kernel
theorem d_G_fact_35 : decode prog_1_method_7_code 35 = .ok (.getfield 32, 3) := by decide +kernel
theorem d_G_fact_38 : decode prog_1_method_7_code 38 = .ok (.iload_n 1, 1) := by decide +kernel
theorem d_G_fact_39 : decode prog_1_method_7_code 39 = .ok (.iload_n 2, 1) := by decide +kernel
theorem d_G_fact_40 : decode prog_1_method_7_code 40 = .ok (.invokevirtual 156, 3) := by decide +kernel
theorem u_1502 : Cond.methodLink "FilterGuard" 156 ⟨"FilterGuard$Facts", "answer", "(II)J"⟩ ∈ fg_g := fg_in (List.mem_of_getElem? (i := 1502) (by decide +kernel)) rfl
theorem u_1505 : Cond.code ⟨"FilterGuard$Facts", "answer", "(II)J"⟩ prog_6_method_6_code 4 (some .long) ∈ fg_g := fg_in (List.mem_of_getElem? (i := 1505) (by decide +kernel)) rfl
theorem u_1503 : Cond.instanceMethod ⟨"FilterGuard$Facts", "answer", "(II)J"⟩ ∈ fg_g := fg_in (List.mem_of_getElem? (i := 1503) (by decide +kernel)) rfl
theorem u_1504 : Cond.selects "FilterGuard$Facts" ⟨"FilterGuard$Facts", "answer", "(II)J"⟩ ⟨"FilterGuard$Facts", "answer", "(II)J"⟩ ∈ fg_g := fg_in (List.mem_of_getElem? (i := 1504) (by decide +kernel)) rfl
theorem d_G_fact_43 : decode prog_1_method_7_code 43 = .ok (.lreturn, 1) := by decide +kernel
abbrev y_G_fact : MethodName := ⟨"FilterGuard", "fact", "(II)J"⟩
theorem o_1495 : Cond.stringRef "FilterGuard" 153 "no such slot or fact" ∈ lw_tbl := List.mem_of_getElem? (i := 1495) (by decide +kernel)
theorem d_G_fact_27 : decode prog_1_method_7_code 27 = .ok (.dup, 1) := by decide +kernel
theorem d_G_fact_28 : decode prog_1_method_7_code 28 = .ok (.ldc 153, 2) := by decide +kernel
theorem d_G_fact_30 : decode prog_1_method_7_code 30 = .ok (.invokespecial 155, 3) := by decide +kernel
theorem d_G_fact_33 : decode prog_1_method_7_code 33 = .ok (.athrow, 1) := by decide +kernel
theorem a_G_155 : ∀ w ∈ Bundle.ownAtoms "FilterGuard" 155 "java/lang/IndexOutOfBoundsException" fg_up, (w ∈ lw_tbl ∨ w = .isRef (.static Bundle.tN "UNASSIGNED_STACK" Bundle.steD) ∨ w = .isRef (.static Bundle.tN "SUPPRESSED_SENTINEL" Bundle.listD)) ∧ fg_exq w = true := by decide +kernel
theorem u_1486 : Cond.classLink "FilterGuard" 151 "java/lang/IndexOutOfBoundsException" ∈ fg_g := fg_in (List.mem_of_getElem? (i := 1486) (by decide +kernel)) rfl
theorem u_203 : Cond.initialized "java/lang/IndexOutOfBoundsException" ∈ fg_g := fg_in (List.mem_of_getElem? (i := 203) (by decide +kernel)) rfl
def rm_G_fact : Room := { frames := 2, cells := 0, slots := 0, locals := 43 }
abbrev q_G_fact (D : va_G) (ad : Nat → Nat → Nat) (ca : Nat → ClassId) (N : Nat → Nat) (M0 MZ : me_M) (RZ : Int64) (A : Nat → Prop) : Array Value → Jvm.State → Outcome → Jvm.State → Prop := va_Ql (fun r (_ : Unit) => r = RZ ∧ me_wf N MZ ∧ me_kp M0 MZ) (fg_B D A (fun _ => me_W ad ca MZ) (fun _ => [])) A
set_option maxHeartbeats 4000000 in
set_option maxRecDepth 100000 in
theorem c_G_fact (l : Launch) (D : va_G) (ad : Nat → Nat → Nat) (ca : Nat → ClassId) (N : Nat → Nat) (M0 MZ : me_M) (RZ : Int64) (j0 : Nat) (x1 : Int32) (x2 : Int32) (h : f_G_fact M0 j0 x1 x2 = (some (MZ, RZ))) (hwf : me_wf N M0) (hj0 : j0 < N 0) (sz : Nat) : Met l y_G_fact (fg_w y_G_fact prog_1_method_7_code 3 (some .long)) rm_G_fact (va_Pc [.ref (ad 0 j0), .int x1, .int x2] (fz_P D (me_T ca) (me_W ad ca M0) sz)) (q_G_fact D ad ca N M0 MZ RZ (va_A (me_W ad ca M0) sz)) rm_G_fact.cells rm_G_fact.slots (va_A (me_W ad ca M0) sz) := by
  refine fz_enter (fun A => q_G_fact D ad ca N M0 MZ RZ A) (by decide +kernel) (Nat.le_of_ble_eq_true rfl) ?_
  intro p e s m below meth c ls A hx hb hml hown hts hr hlocks hin hP hK hD hS hA hX hl hz
  have hl : lv_has ls 3 [(0, .ref (ad 0 j0)), (1, .int x1), (2, .int x2)] := hl
  unfold f_G_fact at h
  have hkp : me_kp M0 M0 := me_kp.rf
  have hkb := hkp
  refine lv_iload_n hx hb d_G_fact_0 rfl (lv_at hl 1 rfl) ?_
  refine lv_if_lt (tgt := 24) hx hb d_G_fact_1 (by decide) (fun c1 => ?_) (fun c1 => ?_)
  · have h := if_t c1 h
    exact absurd h (by simp)
  have h := if_f c1 h
  refine lv_iload_n hx hb d_G_fact_4 rfl (lv_at hl 1 rfl) ?_
  refine lv_aload_n hx hb d_G_fact_5 rfl (lv_at hl 0 rfl) ?_
  refine g_G_4 hx hb hts hown hK hP hwf hj0 (hts _ u_697) d_G_fact_6 ?_
  obtain ⟨j2, e3, h⟩ := bd_ob h
  have hj2 : j2 < N 2 := (hwf.2.1 0 j0 4 _ e3 (by decide) hj0)
  refine me_opt (j := j2) e3 ?_
  refine g_Code_3 hx hb hts hown hK hP hwf hj2 (hts _ u_227) d_G_fact_9 ?_
  refine lv_icmp_ge (tgt := 24) hx hb d_G_fact_12 (by decide) (fun c4 => ?_) (fun c4 => ?_)
  · have h := if_t c4 h
    exact absurd h (by simp)
  have h := if_f c4 h
  refine lv_iload_n hx hb d_G_fact_15 rfl (lv_at hl 2 rfl) ?_
  refine lv_if_lt (tgt := 24) hx hb d_G_fact_16 (by decide) (fun c5 => ?_) (fun c5 => ?_)
  · have h := if_t c5 h
    exact absurd h (by simp)
  have h := if_f c5 h
  refine lv_iload_n hx hb d_G_fact_19 rfl (lv_at hl 2 rfl) ?_
  refine lv_iconst (v := 4) hx hb d_G_fact_20 (by decide) ?_
  refine lv_icmp_le (tgt := 34) hx hb d_G_fact_21 (by decide) (fun c6 => ?_) (fun c6 => ?_)
  · have h := if_t c6 h
    refine lv_aload_n hx hb d_G_fact_34 rfl (lv_at hl 0 rfl) ?_
    refine g_G_6 hx hb hts hown hK hP hwf hj0 (hts _ u_699) d_G_fact_35 ?_
    obtain ⟨j7, e8, h⟩ := bd_ob h
    have hj7 : j7 < N 3 := (hwf.2.1 0 j0 6 _ e8 (by decide) hj0)
    refine me_opt (j := j7) e8 ?_
    refine lv_iload_n hx hb d_G_fact_38 rfl (lv_at hl 1 rfl) ?_
    refine lv_iload_n hx hb d_G_fact_39 rfl (lv_at hl 2 rfl) ?_
    obtain ⟨M9, r10, eM9, h⟩ := b2_ob h
    refine me_thenl0 (M1 := M9) (me_runV (C := "FilterGuard$Facts") (As := [.int x1, .int x2]) (rest := []) ⟨hx, hb, hml, hown, hts⟩ (c_Facts_answer l D ad ca N M0 M9 r10 j7 x1 x2 eM9 hwf hj7 _) rfl (by show fg_nm y_Facts_answer 2; decide +kernel) u_1502 u_1503 u_1504 u_183 u_1505 ⟨Nat.le_of_ble_eq_true rfl, Nat.le_of_ble_eq_true rfl⟩ hX hz hK hP hD hwf hS hA hj7 (by decide) rfl rfl rfl hl.1 (Nat.le_of_ble_eq_true rfl) d_G_fact_40 ⟨Nat.le_of_ble_eq_true rfl, Nat.le_of_ble_eq_true rfl⟩) hP hD hK hS hA rfl rfl (fun H locs hw hP hD hS => ?_)
    obtain ⟨hwf, hk9⟩ := hw
    have hkp := hkp.tr hk9
    exact me_retl (me_kp M0) h hx hb hr hlocks hwf hkp hP hK hD hS d_G_fact_43
  have h := if_f c6 h
  exact absurd h (by simp)
def rmT3_G_fact : Room := { frames := 6, cells := 1, slots := 6, locals := 100 }
abbrev qT3_G_fact (D : va_G) (ad : Nat → Nat → Nat) (ca : Nat → ClassId) (N : Nat → Nat) (M0 MZ : me_M) (A : Nat → Prop) : Array Value → Jvm.State → Outcome → Jvm.State → Prop := fg_Qt "java/lang/IndexOutOfBoundsException" (fun (_ : Unit) => me_wf N MZ ∧ me_kp M0 MZ) (fg_B D A (fun _ => me_W ad ca MZ) (fun _ => [])) A
set_option maxHeartbeats 4000000 in
set_option maxRecDepth 100000 in
theorem cT3_G_fact (l : Launch) (hl9 : l.stackTraces = false) (D : va_G) (ad : Nat → Nat → Nat) (ca : Nat → ClassId) (N : Nat → Nat) (M0 MZ : me_M) (j0 : Nat) (x1 : Int32) (x2 : Int32) (h : fT3_G_fact M0 j0 x1 x2 = (some MZ)) (hwf : me_wf N M0) (hj0 : j0 < N 0) (sz : Nat) : fg_MetT l y_G_fact (fg_w y_G_fact prog_1_method_7_code 3 (some .long)) rmT3_G_fact (va_Pc [.ref (ad 0 j0), .int x1, .int x2] (fg_PZ D (me_T ca) (me_W ad ca M0) sz)) (qT3_G_fact D ad ca N M0 MZ (va_A (me_W ad ca M0) sz)) rmT3_G_fact.cells rmT3_G_fact.slots (va_A (me_W ad ca M0) sz) := by
  refine fg_enterT (fun A => qT3_G_fact D ad ca N M0 MZ A) (by decide +kernel) (Nat.le_of_ble_eq_true rfl) ?_
  intro p e s m below meth c ls A hx hb hml hown hts hr hlocks hin hP hK hD hS hA hX hl hno hz hy
  have hz0 := hz.1
  have hz := hz.2
  have hl : lv_has ls 3 [(0, .ref (ad 0 j0)), (1, .int x1), (2, .int x2)] := hl
  unfold fT3_G_fact at h
  have hkp : me_kp M0 M0 := me_kp.rf
  have hkb := hkp
  refine lv_iload_n hx hb d_G_fact_0 rfl (lv_at hl 1 rfl) ?_
  refine lv_if_lt (tgt := 24) hx hb d_G_fact_1 (by decide) (fun c1 => ?_) (fun c1 => ?_)
  · have h := if_t c1 h
    obtain ⟨hwf, hkp, hP, hD⟩ := me_sub1 (me_kp M0) h hwf hkp hP hD
    obtain ⟨qs2, hqs2⟩ := hy.1 _ _ _ o_1495
    exact fg_throw (X := "java/lang/IndexOutOfBoundsException") (names := fg_up) () hl9 hx hb hno hlocks hown hts hX hz0 hqs2 (by decide +kernel) (by decide +kernel) a_G_155 u_1486 u_203 ⟨hwf, hkp⟩ hP (hK.sub (tys' := []) [] rfl) hD hS (hl.1.trans hml.symm) (Nat.lt_of_lt_of_le (Nat.lt_succ_self 5) (Nat.le_of_ble_eq_true rfl)) (Nat.le_of_ble_eq_true rfl) (Nat.le_of_ble_eq_true rfl) (Nat.le_of_ble_eq_true rfl) (Nat.le_of_ble_eq_true rfl) (Nat.le_of_ble_eq_true rfl) d_G_fact_24 d_G_fact_27 d_G_fact_28 d_G_fact_30 d_G_fact_33
  have h := if_f c1 h
  refine lv_iload_n hx hb d_G_fact_4 rfl (lv_at hl 1 rfl) ?_
  refine lv_aload_n hx hb d_G_fact_5 rfl (lv_at hl 0 rfl) ?_
  refine g_G_4 hx hb hts hown hK hP hwf hj0 (hts _ u_697) d_G_fact_6 ?_
  obtain ⟨j3, e4, h⟩ := bd_ob h
  have hj3 : j3 < N 2 := (hwf.2.1 0 j0 4 _ e4 (by decide) hj0)
  refine me_opt (j := j3) e4 ?_
  refine g_Code_3 hx hb hts hown hK hP hwf hj3 (hts _ u_227) d_G_fact_9 ?_
  refine lv_icmp_ge (tgt := 24) hx hb d_G_fact_12 (by decide) (fun c5 => ?_) (fun c5 => ?_)
  · have h := if_t c5 h
    obtain ⟨hwf, hkp, hP, hD⟩ := me_sub1 (me_kp M0) h hwf hkp hP hD
    obtain ⟨qs6, hqs6⟩ := hy.1 _ _ _ o_1495
    exact fg_throw (X := "java/lang/IndexOutOfBoundsException") (names := fg_up) () hl9 hx hb hno hlocks hown hts hX hz0 hqs6 (by decide +kernel) (by decide +kernel) a_G_155 u_1486 u_203 ⟨hwf, hkp⟩ hP (hK.sub (tys' := []) [] rfl) hD hS (hl.1.trans hml.symm) (Nat.lt_of_lt_of_le (Nat.lt_succ_self 5) (Nat.le_of_ble_eq_true rfl)) (Nat.le_of_ble_eq_true rfl) (Nat.le_of_ble_eq_true rfl) (Nat.le_of_ble_eq_true rfl) (Nat.le_of_ble_eq_true rfl) (Nat.le_of_ble_eq_true rfl) d_G_fact_24 d_G_fact_27 d_G_fact_28 d_G_fact_30 d_G_fact_33
  have h := if_f c5 h
  refine lv_iload_n hx hb d_G_fact_15 rfl (lv_at hl 2 rfl) ?_
  refine lv_if_lt (tgt := 24) hx hb d_G_fact_16 (by decide) (fun c7 => ?_) (fun c7 => ?_)
  · have h := if_t c7 h
    obtain ⟨hwf, hkp, hP, hD⟩ := me_sub1 (me_kp M0) h hwf hkp hP hD
    obtain ⟨qs8, hqs8⟩ := hy.1 _ _ _ o_1495
    exact fg_throw (X := "java/lang/IndexOutOfBoundsException") (names := fg_up) () hl9 hx hb hno hlocks hown hts hX hz0 hqs8 (by decide +kernel) (by decide +kernel) a_G_155 u_1486 u_203 ⟨hwf, hkp⟩ hP (hK.sub (tys' := []) [] rfl) hD hS (hl.1.trans hml.symm) (Nat.lt_of_lt_of_le (Nat.lt_succ_self 5) (Nat.le_of_ble_eq_true rfl)) (Nat.le_of_ble_eq_true rfl) (Nat.le_of_ble_eq_true rfl) (Nat.le_of_ble_eq_true rfl) (Nat.le_of_ble_eq_true rfl) (Nat.le_of_ble_eq_true rfl) d_G_fact_24 d_G_fact_27 d_G_fact_28 d_G_fact_30 d_G_fact_33
  have h := if_f c7 h
  refine lv_iload_n hx hb d_G_fact_19 rfl (lv_at hl 2 rfl) ?_
  refine lv_iconst (v := 4) hx hb d_G_fact_20 (by decide) ?_
  refine lv_icmp_le (tgt := 34) hx hb d_G_fact_21 (by decide) (fun c9 => ?_) (fun c9 => ?_)
  · have h := if_t c9 h
    refine lv_aload_n hx hb d_G_fact_34 rfl (lv_at hl 0 rfl) ?_
    refine g_G_6 hx hb hts hown hK hP hwf hj0 (hts _ u_699) d_G_fact_35 ?_
    obtain ⟨j10, e11, h⟩ := bd_ob h
    have hj10 : j10 < N 3 := (hwf.2.1 0 j0 6 _ e11 (by decide) hj0)
    refine me_opt (j := j10) e11 ?_
    refine lv_iload_n hx hb d_G_fact_38 rfl (lv_at hl 1 rfl) ?_
    refine lv_iload_n hx hb d_G_fact_39 rfl (lv_at hl 2 rfl) ?_
    obtain ⟨M12, r13, eM12, h⟩ := b2_ob h
    refine me_thenl0 (M1 := M12) (me_runV (C := "FilterGuard$Facts") (As := [.int x1, .int x2]) (rest := []) ⟨hx, hb, hml, hown, hts⟩ (c_Facts_answer l D ad ca N M0 M12 r13 j10 x1 x2 eM12 hwf hj10 _) rfl (by show fg_nm y_Facts_answer 2; decide +kernel) u_1502 u_1503 u_1504 u_183 u_1505 ⟨Nat.le_of_ble_eq_true rfl, Nat.le_of_ble_eq_true rfl⟩ hX hz hK hP hD hwf hS hA hj10 (by decide) rfl rfl rfl hl.1 (Nat.le_of_ble_eq_true rfl) d_G_fact_40 ⟨Nat.le_of_ble_eq_true rfl, Nat.le_of_ble_eq_true rfl⟩) hP hD hK hS hA rfl rfl (fun H locs hw hP hD hS => ?_)
    obtain ⟨hwf, hk9⟩ := hw
    have hkp := hkp.tr hk9
    exact absurd h (by simp)
  have h := if_f c9 h
  obtain ⟨hwf, hkp, hP, hD⟩ := me_sub1 (me_kp M0) h hwf hkp hP hD
  obtain ⟨qs14, hqs14⟩ := hy.1 _ _ _ o_1495
  exact fg_throw (X := "java/lang/IndexOutOfBoundsException") (names := fg_up) () hl9 hx hb hno hlocks hown hts hX hz0 hqs14 (by decide +kernel) (by decide +kernel) a_G_155 u_1486 u_203 ⟨hwf, hkp⟩ hP (hK.sub (tys' := []) [] rfl) hD hS (hl.1.trans hml.symm) (Nat.lt_of_lt_of_le (Nat.lt_succ_self 5) (Nat.le_of_ble_eq_true rfl)) (Nat.le_of_ble_eq_true rfl) (Nat.le_of_ble_eq_true rfl) (Nat.le_of_ble_eq_true rfl) (Nat.le_of_ble_eq_true rfl) (Nat.le_of_ble_eq_true rfl) d_G_fact_24 d_G_fact_27 d_G_fact_28 d_G_fact_30 d_G_fact_33
theorem d_G_code_15 : decode prog_1_method_8_code 15 = .ok (.astore_n 3, 1) := by decide +kernel
theorem d_G_code_16 : decode prog_1_method_8_code 16 = .ok (.aload_n 0, 1) := by decide +kernel
theorem d_G_code_17 : decode prog_1_method_8_code 17 = .ok (.getfield 129, 3) := by decide +kernel
theorem d_G_code_20 : decode prog_1_method_8_code 20 = .ok (.ifCond .eq 15, 3) := by decide +kernel
theorem d_G_code_35 : decode prog_1_method_8_code 35 = .ok (.new 151, 3) := by decide +kernel
theorem d_G_code_23 : decode prog_1_method_8_code 23 = .ok (.iload_n 1, 1) := by decide +kernel
theorem d_G_code_24 : decode prog_1_method_8_code 24 = .ok (.ifCond .lt 11, 3) := by decide +kernel
theorem d_G_code_27 : decode prog_1_method_8_code 27 = .ok (.iload_n 1, 1) := by decide +kernel
theorem d_G_code_28 : decode prog_1_method_8_code 28 = .ok (.aload_n 3, 1) := by decide +kernel
theorem d_G_code_29 : decode prog_1_method_8_code 29 = .ok (.getfield 136, 3) := by decide +kernel
theorem d_G_code_32 : decode prog_1_method_8_code 32 = .ok (.if_icmp .lt 13, 3) := by decide +kernel
theorem d_G_code_45 : decode prog_1_method_8_code 45 = .ok (.aload_n 3, 1) := by decide +kernel
theorem d_G_code_46 : decode prog_1_method_8_code 46 = .ok (.getfield 162, 3) := by decide +kernel
theorem u_222 : Cond.fieldLink "FilterGuard" 162 "FilterGuard$Code" "slots" "[J" ∈ fg_g := fg_in (List.mem_of_getElem? (i := 222) (by decide +kernel)) rfl
theorem d_G_code_49 : decode prog_1_method_8_code 49 = .ok (.iload_n 1, 1) := by decide +kernel
theorem d_G_code_50 : decode prog_1_method_8_code 50 = .ok (.laload, 1) := by decide +kernel
theorem d_G_code_51 : decode prog_1_method_8_code 51 = .ok (.lreturn, 1) := by decide +kernel
theorem d_G_code_0 : decode prog_1_method_8_code 0 = .ok (.iload_n 2, 1) := by decide +kernel
theorem d_G_code_1 : decode prog_1_method_8_code 1 = .ok (.ifCond .eq 10, 3) := by decide +kernel
theorem d_G_code_11 : decode prog_1_method_8_code 11 = .ok (.aload_n 0, 1) := by decide +kernel
theorem d_G_code_12 : decode prog_1_method_8_code 12 = .ok (.getfield 22, 3) := by decide +kernel
theorem d_G_code_4 : decode prog_1_method_8_code 4 = .ok (.aload_n 0, 1) := by decide +kernel
theorem d_G_code_5 : decode prog_1_method_8_code 5 = .ok (.getfield 26, 3) := by decide +kernel
theorem d_G_code_8 : decode prog_1_method_8_code 8 = .ok (.goto 7, 3) := by decide +kernel
abbrev y_G_code : MethodName := ⟨"FilterGuard", "code", "(IZ)J"⟩
theorem o_1513 : Cond.stringRef "FilterGuard" 160 "no such slot" ∈ lw_tbl := List.mem_of_getElem? (i := 1513) (by decide +kernel)
theorem d_G_code_38 : decode prog_1_method_8_code 38 = .ok (.dup, 1) := by decide +kernel
theorem d_G_code_39 : decode prog_1_method_8_code 39 = .ok (.ldc 160, 2) := by decide +kernel
theorem d_G_code_41 : decode prog_1_method_8_code 41 = .ok (.invokespecial 155, 3) := by decide +kernel
theorem d_G_code_44 : decode prog_1_method_8_code 44 = .ok (.athrow, 1) := by decide +kernel
def rm_G_code : Room := { frames := 1, cells := 0, slots := 0, locals := 20 }
abbrev q_G_code (D : va_G) (ad : Nat → Nat → Nat) (ca : Nat → ClassId) (N : Nat → Nat) (M0 MZ : me_M) (RZ : Int64) (A : Nat → Prop) : Array Value → Jvm.State → Outcome → Jvm.State → Prop := va_Ql (fun r (_ : Unit) => r = RZ ∧ me_wf N MZ ∧ me_kp M0 MZ) (fg_B D A (fun _ => me_W ad ca MZ) (fun _ => [])) A
set_option maxHeartbeats 4000000 in
set_option maxRecDepth 100000 in
theorem c_G_code (l : Launch) (D : va_G) (ad : Nat → Nat → Nat) (ca : Nat → ClassId) (N : Nat → Nat) (M0 MZ : me_M) (RZ : Int64) (j0 : Nat) (x1 : Int32) (x2 : Int32) (h : f_G_code M0 j0 x1 x2 = (some (MZ, RZ))) (hwf : me_wf N M0) (hj0 : j0 < N 0) (zx2 : x2 = 1 ∨ x2 = 0) (sz : Nat) : Met l y_G_code (fg_w y_G_code prog_1_method_8_code 4 (some .long)) rm_G_code (va_Pc [.ref (ad 0 j0), .int x1, .int x2] (fz_P D (me_T ca) (me_W ad ca M0) sz)) (q_G_code D ad ca N M0 MZ RZ (va_A (me_W ad ca M0) sz)) rm_G_code.cells rm_G_code.slots (va_A (me_W ad ca M0) sz) := by
  refine fz_enter (fun A => q_G_code D ad ca N M0 MZ RZ A) (by decide +kernel) (Nat.le_of_ble_eq_true rfl) ?_
  intro p e s m below meth c ls A hx hb hml hown hts hr hlocks hin hP hK hD hS hA hX hl hz
  have hl : lv_has ls 4 [(0, .ref (ad 0 j0)), (1, .int x1), (2, .int x2)] := hl
  unfold f_G_code at h
  have hkp : me_kp M0 M0 := me_kp.rf
  have hkb := hkp
  have b_15 : ∀ (M : me_M) (s0 : Nat) (H : Heap) (locs : List Loc) (ls : Array Slot), f_G_code_b15 j0 x1 M s0 = (some (MZ, RZ)) → (s0 < N 2) → me_wf N M → me_kp M0 M → va_P D classes (me_W ad ca M) H → va_D A (me_W ad ca M) → va_S A s.heap H locs → lv_has ls 4 [(0, .ref (ad 0 j0)), (1, .int x1)] → W p l e rm_G_code s m [.ref (ad 0 j0), .int x1, .int x2].toArray below meth c H locs 0 0 (MQ below (q_G_code D ad ca N M0 MZ RZ A) [.ref (ad 0 j0), .int x1, .int x2].toArray s rm_G_code.cells rm_G_code.slots A) (F0 m 15 ls [.ref (ad 2 s0)]) := by
    intro M s0 H locs ls h hs0 hwf hkp hP hD hS hl
    unfold f_G_code_b15 at h
    have hkb := hkp
    refine lv_astore_n (lv' := [(3, .ref (ad 2 s0)), (0, .ref (ad 0 j0)), (1, .int x1)]) hx hb d_G_code_15 rfl hl (by decide) rfl (fun ls hl => ?_)
    refine lv_aload_n hx hb d_G_code_16 rfl (lv_at hl 1 rfl) ?_
    refine g_G_12 hx hb hts hown hK hP hwf hj0 (hts _ u_705) d_G_code_17 ?_
    have z1 := (hwf.2.2.2 0 j0 12 rfl)
    refine lv_if_eq (tgt := 35) hx hb d_G_code_20 (by decide) (fun c2 => ?_) (fun c2 => ?_)
    · have h := if_t c2 h
      exact absurd h (by simp)
    have h := if_f c2 h
    refine lv_iload_n hx hb d_G_code_23 rfl (lv_at hl 2 rfl) ?_
    refine lv_if_lt (tgt := 35) hx hb d_G_code_24 (by decide) (fun c3 => ?_) (fun c3 => ?_)
    · have h := if_t c3 h
      exact absurd h (by simp)
    have h := if_f c3 h
    refine lv_iload_n hx hb d_G_code_27 rfl (lv_at hl 2 rfl) ?_
    refine lv_aload_n hx hb d_G_code_28 rfl (lv_at hl 0 rfl) ?_
    refine g_Code_3 hx hb hts hown hK hP hwf hs0 (hts _ u_227) d_G_code_29 ?_
    refine lv_icmp_lt (tgt := 45) hx hb d_G_code_32 (by decide) (fun c4 => ?_) (fun c4 => ?_)
    · have h := if_t c4 h
      refine lv_aload_n hx hb d_G_code_45 rfl (lv_at hl 0 rfl) ?_
      refine g_Code_0 hx hb hts hown hK hP hwf hs0 (hts _ u_222) d_G_code_46 ?_
      obtain ⟨j5, e6, h⟩ := bd_ob h
      have hj5 : j5 < N 16 := (hwf.2.1 2 s0 0 _ e6 (by decide) hs0)
      refine me_opt (j := j5) e6 ?_
      refine lv_iload_n hx hb d_G_code_49 rfl (lv_at hl 2 rfl) ?_
      obtain ⟨g7, h⟩ := gd_ob h
      refine me_lald hx hb hK hP hwf hj5 g7 d_G_code_50 ?_
      exact me_retl (me_kp M0) h hx hb hr hlocks hwf hkp hP hK hD hS d_G_code_51
    have h := if_f c4 h
    exact absurd h (by simp)
  refine lv_iload_n hx hb d_G_code_0 rfl (lv_at hl 2 rfl) ?_
  refine lv_if_eq (tgt := 11) hx hb d_G_code_1 (by decide) (fun c8 => ?_) (fun c8 => ?_)
  · have h := if_t c8 h
    refine lv_aload_n hx hb d_G_code_11 rfl (lv_at hl 0 rfl) ?_
    refine g_G_4 hx hb hts hown hK hP hwf hj0 (hts _ u_697) d_G_code_12 ?_
    obtain ⟨j9, e10, h⟩ := bd_ob h
    have hj9 : j9 < N 2 := (hwf.2.1 0 j0 4 _ e10 (by decide) hj0)
    refine me_opt (j := j9) e10 ?_
    exact b_15 M0 j9 _ _ _ h hj9 hwf hkp hP hD hS (lv_sub hl [0, 1] rfl)
  have h := if_f c8 h
  refine lv_aload_n hx hb d_G_code_4 rfl (lv_at hl 0 rfl) ?_
  refine g_G_5 hx hb hts hown hK hP hwf hj0 (hts _ u_698) d_G_code_5 ?_
  obtain ⟨j11, e12, h⟩ := bd_ob h
  have hj11 : j11 < N 2 := (hwf.2.1 0 j0 5 _ e12 (by decide) hj0)
  refine me_opt (j := j11) e12 ?_
  refine lv_goto (tgt := 15) hx hb d_G_code_8 (by decide) ?_
  exact b_15 M0 j11 _ _ _ h hj11 hwf hkp hP hD hS (lv_sub hl [0, 1] rfl)
def rmT3_G_code : Room := { frames := 6, cells := 1, slots := 6, locals := 100 }
abbrev qT3_G_code (D : va_G) (ad : Nat → Nat → Nat) (ca : Nat → ClassId) (N : Nat → Nat) (M0 MZ : me_M) (A : Nat → Prop) : Array Value → Jvm.State → Outcome → Jvm.State → Prop := fg_Qt "java/lang/IndexOutOfBoundsException" (fun (_ : Unit) => me_wf N MZ ∧ me_kp M0 MZ) (fg_B D A (fun _ => me_W ad ca MZ) (fun _ => [])) A
set_option maxHeartbeats 4000000 in
set_option maxRecDepth 100000 in
theorem cT3_G_code (l : Launch) (hl9 : l.stackTraces = false) (D : va_G) (ad : Nat → Nat → Nat) (ca : Nat → ClassId) (N : Nat → Nat) (M0 MZ : me_M) (j0 : Nat) (x1 : Int32) (x2 : Int32) (h : fT3_G_code M0 j0 x1 x2 = (some MZ)) (hwf : me_wf N M0) (hj0 : j0 < N 0) (zx2 : x2 = 1 ∨ x2 = 0) (sz : Nat) : fg_MetT l y_G_code (fg_w y_G_code prog_1_method_8_code 4 (some .long)) rmT3_G_code (va_Pc [.ref (ad 0 j0), .int x1, .int x2] (fg_PZ D (me_T ca) (me_W ad ca M0) sz)) (qT3_G_code D ad ca N M0 MZ (va_A (me_W ad ca M0) sz)) rmT3_G_code.cells rmT3_G_code.slots (va_A (me_W ad ca M0) sz) := by
  refine fg_enterT (fun A => qT3_G_code D ad ca N M0 MZ A) (by decide +kernel) (Nat.le_of_ble_eq_true rfl) ?_
  intro p e s m below meth c ls A hx hb hml hown hts hr hlocks hin hP hK hD hS hA hX hl hno hz hy
  have hz0 := hz.1
  have hz := hz.2
  have hl : lv_has ls 4 [(0, .ref (ad 0 j0)), (1, .int x1), (2, .int x2)] := hl
  unfold fT3_G_code at h
  have hkp : me_kp M0 M0 := me_kp.rf
  have hkb := hkp
  have b_15 : ∀ (M : me_M) (s0 : Nat) (H : Heap) (locs : List Loc) (ls : Array Slot), fT3_G_code_b15 j0 x1 M s0 = (some MZ) → (s0 < N 2) → me_wf N M → me_kp M0 M → va_P D classes (me_W ad ca M) H → va_D A (me_W ad ca M) → va_S A s.heap H locs → lv_has ls 4 [(0, .ref (ad 0 j0)), (1, .int x1)] → W p l e rmT3_G_code s m [.ref (ad 0 j0), .int x1, .int x2].toArray below meth c H locs 0 0 (fg_MQT below (qT3_G_code D ad ca N M0 MZ A) [.ref (ad 0 j0), .int x1, .int x2].toArray s rmT3_G_code.cells rmT3_G_code.slots A) (F0 m 15 ls [.ref (ad 2 s0)]) := by
    intro M s0 H locs ls h hs0 hwf hkp hP hD hS hl
    unfold fT3_G_code_b15 at h
    have hkb := hkp
    refine lv_astore_n (lv' := [(3, .ref (ad 2 s0)), (0, .ref (ad 0 j0)), (1, .int x1)]) hx hb d_G_code_15 rfl hl (by decide) rfl (fun ls hl => ?_)
    refine lv_aload_n hx hb d_G_code_16 rfl (lv_at hl 1 rfl) ?_
    refine g_G_12 hx hb hts hown hK hP hwf hj0 (hts _ u_705) d_G_code_17 ?_
    have z1 := (hwf.2.2.2 0 j0 12 rfl)
    refine lv_if_eq (tgt := 35) hx hb d_G_code_20 (by decide) (fun c2 => ?_) (fun c2 => ?_)
    · have h := if_t c2 h
      obtain ⟨hwf, hkp, hP, hD⟩ := me_sub1 (me_kp M0) h hwf hkp hP hD
      obtain ⟨qs3, hqs3⟩ := hy.1 _ _ _ o_1513
      exact fg_throw (X := "java/lang/IndexOutOfBoundsException") (names := fg_up) () hl9 hx hb hno hlocks hown hts hX hz0 hqs3 (by decide +kernel) (by decide +kernel) a_G_155 u_1486 u_203 ⟨hwf, hkp⟩ hP (hK.sub (tys' := []) [] rfl) hD hS (hl.1.trans hml.symm) (Nat.lt_of_lt_of_le (Nat.lt_succ_self 5) (Nat.le_of_ble_eq_true rfl)) (Nat.le_of_ble_eq_true rfl) (Nat.le_of_ble_eq_true rfl) (Nat.le_of_ble_eq_true rfl) (Nat.le_of_ble_eq_true rfl) (Nat.le_of_ble_eq_true rfl) d_G_code_35 d_G_code_38 d_G_code_39 d_G_code_41 d_G_code_44
    have h := if_f c2 h
    refine lv_iload_n hx hb d_G_code_23 rfl (lv_at hl 2 rfl) ?_
    refine lv_if_lt (tgt := 35) hx hb d_G_code_24 (by decide) (fun c4 => ?_) (fun c4 => ?_)
    · have h := if_t c4 h
      obtain ⟨hwf, hkp, hP, hD⟩ := me_sub1 (me_kp M0) h hwf hkp hP hD
      obtain ⟨qs5, hqs5⟩ := hy.1 _ _ _ o_1513
      exact fg_throw (X := "java/lang/IndexOutOfBoundsException") (names := fg_up) () hl9 hx hb hno hlocks hown hts hX hz0 hqs5 (by decide +kernel) (by decide +kernel) a_G_155 u_1486 u_203 ⟨hwf, hkp⟩ hP (hK.sub (tys' := []) [] rfl) hD hS (hl.1.trans hml.symm) (Nat.lt_of_lt_of_le (Nat.lt_succ_self 5) (Nat.le_of_ble_eq_true rfl)) (Nat.le_of_ble_eq_true rfl) (Nat.le_of_ble_eq_true rfl) (Nat.le_of_ble_eq_true rfl) (Nat.le_of_ble_eq_true rfl) (Nat.le_of_ble_eq_true rfl) d_G_code_35 d_G_code_38 d_G_code_39 d_G_code_41 d_G_code_44
    have h := if_f c4 h
    refine lv_iload_n hx hb d_G_code_27 rfl (lv_at hl 2 rfl) ?_
    refine lv_aload_n hx hb d_G_code_28 rfl (lv_at hl 0 rfl) ?_
    refine g_Code_3 hx hb hts hown hK hP hwf hs0 (hts _ u_227) d_G_code_29 ?_
    refine lv_icmp_lt (tgt := 45) hx hb d_G_code_32 (by decide) (fun c6 => ?_) (fun c6 => ?_)
    · have h := if_t c6 h
      refine lv_aload_n hx hb d_G_code_45 rfl (lv_at hl 0 rfl) ?_
      refine g_Code_0 hx hb hts hown hK hP hwf hs0 (hts _ u_222) d_G_code_46 ?_
      obtain ⟨j7, e8, h⟩ := bd_ob h
      have hj7 : j7 < N 16 := (hwf.2.1 2 s0 0 _ e8 (by decide) hs0)
      refine me_opt (j := j7) e8 ?_
      refine lv_iload_n hx hb d_G_code_49 rfl (lv_at hl 2 rfl) ?_
      obtain ⟨g9, h⟩ := gd_ob h
      refine me_lald hx hb hK hP hwf hj7 g9 d_G_code_50 ?_
      exact absurd h (by simp)
    have h := if_f c6 h
    obtain ⟨hwf, hkp, hP, hD⟩ := me_sub1 (me_kp M0) h hwf hkp hP hD
    obtain ⟨qs10, hqs10⟩ := hy.1 _ _ _ o_1513
    exact fg_throw (X := "java/lang/IndexOutOfBoundsException") (names := fg_up) () hl9 hx hb hno hlocks hown hts hX hz0 hqs10 (by decide +kernel) (by decide +kernel) a_G_155 u_1486 u_203 ⟨hwf, hkp⟩ hP (hK.sub (tys' := []) [] rfl) hD hS (hl.1.trans hml.symm) (Nat.lt_of_lt_of_le (Nat.lt_succ_self 5) (Nat.le_of_ble_eq_true rfl)) (Nat.le_of_ble_eq_true rfl) (Nat.le_of_ble_eq_true rfl) (Nat.le_of_ble_eq_true rfl) (Nat.le_of_ble_eq_true rfl) (Nat.le_of_ble_eq_true rfl) d_G_code_35 d_G_code_38 d_G_code_39 d_G_code_41 d_G_code_44
  refine lv_iload_n hx hb d_G_code_0 rfl (lv_at hl 2 rfl) ?_
  refine lv_if_eq (tgt := 11) hx hb d_G_code_1 (by decide) (fun c11 => ?_) (fun c11 => ?_)
  · have h := if_t c11 h
    refine lv_aload_n hx hb d_G_code_11 rfl (lv_at hl 0 rfl) ?_
    refine g_G_4 hx hb hts hown hK hP hwf hj0 (hts _ u_697) d_G_code_12 ?_
    obtain ⟨j12, e13, h⟩ := bd_ob h
    have hj12 : j12 < N 2 := (hwf.2.1 0 j0 4 _ e13 (by decide) hj0)
    refine me_opt (j := j12) e13 ?_
    exact b_15 M0 j12 _ _ _ h hj12 hwf hkp hP hD hS (lv_sub hl [0, 1] rfl)
  have h := if_f c11 h
  refine lv_aload_n hx hb d_G_code_4 rfl (lv_at hl 0 rfl) ?_
  refine g_G_5 hx hb hts hown hK hP hwf hj0 (hts _ u_698) d_G_code_5 ?_
  obtain ⟨j14, e15, h⟩ := bd_ob h
  have hj14 : j14 < N 2 := (hwf.2.1 0 j0 5 _ e15 (by decide) hj0)
  refine me_opt (j := j14) e15 ?_
  refine lv_goto (tgt := 15) hx hb d_G_code_8 (by decide) ?_
  exact b_15 M0 j14 _ _ _ h hj14 hwf hkp hP hD hS (lv_sub hl [0, 1] rfl)
theorem d_Machine_takePacket_0 : decode prog_7_method_2_code 0 = .ok (.aload_n 1, 1) := by decide +kernel
theorem d_Machine_takePacket_1 : decode prog_7_method_2_code 1 = .ok (.iconst 0, 1) := by decide +kernel
theorem d_Machine_takePacket_2 : decode prog_7_method_2_code 2 = .ok (.aload_n 0, 1) := by decide +kernel
theorem d_Machine_takePacket_3 : decode prog_7_method_2_code 3 = .ok (.getfield 22, 3) := by decide +kernel
theorem g_Machine_7 {p : Program} {l : Launch} {e : Env} {R : Room} {s : Jvm.State} {m : MethodId} {args : Array Value} {below : List Frame} {meth : Method} {c : Code} {H : Heap} {locs : List Loc} {cells slots : Nat} {Q : Jvm.State → Prop} {cc : ByteArray} {pc : Nat} {ls : Array Slot} {rest : List Value} {D : va_G} {ad : Nat → Nat → Nat} {ca : Nat → ClassId} {M : me_M} {N : Nat → Nat} {own : String} {index j : Nat} (hexec : p.tables.exec = Jvm.exec) (hb : c.code = cc) (hts : ∀ w ∈ fg_g, w.before args s = true) (hown : s.vm.findClass own = some m.cls) (hK : va_K D classes (me_T ca) s) (hP : va_P D classes (me_W ad ca M) H) (hwf : me_wf N M) (hj : j < N 5) (hlink : (Cond.fieldLink own index "FilterGuard$Machine" "packet" "[B").before args s = true) (hdg : decode cc pc = .ok (.getfield index, 3)) (kk : W p l e R s m args below meth c H locs cells slots Q (F0 m (pc + 3) ls (va_rf ((mR M 5 j 7).map (ad 14)) :: rest))) : W p l e R s m args below meth c H locs cells slots Q (F0 m pc ls (.ref (ad 5 j) :: rest)) := me_get (k := 5) (f := 7) (C := "FilterGuard$Machine") (T := F_Machine) (Nf := 20) hexec hb hts i_Machine hown hK hP hwf hj (by decide) rfl (by decide) (by decide) hlink (fun _ h9 => h9) hdg kk
theorem d_Machine_takePacket_6 : decode prog_7_method_2_code 6 = .ok (.iconst 0, 1) := by decide +kernel
theorem d_Machine_takePacket_7 : decode prog_7_method_2_code 7 = .ok (.iload_n 2, 1) := by decide +kernel
theorem d_Machine_takePacket_8 : decode prog_7_method_2_code 8 = .ok (.invokestatic 54, 3) := by decide +kernel
theorem u_774 : Cond.methodLink "FilterGuard$Machine" 54 ⟨"java/lang/System", "arraycopy", "(Ljava/lang/Object;ILjava/lang/Object;II)V"⟩ ∈ fg_g := fg_in (List.mem_of_getElem? (i := 774) (by decide +kernel)) rfl
theorem d_Machine_takePacket_11 : decode prog_7_method_2_code 11 = .ok (.aload_n 0, 1) := by decide +kernel
theorem d_Machine_takePacket_12 : decode prog_7_method_2_code 12 = .ok (.iload_n 2, 1) := by decide +kernel
theorem d_Machine_takePacket_13 : decode prog_7_method_2_code 13 = .ok (.putfield 60, 3) := by decide +kernel
theorem u_632 : Cond.fieldLink "FilterGuard$Machine" 60 "FilterGuard$Machine" "packetSize" "I" ∈ fg_g := fg_in (List.mem_of_getElem? (i := 632) (by decide +kernel)) rfl
theorem p_Machine_8 {p : Program} {l : Launch} {e : Env} {R : Room} {s : Jvm.State} {m : MethodId} {args : Array Value} {below : List Frame} {meth : Method} {c : Code} {H : Heap} {locs : List Loc} {cells slots : Nat} {Q : Jvm.State → Prop} {cc : ByteArray} {pc : Nat} {ls : Array Slot} {rest : List Value} {D : va_G} {A : Nat → Prop} {H0 : Heap} {ad : Nat → Nat → Nat} {ca : Nat → ClassId} {M M1 : me_M} {N : Nat → Nat} {own : String} {index j : Nat} {v : Int32} (he : M1 = wI M 5 j 8 v) (hexec : p.tables.exec = Jvm.exec) (hb : c.code = cc) (hts : ∀ w ∈ fg_g, w.before args s = true) (hown : s.vm.findClass own = some m.cls) (hK : va_K D classes (me_T ca) s) (hP : va_P D classes (me_W ad ca M) H) (hD : va_D A (me_W ad ca M)) (hwf : me_wf N M) (hS : va_S A H0 H locs) (hj : j < N 5) (hlink : (Cond.fieldLink own index "FilterGuard$Machine" "packetSize" "I").before args s = true) (hdg : decode cc pc = .ok (.putfield index, 3)) (kk : ∀ (H1 : Heap) (locs1 : List Loc), va_P D classes (me_W ad ca M1) H1 → va_D A (me_W ad ca M1) → me_wf N M1 → va_S A H0 H1 locs1 → W p l e R s m args below meth c H1 locs1 cells slots Q (F0 m (pc + 3) ls rest)) : W p l e R s m args below meth c H locs cells slots Q (F0 m pc ls (.int v :: .ref (ad 5 j) :: rest)) := by
  subst he
  exact me_put (M1 := wI M 5 j 8 v) (k := 5) (f := 8) (C := "FilterGuard$Machine") (T := F_Machine) (Nf := 20) hexec hb hts i_Machine t_Machine t_Machine_ok n_Machine hown hK hP hD hwf hS hj (by decide) rfl (by decide) (by decide) hlink (fun _ h9 => h9) rfl rfl rfl rfl (fun a b h => me_wIE h) (me_fIw (by decide) (by decide)) hdg (fun H1 locs1 a1 a2 a3 => kk H1 locs1 a1 a2 (me_wfI hwf (fun z => absurd z (by decide)) (fun z => absurd z (by decide))) a3)
theorem d_Machine_takePacket_16 : decode prog_7_method_2_code 16 = .ok (.return_, 1) := by decide +kernel
abbrev y_Machine_takePacket : MethodName := ⟨"FilterGuard$Machine", "takePacket", "([BI)V"⟩
def rm_Machine_takePacket : Room := { frames := 1, cells := 0, slots := 0, locals := 60 }
abbrev q_Machine_takePacket (D : va_G) (ad : Nat → Nat → Nat) (ca : Nat → ClassId) (N : Nat → Nat) (M0 MZ : me_M) (A : Nat → Prop) : Array Value → Jvm.State → Outcome → Jvm.State → Prop := va_Qv (fun (_ : Unit) => me_wf N MZ ∧ me_kp M0 MZ) (fg_B D A (fun _ => me_W ad ca MZ) (fun _ => [])) A
set_option maxHeartbeats 4000000 in
set_option maxRecDepth 100000 in
theorem c_Machine_takePacket (l : Launch) (D : va_G) (ad : Nat → Nat → Nat) (ca : Nat → ClassId) (N : Nat → Nat) (M0 MZ : me_M) (j0 : Nat) (j1 : Nat) (x2 : Int32) (h : f_Machine_takePacket M0 j0 j1 x2 = (some MZ)) (hwf : me_wf N M0) (hj0 : j0 < N 5) (hj1 : j1 < N 14) (sz : Nat) : Met l y_Machine_takePacket (fg_w y_Machine_takePacket prog_7_method_2_code 3 none) rm_Machine_takePacket (va_Pc [.ref (ad 5 j0), .ref (ad 14 j1), .int x2] (fz_P D (me_T ca) (me_W ad ca M0) sz)) (q_Machine_takePacket D ad ca N M0 MZ (va_A (me_W ad ca M0) sz)) rm_Machine_takePacket.cells rm_Machine_takePacket.slots (va_A (me_W ad ca M0) sz) := by
  refine fz_enter (fun A => q_Machine_takePacket D ad ca N M0 MZ A) (by decide +kernel) (Nat.le_of_ble_eq_true rfl) ?_
  intro p e s m below meth c ls A hx hb hml hown hts hr hlocks hin hP hK hD hS hA hX hl hz
  have hl : lv_has ls 3 [(0, .ref (ad 5 j0)), (1, .ref (ad 14 j1)), (2, .int x2)] := hl
  unfold f_Machine_takePacket at h
  have hkp : me_kp M0 M0 := me_kp.rf
  have hkb := hkp
  refine lv_aload_n hx hb d_Machine_takePacket_0 rfl (lv_at hl 1 rfl) ?_
  refine lv_iconst (v := 0) hx hb d_Machine_takePacket_1 (by decide) ?_
  refine lv_aload_n hx hb d_Machine_takePacket_2 rfl (lv_at hl 0 rfl) ?_
  refine g_Machine_7 hx hb hts hown hK hP hwf hj0 (hts _ u_630) d_Machine_takePacket_3 ?_
  obtain ⟨j2, e3, h⟩ := bd_ob h
  have hj2 : j2 < N 14 := (hwf.2.1 5 j0 7 _ e3 (by decide) hj0)
  refine me_opt (j := j2) e3 ?_
  refine lv_iconst (v := 0) hx hb d_Machine_takePacket_6 (by decide) ?_
  refine lv_iload_n hx hb d_Machine_takePacket_7 rfl (lv_at hl 2 rfl) ?_
  obtain ⟨g4, h⟩ := gd_ob h
  obtain ⟨M5, eM5, h⟩ := st_ob h
  refine me_copyb eM5 hx hb (hml.trans hl.1.symm) hown (hts _ u_774) (hts _ u_757) (hts _ u_756) (hts _ u_195) hK hP hD hwf hS hj1 hj2 g4 (Nat.le_of_ble_eq_true rfl) (Nat.le_of_ble_eq_true rfl) d_Machine_takePacket_8 (fun H locs hP hD hwf hS => ?_)
  have hkp := kp_A eM5 hkp
  refine lv_aload_n hx hb d_Machine_takePacket_11 rfl (lv_at hl 0 rfl) ?_
  refine lv_iload_n hx hb d_Machine_takePacket_12 rfl (lv_at hl 2 rfl) ?_
  obtain ⟨M6, eM6, h⟩ := st_ob h
  refine p_Machine_8 eM6 hx hb hts hown hK hP hD hwf hS hj0 (hts _ u_632) d_Machine_takePacket_13 (fun H locs hP hD hwf hS => ?_)
  have hkp := kp_I eM6 hkp
  exact me_retv (me_kp M0) h hx hb hr hlocks hwf hkp hP hK hD hS d_Machine_takePacket_16
theorem d_G_packet_0 : decode prog_1_method_9_code 0 = .ok (.aload_n 0, 1) := by decide +kernel
theorem d_G_packet_1 : decode prog_1_method_9_code 1 = .ok (.getfield 58, 3) := by decide +kernel
theorem d_G_packet_4 : decode prog_1_method_9_code 4 = .ok (.istore_n 2, 1) := by decide +kernel
theorem d_G_packet_5 : decode prog_1_method_9_code 5 = .ok (.aload_n 0, 1) := by decide +kernel
theorem d_G_packet_6 : decode prog_1_method_9_code 6 = .ok (.iconst 0, 1) := by decide +kernel
theorem d_G_packet_7 : decode prog_1_method_9_code 7 = .ok (.putfield 58, 3) := by decide +kernel
theorem d_G_packet_10 : decode prog_1_method_9_code 10 = .ok (.iload_n 1, 1) := by decide +kernel
theorem d_G_packet_11 : decode prog_1_method_9_code 11 = .ok (.ifCond .lt 15, 3) := by decide +kernel
theorem d_G_packet_26 : decode prog_1_method_9_code 26 = .ok (.iconst 0, 1) := by decide +kernel
theorem d_G_packet_27 : decode prog_1_method_9_code 27 = .ok (.ireturn, 1) := by decide +kernel
theorem d_G_packet_14 : decode prog_1_method_9_code 14 = .ok (.iload_n 1, 1) := by decide +kernel
theorem d_G_packet_15 : decode prog_1_method_9_code 15 = .ok (.sipush 2000, 3) := by decide +kernel
theorem d_G_packet_18 : decode prog_1_method_9_code 18 = .ok (.if_icmp .gt 8, 3) := by decide +kernel
theorem d_G_packet_21 : decode prog_1_method_9_code 21 = .ok (.iload_n 1, 1) := by decide +kernel
theorem d_G_packet_22 : decode prog_1_method_9_code 22 = .ok (.iload_n 2, 1) := by decide +kernel
theorem d_G_packet_23 : decode prog_1_method_9_code 23 = .ok (.if_icmp .le 5, 3) := by decide +kernel
theorem d_G_packet_28 : decode prog_1_method_9_code 28 = .ok (.aload_n 0, 1) := by decide +kernel
theorem d_G_packet_29 : decode prog_1_method_9_code 29 = .ok (.getfield 50, 3) := by decide +kernel
theorem g_G_8 {p : Program} {l : Launch} {e : Env} {R : Room} {s : Jvm.State} {m : MethodId} {args : Array Value} {below : List Frame} {meth : Method} {c : Code} {H : Heap} {locs : List Loc} {cells slots : Nat} {Q : Jvm.State → Prop} {cc : ByteArray} {pc : Nat} {ls : Array Slot} {rest : List Value} {D : va_G} {ad : Nat → Nat → Nat} {ca : Nat → ClassId} {M : me_M} {N : Nat → Nat} {own : String} {index j : Nat} (hexec : p.tables.exec = Jvm.exec) (hb : c.code = cc) (hts : ∀ w ∈ fg_g, w.before args s = true) (hown : s.vm.findClass own = some m.cls) (hK : va_K D classes (me_T ca) s) (hP : va_P D classes (me_W ad ca M) H) (hwf : me_wf N M) (hj : j < N 0) (hlink : (Cond.fieldLink own index "FilterGuard" "machine" "LFilterGuard$Machine;").before args s = true) (hdg : decode cc pc = .ok (.getfield index, 3)) (kk : W p l e R s m args below meth c H locs cells slots Q (F0 m (pc + 3) ls (va_rf ((mR M 0 j 8).map (ad 5)) :: rest))) : W p l e R s m args below meth c H locs cells slots Q (F0 m pc ls (.ref (ad 0 j) :: rest)) := me_get (k := 0) (f := 8) (C := "FilterGuard") (T := F_G) (Nf := 14) hexec hb hts i_G hown hK hP hwf hj (by decide) rfl (by decide) (by decide) hlink (fun _ h9 => h9) hdg kk
theorem d_G_packet_32 : decode prog_1_method_9_code 32 = .ok (.aload_n 0, 1) := by decide +kernel
theorem d_G_packet_33 : decode prog_1_method_9_code 33 = .ok (.getfield 9, 3) := by decide +kernel
theorem d_G_packet_36 : decode prog_1_method_9_code 36 = .ok (.iload_n 1, 1) := by decide +kernel
theorem d_G_packet_37 : decode prog_1_method_9_code 37 = .ok (.invokevirtual 166, 3) := by decide +kernel
theorem u_770 : Cond.methodLink "FilterGuard" 166 ⟨"FilterGuard$Machine", "takePacket", "([BI)V"⟩ ∈ fg_g := fg_in (List.mem_of_getElem? (i := 770) (by decide +kernel)) rfl
theorem u_773 : Cond.code ⟨"FilterGuard$Machine", "takePacket", "([BI)V"⟩ prog_7_method_2_code 3 none ∈ fg_g := fg_in (List.mem_of_getElem? (i := 773) (by decide +kernel)) rfl
theorem u_771 : Cond.instanceMethod ⟨"FilterGuard$Machine", "takePacket", "([BI)V"⟩ ∈ fg_g := fg_in (List.mem_of_getElem? (i := 771) (by decide +kernel)) rfl
theorem u_772 : Cond.selects "FilterGuard$Machine" ⟨"FilterGuard$Machine", "takePacket", "([BI)V"⟩ ⟨"FilterGuard$Machine", "takePacket", "([BI)V"⟩ ∈ fg_g := fg_in (List.mem_of_getElem? (i := 772) (by decide +kernel)) rfl
theorem d_G_packet_40 : decode prog_1_method_9_code 40 = .ok (.iconst 1, 1) := by decide +kernel
theorem d_G_packet_41 : decode prog_1_method_9_code 41 = .ok (.ireturn, 1) := by decide +kernel
abbrev y_G_packet : MethodName := ⟨"FilterGuard", "packet", "(I)Z"⟩
def rm_G_packet : Room := { frames := 2, cells := 0, slots := 0, locals := 82 }
abbrev q_G_packet (D : va_G) (ad : Nat → Nat → Nat) (ca : Nat → ClassId) (N : Nat → Nat) (M0 MZ : me_M) (RZ : Int32) (A : Nat → Prop) : Array Value → Jvm.State → Outcome → Jvm.State → Prop := va_Qi (fun r (_ : Unit) => r = RZ ∧ me_wf N MZ ∧ me_kp M0 MZ ∧ (RZ = 1 ∨ RZ = 0)) (fg_B D A (fun _ => me_W ad ca MZ) (fun _ => [])) A
set_option maxHeartbeats 4000000 in
set_option maxRecDepth 100000 in
theorem c_G_packet (l : Launch) (D : va_G) (ad : Nat → Nat → Nat) (ca : Nat → ClassId) (N : Nat → Nat) (M0 MZ : me_M) (RZ : Int32) (j0 : Nat) (x1 : Int32) (h : f_G_packet M0 j0 x1 = (some (MZ, RZ))) (hwf : me_wf N M0) (hj0 : j0 < N 0) (sz : Nat) : Met l y_G_packet (fg_w y_G_packet prog_1_method_9_code 3 (some .boolean)) rm_G_packet (va_Pc [.ref (ad 0 j0), .int x1] (fz_P D (me_T ca) (me_W ad ca M0) sz)) (q_G_packet D ad ca N M0 MZ RZ (va_A (me_W ad ca M0) sz)) rm_G_packet.cells rm_G_packet.slots (va_A (me_W ad ca M0) sz) := by
  refine fz_enter (fun A => q_G_packet D ad ca N M0 MZ RZ A) (by decide +kernel) (Nat.le_of_ble_eq_true rfl) ?_
  intro p e s m below meth c ls A hx hb hml hown hts hr hlocks hin hP hK hD hS hA hX hl hz
  have hl : lv_has ls 3 [(0, .ref (ad 0 j0)), (1, .int x1)] := hl
  unfold f_G_packet at h
  have hkp : me_kp M0 M0 := me_kp.rf
  have hkb := hkp
  refine lv_aload_n hx hb d_G_packet_0 rfl (lv_at hl 0 rfl) ?_
  refine g_G_1 hx hb hts hown hK hP hwf hj0 (hts _ u_694) d_G_packet_1 ?_
  obtain ⟨v1, ev1, h⟩ := st_ob h
  refine fg_topi (y := v1) ev1.symm ?_
  refine lv_istore_n (lv' := [(2, .int v1), (0, .ref (ad 0 j0)), (1, .int x1)]) hx hb d_G_packet_4 rfl hl (by decide) rfl (fun ls hl => ?_)
  refine lv_aload_n hx hb d_G_packet_5 rfl (lv_at hl 1 rfl) ?_
  refine lv_iconst (v := 0) hx hb d_G_packet_6 (by decide) ?_
  obtain ⟨M2, eM2, h⟩ := st_ob h
  refine p_G_1 eM2 hx hb hts hown hK hP hD hwf hS hj0 (hts _ u_694) d_G_packet_7 (fun H locs hP hD hwf hS => ?_)
  have hkp := kp_I eM2 hkp
  refine lv_iload_n hx hb d_G_packet_10 rfl (lv_at hl 2 rfl) ?_
  refine lv_if_lt (tgt := 26) hx hb d_G_packet_11 (by decide) (fun c3 => ?_) (fun c3 => ?_)
  · have h := if_t c3 h
    refine lv_iconst (v := 0) hx hb d_G_packet_26 (by decide) ?_
    exact me_retz (me_kp M0) h (by decide) hx hb hr hlocks hwf hkp hP hK hD hS d_G_packet_27
  have h := if_f c3 h
  refine lv_iload_n hx hb d_G_packet_14 rfl (lv_at hl 2 rfl) ?_
  refine lv_sipush (v := 2000) hx hb d_G_packet_15 (by decide) ?_
  refine lv_icmp_gt (tgt := 26) hx hb d_G_packet_18 (by decide) (fun c4 => ?_) (fun c4 => ?_)
  · have h := if_t c4 h
    refine lv_iconst (v := 0) hx hb d_G_packet_26 (by decide) ?_
    exact me_retz (me_kp M0) h (by decide) hx hb hr hlocks hwf hkp hP hK hD hS d_G_packet_27
  have h := if_f c4 h
  refine lv_iload_n hx hb d_G_packet_21 rfl (lv_at hl 2 rfl) ?_
  refine lv_iload_n hx hb d_G_packet_22 rfl (lv_at hl 0 rfl) ?_
  refine lv_icmp_le (tgt := 28) hx hb d_G_packet_23 (by decide) (fun c5 => ?_) (fun c5 => ?_)
  · have h := if_t c5 h
    refine lv_aload_n hx hb d_G_packet_28 rfl (lv_at hl 1 rfl) ?_
    refine g_G_8 hx hb hts hown hK hP hwf hj0 (hts _ u_701) d_G_packet_29 ?_
    obtain ⟨j6, e7, h⟩ := bd_ob h
    have hj6 : j6 < N 5 := (hwf.2.1 0 j0 8 _ (kp_r hkb hkp e7) (by decide) hj0)
    refine me_opt (j := j6) (kp_r hkb hkp e7) ?_
    refine lv_aload_n hx hb d_G_packet_32 rfl (lv_at hl 1 rfl) ?_
    refine g_G_0 hx hb hts hown hK hP hwf hj0 (hts _ u_693) d_G_packet_33 ?_
    obtain ⟨j8, e9, h⟩ := bd_ob h
    have hj8 : j8 < N 14 := (hwf.2.1 0 j0 0 _ (kp_r hkb hkp e9) (by decide) hj0)
    refine me_opt (j := j8) (kp_r hkb hkp e9) ?_
    refine lv_iload_n hx hb d_G_packet_36 rfl (lv_at hl 2 rfl) ?_
    obtain ⟨M10, eM10, h⟩ := bd_ob h
    refine me_thenv0 (M1 := M10) (me_runV (C := "FilterGuard$Machine") (As := [.ref (ad 14 j8), .int x1]) (rest := []) ⟨hx, hb, hml, hown, hts⟩ (c_Machine_takePacket l D ad ca N M2 M10 j6 j8 x1 eM10 hwf hj6 hj8 _) rfl (by show fg_nm y_Machine_takePacket 2; decide +kernel) u_770 u_771 u_772 u_190 u_773 ⟨Nat.le_of_ble_eq_true rfl, Nat.le_of_ble_eq_true rfl⟩ hX hz hK hP hD hwf hS hA hj6 (by decide) rfl rfl rfl hl.1 (Nat.le_of_ble_eq_true rfl) d_G_packet_37 ⟨Nat.le_of_ble_eq_true rfl, Nat.le_of_ble_eq_true rfl⟩) hP hD hK hS hA rfl rfl (fun H locs hw hP hD hS => ?_)
    obtain ⟨hwf, hk9⟩ := hw
    have hkp := hkp.tr hk9
    refine lv_iconst (v := 1) hx hb d_G_packet_40 (by decide) ?_
    exact me_retz (me_kp M0) h (by decide) hx hb hr hlocks hwf hkp hP hK hD hS d_G_packet_41
  have h := if_f c5 h
  refine lv_iconst (v := 0) hx hb d_G_packet_26 (by decide) ?_
  exact me_retz (me_kp M0) h (by decide) hx hb hr hlocks hwf hkp hP hK hD hS d_G_packet_27
theorem d_Machine_writeBytes_3 : decode prog_7_method_15_code 3 = .ok (.iload 4, 2) := by decide +kernel
theorem d_Machine_writeBytes_5 : decode prog_7_method_15_code 5 = .ok (.iload_n 1, 1) := by decide +kernel
theorem d_Machine_writeBytes_6 : decode prog_7_method_15_code 6 = .ok (.if_icmp .ge 30, 3) := by decide +kernel
theorem d_Machine_writeBytes_36 : decode prog_7_method_15_code 36 = .ok (.return_, 1) := by decide +kernel
theorem d_Machine_writeBytes_9 : decode prog_7_method_15_code 9 = .ok (.aload_n 0, 1) := by decide +kernel
theorem d_Machine_writeBytes_10 : decode prog_7_method_15_code 10 = .ok (.getfield 51, 3) := by decide +kernel
theorem g_Machine_18 {p : Program} {l : Launch} {e : Env} {R : Room} {s : Jvm.State} {m : MethodId} {args : Array Value} {below : List Frame} {meth : Method} {c : Code} {H : Heap} {locs : List Loc} {cells slots : Nat} {Q : Jvm.State → Prop} {cc : ByteArray} {pc : Nat} {ls : Array Slot} {rest : List Value} {D : va_G} {ad : Nat → Nat → Nat} {ca : Nat → ClassId} {M : me_M} {N : Nat → Nat} {own : String} {index j : Nat} (hexec : p.tables.exec = Jvm.exec) (hb : c.code = cc) (hts : ∀ w ∈ fg_g, w.before args s = true) (hown : s.vm.findClass own = some m.cls) (hK : va_K D classes (me_T ca) s) (hP : va_P D classes (me_W ad ca M) H) (hwf : me_wf N M) (hj : j < N 5) (hlink : (Cond.fieldLink own index "FilterGuard$Machine" "area" "[B").before args s = true) (hdg : decode cc pc = .ok (.getfield index, 3)) (kk : W p l e R s m args below meth c H locs cells slots Q (F0 m (pc + 3) ls (va_rf ((mR M 5 j 18).map (ad 14)) :: rest))) : W p l e R s m args below meth c H locs cells slots Q (F0 m pc ls (.ref (ad 5 j) :: rest)) := me_get (k := 5) (f := 18) (C := "FilterGuard$Machine") (T := F_Machine) (Nf := 20) hexec hb hts i_Machine hown hK hP hwf hj (by decide) rfl (by decide) (by decide) hlink (fun _ h9 => h9) hdg kk
theorem d_Machine_writeBytes_13 : decode prog_7_method_15_code 13 = .ok (.aload_n 0, 1) := by decide +kernel
theorem d_Machine_writeBytes_14 : decode prog_7_method_15_code 14 = .ok (.getfield 64, 3) := by decide +kernel
theorem u_651 : Cond.fieldLink "FilterGuard$Machine" 64 "FilterGuard$Machine" "areaAt" "I" ∈ fg_g := fg_in (List.mem_of_getElem? (i := 651) (by decide +kernel)) rfl
theorem g_Machine_19 {p : Program} {l : Launch} {e : Env} {R : Room} {s : Jvm.State} {m : MethodId} {args : Array Value} {below : List Frame} {meth : Method} {c : Code} {H : Heap} {locs : List Loc} {cells slots : Nat} {Q : Jvm.State → Prop} {cc : ByteArray} {pc : Nat} {ls : Array Slot} {rest : List Value} {D : va_G} {ad : Nat → Nat → Nat} {ca : Nat → ClassId} {M : me_M} {N : Nat → Nat} {own : String} {index j : Nat} (hexec : p.tables.exec = Jvm.exec) (hb : c.code = cc) (hts : ∀ w ∈ fg_g, w.before args s = true) (hown : s.vm.findClass own = some m.cls) (hK : va_K D classes (me_T ca) s) (hP : va_P D classes (me_W ad ca M) H) (hwf : me_wf N M) (hj : j < N 5) (hlink : (Cond.fieldLink own index "FilterGuard$Machine" "areaAt" "I").before args s = true) (hdg : decode cc pc = .ok (.getfield index, 3)) (kk : W p l e R s m args below meth c H locs cells slots Q (F0 m (pc + 3) ls (.int (mI M 5 j 19) :: rest))) : W p l e R s m args below meth c H locs cells slots Q (F0 m pc ls (.ref (ad 5 j) :: rest)) := me_get (k := 5) (f := 19) (C := "FilterGuard$Machine") (T := F_Machine) (Nf := 20) hexec hb hts i_Machine hown hK hP hwf hj (by decide) rfl (by decide) (by decide) hlink (fun _ h9 => h9) hdg kk
theorem d_Machine_writeBytes_17 : decode prog_7_method_15_code 17 = .ok (.iload 4, 2) := by decide +kernel
theorem d_Machine_writeBytes_19 : decode prog_7_method_15_code 19 = .ok (.iadd, 1) := by decide +kernel
theorem d_Machine_writeBytes_20 : decode prog_7_method_15_code 20 = .ok (.lload_n 2, 1) := by decide +kernel
theorem d_Machine_writeBytes_21 : decode prog_7_method_15_code 21 = .ok (.bipush 8, 2) := by decide +kernel
theorem d_Machine_writeBytes_23 : decode prog_7_method_15_code 23 = .ok (.iload 4, 2) := by decide +kernel
theorem d_Machine_writeBytes_25 : decode prog_7_method_15_code 25 = .ok (.imul, 1) := by decide +kernel
theorem d_Machine_writeBytes_26 : decode prog_7_method_15_code 26 = .ok (.lushr, 1) := by decide +kernel
theorem d_Machine_writeBytes_27 : decode prog_7_method_15_code 27 = .ok (.l2i, 1) := by decide +kernel
theorem d_Machine_writeBytes_28 : decode prog_7_method_15_code 28 = .ok (.i2b, 1) := by decide +kernel
theorem d_Machine_writeBytes_29 : decode prog_7_method_15_code 29 = .ok (.bastore, 1) := by decide +kernel
theorem d_Machine_writeBytes_30 : decode prog_7_method_15_code 30 = .ok (.iinc 4 1, 3) := by decide +kernel
theorem d_Machine_writeBytes_33 : decode prog_7_method_15_code 33 = .ok (.goto (-30), 3) := by decide +kernel
theorem d_Machine_writeBytes_0 : decode prog_7_method_15_code 0 = .ok (.iconst 0, 1) := by decide +kernel
theorem d_Machine_writeBytes_1 : decode prog_7_method_15_code 1 = .ok (.istore 4, 2) := by decide +kernel
abbrev y_Machine_writeBytes : MethodName := ⟨"FilterGuard$Machine", "writeBytes", "(IJ)V"⟩
def rm_Machine_writeBytes : Room := { frames := 1, cells := 0, slots := 0, locals := 20 }
abbrev q_Machine_writeBytes (D : va_G) (ad : Nat → Nat → Nat) (ca : Nat → ClassId) (N : Nat → Nat) (M0 MZ : me_M) (A : Nat → Prop) : Array Value → Jvm.State → Outcome → Jvm.State → Prop := va_Qv (fun (_ : Unit) => me_wf N MZ ∧ me_kp M0 MZ) (fg_B D A (fun _ => me_W ad ca MZ) (fun _ => [])) A
set_option maxHeartbeats 4000000 in
set_option maxRecDepth 100000 in
theorem c_Machine_writeBytes (l : Launch) (D : va_G) (ad : Nat → Nat → Nat) (ca : Nat → ClassId) (N : Nat → Nat) (M0 MZ : me_M) (j0 : Nat) (x1 : Int32) (x2 : Int64) (h : f_Machine_writeBytes M0 j0 x1 x2 = (some MZ)) (hwf : me_wf N M0) (hj0 : j0 < N 5) (sz : Nat) : Met l y_Machine_writeBytes (fg_w y_Machine_writeBytes prog_7_method_15_code 5 none) rm_Machine_writeBytes (va_Pc [.ref (ad 5 j0), .int x1, .long x2] (fz_P D (me_T ca) (me_W ad ca M0) sz)) (q_Machine_writeBytes D ad ca N M0 MZ (va_A (me_W ad ca M0) sz)) rm_Machine_writeBytes.cells rm_Machine_writeBytes.slots (va_A (me_W ad ca M0) sz) := by
  refine fz_enter (fun A => q_Machine_writeBytes D ad ca N M0 MZ A) (by decide +kernel) (Nat.le_of_ble_eq_true rfl) ?_
  intro p e s m below meth c ls A hx hb hml hown hts hr hlocks hin hP hK hD hS hA hX hl hz
  have hl : lv_has ls 5 [(0, .ref (ad 5 j0)), (1, .int x1), (2, .long x2)] := hl
  unfold f_Machine_writeBytes at h
  have hkp : me_kp M0 M0 := me_kp.rf
  have hkb := hkp
  have b_3 : ∀ (fu : Nat), ∀ (M : me_M) (y4 : Int32) (H : Heap) (locs : List Loc) (ls : Array Slot), f_Machine_writeBytes_l3 j0 x1 x2 fu M y4 = (some MZ) → me_wf N M → me_kp M0 M → va_P D classes (me_W ad ca M) H → va_D A (me_W ad ca M) → va_S A s.heap H locs → lv_has ls 5 [(0, .ref (ad 5 j0)), (1, .int x1), (2, .long x2), (4, .int y4)] → W p l e rm_Machine_writeBytes s m [.ref (ad 5 j0), .int x1, .long x2].toArray below meth c H locs 0 0 (MQ below (q_Machine_writeBytes D ad ca N M0 MZ A) [.ref (ad 5 j0), .int x1, .long x2].toArray s rm_Machine_writeBytes.cells rm_Machine_writeBytes.slots A) (F0 m 3 ls []) := by
    intro fu
    induction fu with
    | zero =>
      intro M y4 H locs ls h hwf hkp hP hD hS hl
      cases h
    | succ fu ih =>
      intro M y4 H locs ls h hwf hkp hP hD hS hl
      unfold f_Machine_writeBytes_l3 at h
      have hkb := hkp
      refine lv_iload hx hb d_Machine_writeBytes_3 (lv_at hl 3 rfl) ?_
      refine lv_iload_n hx hb d_Machine_writeBytes_5 rfl (lv_at hl 1 rfl) ?_
      refine lv_icmp_ge (tgt := 36) hx hb d_Machine_writeBytes_6 (by decide) (fun c1 => ?_) (fun c1 => ?_)
      · have h := if_t c1 h
        exact me_retv (me_kp M0) h hx hb hr hlocks hwf hkp hP hK hD hS d_Machine_writeBytes_36
      have h := if_f c1 h
      refine lv_aload_n hx hb d_Machine_writeBytes_9 rfl (lv_at hl 0 rfl) ?_
      refine g_Machine_18 hx hb hts hown hK hP hwf hj0 (hts _ u_650) d_Machine_writeBytes_10 ?_
      obtain ⟨j2, e3, h⟩ := bd_ob h
      have hj2 : j2 < N 14 := (hwf.2.1 5 j0 18 _ e3 (by decide) hj0)
      refine me_opt (j := j2) e3 ?_
      refine lv_aload_n hx hb d_Machine_writeBytes_13 rfl (lv_at hl 0 rfl) ?_
      refine g_Machine_19 hx hb hts hown hK hP hwf hj0 (hts _ u_651) d_Machine_writeBytes_14 ?_
      refine lv_iload hx hb d_Machine_writeBytes_17 (lv_at hl 3 rfl) ?_
      refine lv_iadd hx hb d_Machine_writeBytes_19 ?_
      refine lv_lload_n hx hb d_Machine_writeBytes_20 rfl (lv_at hl 2 rfl) ?_
      refine lv_bipush (v := 8) hx hb d_Machine_writeBytes_21 (by decide) ?_
      refine lv_iload hx hb d_Machine_writeBytes_23 (lv_at hl 3 rfl) ?_
      refine lv_imul hx hb d_Machine_writeBytes_25 ?_
      refine lv_lushr (v := jlushr x2 (8 * y4)) hx hb d_Machine_writeBytes_26 rfl ?_
      refine lv_l2i (v := (jlushr x2 (8 * y4)).toInt32) hx hb d_Machine_writeBytes_27 rfl ?_
      refine lv_i2b (v := ((jlushr x2 (8 * y4)).toInt32).toInt8.toInt32) hx hb d_Machine_writeBytes_28 rfl ?_
      obtain ⟨g4, h⟩ := gd_ob h
      obtain ⟨M5, eM5, h⟩ := st_ob h
      refine me_bast eM5 hx hb hK hP hD hwf hS hj2 g4 d_Machine_writeBytes_29 (fun H locs hP hD hwf hS => ?_)
      have hkp := kp_I eM5 hkp
      refine lv_iinc (v := y4 + 1) (lv' := [(4, .int (y4 + 1)), (0, .ref (ad 5 j0)), (1, .int x1), (2, .long x2)]) hx hb d_Machine_writeBytes_30 hl (k := 3) rfl (by rfl) (by decide) rfl (fun ls hl => ?_)
      refine lv_goto (tgt := 3) hx hb d_Machine_writeBytes_33 (by decide) ?_
      exact ih M5 (y4 + 1) _ _ _ h hwf hkp hP hD hS (lv_sub hl [1, 2, 3, 0] rfl)
  refine lv_iconst (v := 0) hx hb d_Machine_writeBytes_0 (by decide) ?_
  refine lv_istore (lv' := [(4, .int 0), (0, .ref (ad 5 j0)), (1, .int x1), (2, .long x2)]) hx hb d_Machine_writeBytes_1 hl (by decide) rfl (fun ls hl => ?_)
  exact b_3 _ M0 (0 : Int32) _ _ _ h hwf hkp hP hD hS (lv_sub hl [1, 2, 3, 0] rfl)
theorem d_Machine_writeContext_0 : decode prog_7_method_3_code 0 = .ok (.aload_n 0, 1) := by decide +kernel
theorem d_Machine_writeContext_1 : decode prog_7_method_3_code 1 = .ok (.aload_n 0, 1) := by decide +kernel
theorem d_Machine_writeContext_2 : decode prog_7_method_3_code 2 = .ok (.getfield 9, 3) := by decide +kernel
theorem g_Machine_4 {p : Program} {l : Launch} {e : Env} {R : Room} {s : Jvm.State} {m : MethodId} {args : Array Value} {below : List Frame} {meth : Method} {c : Code} {H : Heap} {locs : List Loc} {cells slots : Nat} {Q : Jvm.State → Prop} {cc : ByteArray} {pc : Nat} {ls : Array Slot} {rest : List Value} {D : va_G} {ad : Nat → Nat → Nat} {ca : Nat → ClassId} {M : me_M} {N : Nat → Nat} {own : String} {index j : Nat} (hexec : p.tables.exec = Jvm.exec) (hb : c.code = cc) (hts : ∀ w ∈ fg_g, w.before args s = true) (hown : s.vm.findClass own = some m.cls) (hK : va_K D classes (me_T ca) s) (hP : va_P D classes (me_W ad ca M) H) (hwf : me_wf N M) (hj : j < N 5) (hlink : (Cond.fieldLink own index "FilterGuard$Machine" "context" "[B").before args s = true) (hdg : decode cc pc = .ok (.getfield index, 3)) (kk : W p l e R s m args below meth c H locs cells slots Q (F0 m (pc + 3) ls (va_rf ((mR M 5 j 4).map (ad 14)) :: rest))) : W p l e R s m args below meth c H locs cells slots Q (F0 m pc ls (.ref (ad 5 j) :: rest)) := me_get (k := 5) (f := 4) (C := "FilterGuard$Machine") (T := F_Machine) (Nf := 20) hexec hb hts i_Machine hown hK hP hwf hj (by decide) rfl (by decide) (by decide) hlink (fun _ h9 => h9) hdg kk
theorem d_Machine_writeContext_5 : decode prog_7_method_3_code 5 = .ok (.putfield 51, 3) := by decide +kernel
theorem d_Machine_writeContext_8 : decode prog_7_method_3_code 8 = .ok (.aload_n 0, 1) := by decide +kernel
theorem d_Machine_writeContext_9 : decode prog_7_method_3_code 9 = .ok (.iload_n 1, 1) := by decide +kernel
theorem d_Machine_writeContext_10 : decode prog_7_method_3_code 10 = .ok (.putfield 64, 3) := by decide +kernel
theorem p_Machine_19 {p : Program} {l : Launch} {e : Env} {R : Room} {s : Jvm.State} {m : MethodId} {args : Array Value} {below : List Frame} {meth : Method} {c : Code} {H : Heap} {locs : List Loc} {cells slots : Nat} {Q : Jvm.State → Prop} {cc : ByteArray} {pc : Nat} {ls : Array Slot} {rest : List Value} {D : va_G} {A : Nat → Prop} {H0 : Heap} {ad : Nat → Nat → Nat} {ca : Nat → ClassId} {M M1 : me_M} {N : Nat → Nat} {own : String} {index j : Nat} {v : Int32} (he : M1 = wI M 5 j 19 v) (hexec : p.tables.exec = Jvm.exec) (hb : c.code = cc) (hts : ∀ w ∈ fg_g, w.before args s = true) (hown : s.vm.findClass own = some m.cls) (hK : va_K D classes (me_T ca) s) (hP : va_P D classes (me_W ad ca M) H) (hD : va_D A (me_W ad ca M)) (hwf : me_wf N M) (hS : va_S A H0 H locs) (hj : j < N 5) (hlink : (Cond.fieldLink own index "FilterGuard$Machine" "areaAt" "I").before args s = true) (hdg : decode cc pc = .ok (.putfield index, 3)) (kk : ∀ (H1 : Heap) (locs1 : List Loc), va_P D classes (me_W ad ca M1) H1 → va_D A (me_W ad ca M1) → me_wf N M1 → va_S A H0 H1 locs1 → W p l e R s m args below meth c H1 locs1 cells slots Q (F0 m (pc + 3) ls rest)) : W p l e R s m args below meth c H locs cells slots Q (F0 m pc ls (.int v :: .ref (ad 5 j) :: rest)) := by
  subst he
  exact me_put (M1 := wI M 5 j 19 v) (k := 5) (f := 19) (C := "FilterGuard$Machine") (T := F_Machine) (Nf := 20) hexec hb hts i_Machine t_Machine t_Machine_ok n_Machine hown hK hP hD hwf hS hj (by decide) rfl (by decide) (by decide) hlink (fun _ h9 => h9) rfl rfl rfl rfl (fun a b h => me_wIE h) (me_fIw (by decide) (by decide)) hdg (fun H1 locs1 a1 a2 a3 => kk H1 locs1 a1 a2 (me_wfI hwf (fun z => absurd z (by decide)) (fun z => absurd z (by decide))) a3)
theorem d_Machine_writeContext_13 : decode prog_7_method_3_code 13 = .ok (.aload_n 0, 1) := by decide +kernel
theorem d_Machine_writeContext_14 : decode prog_7_method_3_code 14 = .ok (.bipush 8, 2) := by decide +kernel
theorem d_Machine_writeContext_16 : decode prog_7_method_3_code 16 = .ok (.lload_n 2, 1) := by decide +kernel
theorem d_Machine_writeContext_17 : decode prog_7_method_3_code 17 = .ok (.invokevirtual 67, 3) := by decide +kernel
theorem u_783 : Cond.methodLink "FilterGuard$Machine" 67 ⟨"FilterGuard$Machine", "writeBytes", "(IJ)V"⟩ ∈ fg_g := fg_in (List.mem_of_getElem? (i := 783) (by decide +kernel)) rfl
theorem u_786 : Cond.code ⟨"FilterGuard$Machine", "writeBytes", "(IJ)V"⟩ prog_7_method_15_code 5 none ∈ fg_g := fg_in (List.mem_of_getElem? (i := 786) (by decide +kernel)) rfl
theorem u_785 : Cond.instanceMethod ⟨"FilterGuard$Machine", "writeBytes", "(IJ)V"⟩ ∈ fg_g := fg_in (List.mem_of_getElem? (i := 785) (by decide +kernel)) rfl
theorem u_1 : Cond.selects "FilterGuard$Machine" ⟨"FilterGuard$Machine", "writeBytes", "(IJ)V"⟩ ⟨"FilterGuard$Machine", "writeBytes", "(IJ)V"⟩ ∈ fg_g := fg_in (List.mem_of_getElem? (i := 1) (by decide +kernel)) rfl
theorem d_Machine_writeContext_20 : decode prog_7_method_3_code 20 = .ok (.return_, 1) := by decide +kernel
abbrev y_Machine_writeContext : MethodName := ⟨"FilterGuard$Machine", "writeContext", "(IJ)V"⟩
def rm_Machine_writeContext : Room := { frames := 2, cells := 0, slots := 0, locals := 44 }
abbrev q_Machine_writeContext (D : va_G) (ad : Nat → Nat → Nat) (ca : Nat → ClassId) (N : Nat → Nat) (M0 MZ : me_M) (A : Nat → Prop) : Array Value → Jvm.State → Outcome → Jvm.State → Prop := va_Qv (fun (_ : Unit) => me_wf N MZ ∧ me_kz M0 MZ) (fg_B D A (fun _ => me_W ad ca MZ) (fun _ => [])) A
set_option maxHeartbeats 4000000 in
set_option maxRecDepth 100000 in
theorem c_Machine_writeContext (l : Launch) (D : va_G) (ad : Nat → Nat → Nat) (ca : Nat → ClassId) (N : Nat → Nat) (M0 MZ : me_M) (j0 : Nat) (x1 : Int32) (x2 : Int64) (h : f_Machine_writeContext M0 j0 x1 x2 = (some MZ)) (hwf : me_wf N M0) (hj0 : j0 < N 5) (sz : Nat) : Met l y_Machine_writeContext (fg_w y_Machine_writeContext prog_7_method_3_code 4 none) rm_Machine_writeContext (va_Pc [.ref (ad 5 j0), .int x1, .long x2] (fz_P D (me_T ca) (me_W ad ca M0) sz)) (q_Machine_writeContext D ad ca N M0 MZ (va_A (me_W ad ca M0) sz)) rm_Machine_writeContext.cells rm_Machine_writeContext.slots (va_A (me_W ad ca M0) sz) := by
  refine fz_enter (fun A => q_Machine_writeContext D ad ca N M0 MZ A) (by decide +kernel) (Nat.le_of_ble_eq_true rfl) ?_
  intro p e s m below meth c ls A hx hb hml hown hts hr hlocks hin hP hK hD hS hA hX hl hz
  have hl : lv_has ls 4 [(0, .ref (ad 5 j0)), (1, .int x1), (2, .long x2)] := hl
  unfold f_Machine_writeContext at h
  have hkp : me_kz M0 M0 := me_kz.rf
  have hkb := hkp
  refine lv_aload_n hx hb d_Machine_writeContext_0 rfl (lv_at hl 0 rfl) ?_
  refine lv_aload_n hx hb d_Machine_writeContext_1 rfl (lv_at hl 0 rfl) ?_
  refine g_Machine_4 hx hb hts hown hK hP hwf hj0 (hts _ u_627) d_Machine_writeContext_2 ?_
  obtain ⟨j1, e2, h⟩ := bd_ob h
  have hj1 : j1 < N 14 := (hwf.2.1 5 j0 4 _ e2 (by decide) hj0)
  refine me_opt (j := j1) e2 ?_
  obtain ⟨M3, eM3, h⟩ := st_ob h
  refine p_Machine_18 eM3 hx hb hts hown hK hP hD hwf hS hj0 hj1 (hts _ u_650) d_Machine_writeContext_5 (fun H locs hP hD hwf hS => ?_)
  have hkp := kz_R eM3 hkp
  refine lv_aload_n hx hb d_Machine_writeContext_8 rfl (lv_at hl 0 rfl) ?_
  refine lv_iload_n hx hb d_Machine_writeContext_9 rfl (lv_at hl 1 rfl) ?_
  obtain ⟨M4, eM4, h⟩ := st_ob h
  refine p_Machine_19 eM4 hx hb hts hown hK hP hD hwf hS hj0 (hts _ u_651) d_Machine_writeContext_10 (fun H locs hP hD hwf hS => ?_)
  have hkp := kz_I eM4 hkp
  refine lv_aload_n hx hb d_Machine_writeContext_13 rfl (lv_at hl 0 rfl) ?_
  refine lv_bipush (v := 8) hx hb d_Machine_writeContext_14 (by decide) ?_
  refine lv_lload_n hx hb d_Machine_writeContext_16 rfl (lv_at hl 2 rfl) ?_
  obtain ⟨M5, eM5, h⟩ := bd_ob h
  refine me_thenv0 (M1 := M5) (me_runV (C := "FilterGuard$Machine") (As := [.int 8, .long x2]) (rest := []) ⟨hx, hb, hml, hown, hts⟩ (c_Machine_writeBytes l D ad ca N M4 M5 j0 (8 : Int32) x2 eM5 hwf hj0 _) rfl (by show fg_nm y_Machine_writeBytes 2; decide +kernel) u_783 u_785 u_1 u_190 u_786 ⟨Nat.le_of_ble_eq_true rfl, Nat.le_of_ble_eq_true rfl⟩ hX hz hK hP hD hwf hS hA hj0 (by decide) rfl rfl rfl hl.1 (Nat.le_of_ble_eq_true rfl) d_Machine_writeContext_17 ⟨Nat.le_of_ble_eq_true rfl, Nat.le_of_ble_eq_true rfl⟩) hP hD hK hS hA rfl rfl (fun H locs hw hP hD hS => ?_)
  obtain ⟨hwf, hk9⟩ := hw
  have hkp := hkp.tr hk9.z
  exact me_retv (me_kz M0) h hx hb hr hlocks hwf hkp hP hK hD hS d_Machine_writeContext_20
