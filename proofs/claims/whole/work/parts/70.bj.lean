theorem d_Checks_canRead_86 : decode prog_3_method_13_code 86 = .ok (.iload 9, 2) := by decide +kernel
theorem d_Checks_canRead_88 : decode prog_3_method_13_code 88 = .ok (.i2l, 1) := by decide +kernel
theorem d_Checks_canRead_89 : decode prog_3_method_13_code 89 = .ok (.lload 7, 2) := by decide +kernel
theorem d_Checks_canRead_91 : decode prog_3_method_13_code 91 = .ok (.lload 4, 2) := by decide +kernel
theorem d_Checks_canRead_93 : decode prog_3_method_13_code 93 = .ok (.ladd, 1) := by decide +kernel
theorem d_Checks_canRead_94 : decode prog_3_method_13_code 94 = .ok (.lcmp, 1) := by decide +kernel
theorem d_Checks_canRead_95 : decode prog_3_method_13_code 95 = .ok (.ifCond .ge 33, 3) := by decide +kernel
theorem d_Checks_canRead_128 : decode prog_3_method_13_code 128 = .ok (.iconst 1, 1) := by decide +kernel
theorem d_Checks_canRead_129 : decode prog_3_method_13_code 129 = .ok (.ireturn, 1) := by decide +kernel
theorem d_Checks_canRead_98 : decode prog_3_method_13_code 98 = .ok (.aload_n 0, 1) := by decide +kernel
theorem d_Checks_canRead_99 : decode prog_3_method_13_code 99 = .ok (.getfield 12, 3) := by decide +kernel
theorem d_Checks_canRead_102 : decode prog_3_method_13_code 102 = .ok (.iload 9, 2) := by decide +kernel
theorem d_Checks_canRead_104 : decode prog_3_method_13_code 104 = .ok (.invokevirtual 114, 3) := by decide +kernel
theorem u_1630 : Cond.methodLink "FilterGuard$Checks" 114 ⟨"FilterGuard$State", "slotAt", "(I)LFilterGuard$Cell;"⟩ ∈ fg_g := fg_in (List.mem_of_getElem? (i := 1630) (by decide +kernel)) rfl
theorem d_Checks_canRead_107 : decode prog_3_method_13_code 107 = .ok (.iconst 1, 1) := by decide +kernel
theorem d_Checks_canRead_108 : decode prog_3_method_13_code 108 = .ok (.iload 9, 2) := by decide +kernel
theorem d_Checks_canRead_110 : decode prog_3_method_13_code 110 = .ok (.bipush 7, 2) := by decide +kernel
theorem d_Checks_canRead_112 : decode prog_3_method_13_code 112 = .ok (.iand, 1) := by decide +kernel
theorem d_Checks_canRead_113 : decode prog_3_method_13_code 113 = .ok (.ishl, 1) := by decide +kernel
theorem d_Checks_canRead_114 : decode prog_3_method_13_code 114 = .ok (.invokevirtual 122, 3) := by decide +kernel
theorem u_1631 : Cond.methodLink "FilterGuard$Checks" 122 ⟨"FilterGuard$Cell", "isReadable", "(I)Z"⟩ ∈ fg_g := fg_in (List.mem_of_getElem? (i := 1631) (by decide +kernel)) rfl
theorem d_Checks_canRead_117 : decode prog_3_method_13_code 117 = .ok (.ifCond .ne 5, 3) := by decide +kernel
theorem d_Checks_canRead_122 : decode prog_3_method_13_code 122 = .ok (.iinc 9 1, 3) := by decide +kernel
theorem d_Checks_canRead_125 : decode prog_3_method_13_code 125 = .ok (.goto (-39), 3) := by decide +kernel
theorem d_Checks_canRead_120 : decode prog_3_method_13_code 120 = .ok (.iconst 0, 1) := by decide +kernel
theorem d_Checks_canRead_121 : decode prog_3_method_13_code 121 = .ok (.ireturn, 1) := by decide +kernel
theorem d_Checks_canRead_0 : decode prog_3_method_13_code 0 = .ok (.aload_n 0, 1) := by decide +kernel
theorem d_Checks_canRead_1 : decode prog_3_method_13_code 1 = .ok (.getfield 22, 3) := by decide +kernel
theorem d_Checks_canRead_4 : decode prog_3_method_13_code 4 = .ok (.iload_n 1, 1) := by decide +kernel
theorem d_Checks_canRead_5 : decode prog_3_method_13_code 5 = .ok (.aaload, 1) := by decide +kernel
theorem d_Checks_canRead_6 : decode prog_3_method_13_code 6 = .ok (.getfield 34, 3) := by decide +kernel
theorem d_Checks_canRead_9 : decode prog_3_method_13_code 9 = .ok (.istore 6, 2) := by decide +kernel
theorem d_Checks_canRead_11 : decode prog_3_method_13_code 11 = .ok (.iload 6, 2) := by decide +kernel
theorem d_Checks_canRead_13 : decode prog_3_method_13_code 13 = .ok (.iconst 3, 1) := by decide +kernel
theorem d_Checks_canRead_14 : decode prog_3_method_13_code 14 = .ok (.if_icmp .eq 22, 3) := by decide +kernel
theorem d_Checks_canRead_36 : decode prog_3_method_13_code 36 = .ok (.lload_n 2, 1) := by decide +kernel
theorem d_Checks_canRead_37 : decode prog_3_method_13_code 37 = .ok (.iconst 2, 1) := by decide +kernel
theorem d_Checks_canRead_38 : decode prog_3_method_13_code 38 = .ok (.invokestatic 94, 3) := by decide +kernel
theorem o_1627 : Cond.methodLinkNest "FilterGuard$Checks" 94 ⟨"FilterGuard", "baseOf", "(I)J"⟩ "FilterGuard" ∈ lw_tbl := List.mem_of_getElem? (i := 1627) (by decide +kernel)
theorem d_Checks_canRead_41 : decode prog_3_method_13_code 41 = .ok (.lsub, 1) := by decide +kernel
theorem d_Checks_canRead_42 : decode prog_3_method_13_code 42 = .ok (.lstore 7, 2) := by decide +kernel
theorem d_Checks_canRead_44 : decode prog_3_method_13_code 44 = .ok (.lload 4, 2) := by decide +kernel
theorem d_Checks_canRead_46 : decode prog_3_method_13_code 46 = .ok (.lconst 0, 1) := by decide +kernel
theorem d_Checks_canRead_47 : decode prog_3_method_13_code 47 = .ok (.lcmp, 1) := by decide +kernel
theorem d_Checks_canRead_48 : decode prog_3_method_13_code 48 = .ok (.ifCond .lt 31, 3) := by decide +kernel
theorem d_Checks_canRead_79 : decode prog_3_method_13_code 79 = .ok (.iconst 0, 1) := by decide +kernel
theorem d_Checks_canRead_80 : decode prog_3_method_13_code 80 = .ok (.ireturn, 1) := by decide +kernel
theorem d_Checks_canRead_51 : decode prog_3_method_13_code 51 = .ok (.lload 4, 2) := by decide +kernel
theorem d_Checks_canRead_53 : decode prog_3_method_13_code 53 = .ok (.ldc2_w 150, 3) := by decide +kernel
theorem u_1628 : Cond.constantLong "FilterGuard$Checks" 150 512 ∈ fg_g := fg_in (List.mem_of_getElem? (i := 1628) (by decide +kernel)) rfl
theorem d_Checks_canRead_56 : decode prog_3_method_13_code 56 = .ok (.lcmp, 1) := by decide +kernel
theorem d_Checks_canRead_57 : decode prog_3_method_13_code 57 = .ok (.ifCond .gt 22, 3) := by decide +kernel
theorem d_Checks_canRead_60 : decode prog_3_method_13_code 60 = .ok (.lload 7, 2) := by decide +kernel
theorem d_Checks_canRead_62 : decode prog_3_method_13_code 62 = .ok (.ldc2_w 112, 3) := by decide +kernel
theorem u_1629 : Cond.constantLong "FilterGuard$Checks" 112 (-512) ∈ fg_g := fg_in (List.mem_of_getElem? (i := 1629) (by decide +kernel)) rfl
theorem d_Checks_canRead_65 : decode prog_3_method_13_code 65 = .ok (.lcmp, 1) := by decide +kernel
theorem d_Checks_canRead_66 : decode prog_3_method_13_code 66 = .ok (.ifCond .lt 13, 3) := by decide +kernel
theorem d_Checks_canRead_69 : decode prog_3_method_13_code 69 = .ok (.lload 7, 2) := by decide +kernel
theorem d_Checks_canRead_71 : decode prog_3_method_13_code 71 = .ok (.lload 4, 2) := by decide +kernel
theorem d_Checks_canRead_73 : decode prog_3_method_13_code 73 = .ok (.ladd, 1) := by decide +kernel
theorem d_Checks_canRead_74 : decode prog_3_method_13_code 74 = .ok (.lconst 0, 1) := by decide +kernel
theorem d_Checks_canRead_75 : decode prog_3_method_13_code 75 = .ok (.lcmp, 1) := by decide +kernel
theorem d_Checks_canRead_76 : decode prog_3_method_13_code 76 = .ok (.ifCond .le 5, 3) := by decide +kernel
theorem d_Checks_canRead_81 : decode prog_3_method_13_code 81 = .ok (.lload 7, 2) := by decide +kernel
theorem d_Checks_canRead_83 : decode prog_3_method_13_code 83 = .ok (.l2i, 1) := by decide +kernel
theorem d_Checks_canRead_84 : decode prog_3_method_13_code 84 = .ok (.istore 9, 2) := by decide +kernel
theorem d_Checks_canRead_17 : decode prog_3_method_13_code 17 = .ok (.iload 6, 2) := by decide +kernel
theorem d_Checks_canRead_19 : decode prog_3_method_13_code 19 = .ok (.iconst 4, 1) := by decide +kernel
theorem d_Checks_canRead_20 : decode prog_3_method_13_code 20 = .ok (.if_icmp .eq 10, 3) := by decide +kernel
theorem d_Checks_canRead_30 : decode prog_3_method_13_code 30 = .ok (.iconst 1, 1) := by decide +kernel
theorem d_Checks_canRead_31 : decode prog_3_method_13_code 31 = .ok (.goto 4, 3) := by decide +kernel
theorem d_Checks_canRead_35 : decode prog_3_method_13_code 35 = .ok (.ireturn, 1) := by decide +kernel
theorem d_Checks_canRead_23 : decode prog_3_method_13_code 23 = .ok (.iload 6, 2) := by decide +kernel
theorem d_Checks_canRead_25 : decode prog_3_method_13_code 25 = .ok (.bipush 7, 2) := by decide +kernel
theorem d_Checks_canRead_27 : decode prog_3_method_13_code 27 = .ok (.if_icmp .ne 7, 3) := by decide +kernel
theorem d_Checks_canRead_34 : decode prog_3_method_13_code 34 = .ok (.iconst 0, 1) := by decide +kernel
abbrev y_Checks_canRead : MethodName := ⟨"FilterGuard$Checks", "canRead", "(IJJ)Z"⟩
def f_Checks_canRead_l86 (j0 : Nat) (x4 : Int64) : Nat → me_M → Int64 → Int32 → Option (me_M × Int32)
  | 0, _, _, _ => none
  | fu + 1, M, y7, y9 => (if y9.toInt64 < (y7 + x4) then bd (mR M 6 j0 2) (fun (j2 : Nat) => b2 (f_State_slotAt M j2 y9) (fun (M4 : me_M) (r5 : Nat) => b2 (f_Cell_isReadable M4 r5 (jishl 1 (y9 &&& 7))) (fun (M6 : me_M) (r7 : Int32) => (if r7 = 0 then some (M6, (0 : Int32)) else f_Checks_canRead_l86 j0 x4 fu M6 y7 (y9 + 1))))) else some (M, (1 : Int32)))
def f_Checks_canRead (M0 : me_M) (j0 : Nat) (x1 : Int32) (x2 : Int64) (x4 : Int64) : Option (me_M × Int32) := bd (mR M0 6 j0 3) (fun (j9 : Nat) => gd (¬ (x1 < 0 ∨ mZ M0 18 j9 ≤ x1.toNatClampNeg)) (bd (mR M0 18 j9 x1.toNatClampNeg) (fun (j12 : Nat) => st (mI M0 10 j12 0) (fun (v14 : Int32) => (if v14 = 3 then bd (f_G_baseOf (2 : Int32)) (fun (r16 : Int64) => st (x2 - r16) (fun (v17 : Int64) => (if x4 < 0 then some (M0, (0 : Int32)) else (if 512 < x4 then some (M0, (0 : Int32)) else (if v17 < (-512) then some (M0, (0 : Int32)) else (if 0 < (v17 + x4) then some (M0, (0 : Int32)) else st v17.toInt32 (fun (v22 : Int32) => f_Checks_canRead_l86 j0 x4 fuel M0 v17 v22))))))) else (if v14 = 4 then some (M0, (1 : Int32)) else (if v14 = 7 then some (M0, (1 : Int32)) else some (M0, (0 : Int32)))))))))
def rm_Checks_canRead : Room := { frames := 3, cells := 0, slots := 0, locals := 82 }
abbrev q_Checks_canRead (D : va_G) (ad : Nat → Nat → Nat) (ca : Nat → ClassId) (N : Nat → Nat) (M0 MZ : me_M) (RZ : Int32) (A : Nat → Prop) : Array Value → Jvm.State → Outcome → Jvm.State → Prop := va_Qi (fun r (_ : Unit) => r = RZ ∧ me_wf N MZ ∧ me_kp M0 MZ ∧ (RZ = 1 ∨ RZ = 0)) (fg_B D A (fun _ => me_W ad ca MZ) (fun _ => [])) A
set_option maxHeartbeats 4000000 in
set_option maxRecDepth 100000 in
theorem c_Checks_canRead (l : Launch) (D : va_G) (ad : Nat → Nat → Nat) (ca : Nat → ClassId) (N : Nat → Nat) (M0 MZ : me_M) (RZ : Int32) (j0 : Nat) (x1 : Int32) (x2 : Int64) (x4 : Int64) (h : f_Checks_canRead M0 j0 x1 x2 x4 = (some (MZ, RZ))) (hwf : me_wf N M0) (hj0 : j0 < N 6) (sz : Nat) : Met l y_Checks_canRead (fg_w y_Checks_canRead prog_3_method_13_code 10 (some .boolean)) rm_Checks_canRead (va_Pc [.ref (ad 6 j0), .int x1, .long x2, .long x4] (fz_P D (me_T ca) (me_W ad ca M0) sz)) (q_Checks_canRead D ad ca N M0 MZ RZ (va_A (me_W ad ca M0) sz)) rm_Checks_canRead.cells rm_Checks_canRead.slots (va_A (me_W ad ca M0) sz) := by
  refine fz_enter (fun A => q_Checks_canRead D ad ca N M0 MZ RZ A) (by decide +kernel) (Nat.le_of_ble_eq_true rfl) ?_
  intro p e s m below meth c ls A hx hb hml hown hts hr hlocks hin hP hK hD hS hA hX hl hz
  have hl : lv_has ls 10 [(0, .ref (ad 6 j0)), (1, .int x1), (2, .long x2), (4, .long x4)] := hl
  unfold f_Checks_canRead at h
  have hkp : me_kp M0 M0 := me_kp.rf
  have hkb := hkp
  have b_86 : ∀ (fu : Nat), ∀ (M : me_M) (y7 : Int64) (y9 : Int32) (H : Heap) (locs : List Loc) (ls : Array Slot), f_Checks_canRead_l86 j0 x4 fu M y7 y9 = (some (MZ, RZ)) → me_wf N M → me_kp M0 M → va_P D classes (me_W ad ca M) H → va_D A (me_W ad ca M) → va_S A s.heap H locs → lv_has ls 10 [(0, .ref (ad 6 j0)), (4, .long x4), (7, .long y7), (9, .int y9)] → W p l e rm_Checks_canRead s m [.ref (ad 6 j0), .int x1, .long x2, .long x4].toArray below meth c H locs 0 0 (MQ below (q_Checks_canRead D ad ca N M0 MZ RZ A) [.ref (ad 6 j0), .int x1, .long x2, .long x4].toArray s rm_Checks_canRead.cells rm_Checks_canRead.slots A) (F0 m 86 ls []) := by
    intro fu
    induction fu with
    | zero =>
      intro M y7 y9 H locs ls h hwf hkp hP hD hS hl
      cases h
    | succ fu ih =>
      intro M y7 y9 H locs ls h hwf hkp hP hD hS hl
      unfold f_Checks_canRead_l86 at h
      have hkb := hkp
      refine lv_iload hx hb d_Checks_canRead_86 (lv_at hl 3 rfl) ?_
      refine lv_i2l (v := y9.toInt64) hx hb d_Checks_canRead_88 rfl ?_
      refine lv_lload hx hb d_Checks_canRead_89 (lv_at hl 2 rfl) ?_
      refine lv_lload hx hb d_Checks_canRead_91 (lv_at hl 1 rfl) ?_
      refine lv_ladd hx hb d_Checks_canRead_93 ?_
      refine W.lcmp hx hb d_Checks_canRead_94 ?_
      refine lv_if_ge (tgt := 128) hx hb d_Checks_canRead_95 (by decide) (fun c1 => ?_) (fun c1 => ?_)
      · have h := if_f (Int64.not_lt.mpr ((lg_cmp_ge _ _).mp c1)) h
        refine lv_iconst (v := 1) hx hb d_Checks_canRead_128 (by decide) ?_
        exact me_retz (me_kp M0) h (by decide) hx hb hr hlocks hwf hkp hP hK hD hS d_Checks_canRead_129
      have h := if_t (Int64.not_le.mp (fun z => c1 ((lg_cmp_ge _ _).mpr z))) h
      refine lv_aload_n hx hb d_Checks_canRead_98 rfl (lv_at hl 0 rfl) ?_
      refine g_Checks_2 hx hb hts hown hK hP hwf hj0 (hts _ u_612) d_Checks_canRead_99 ?_
      obtain ⟨j2, e3, h⟩ := bd_ob h
      have hj2 : j2 < N 9 := (hwf.2.1 6 j0 2 _ e3 (by decide) hj0)
      refine me_opt (j := j2) e3 ?_
      refine lv_iload hx hb d_Checks_canRead_102 (lv_at hl 3 rfl) ?_
      obtain ⟨M4, r5, eM4, h⟩ := b2_ob h
      refine me_thenr0 (M1 := M4) (me_runV (C := "FilterGuard$State") (As := [.int y9]) (rest := []) ⟨hx, hb, hml, hown, hts⟩ (c_State_slotAt l D ad ca N M M4 r5 j2 y9 eM4 hwf hj2 _) rfl (by show fg_nm y_State_slotAt 1; decide +kernel) u_1630 u_1356 u_1357 u_189 u_1358 ⟨Nat.le_of_ble_eq_true rfl, Nat.le_of_ble_eq_true rfl⟩ hX hz hK hP hD hwf hS hA hj2 (by decide) rfl rfl rfl hl.1 (Nat.le_of_ble_eq_true rfl) d_Checks_canRead_104 ⟨Nat.le_of_ble_eq_true rfl, Nat.le_of_ble_eq_true rfl⟩) hP hD hK hS hA rfl rfl (fun H locs hw hP hD hS => ?_)
      obtain ⟨hwf, hk9, hr5⟩ := hw
      have hkp := hkp.tr hk9
      refine lv_iconst (v := 1) hx hb d_Checks_canRead_107 (by decide) ?_
      refine lv_iload hx hb d_Checks_canRead_108 (lv_at hl 3 rfl) ?_
      refine lv_bipush (v := 7) hx hb d_Checks_canRead_110 (by decide) ?_
      refine lv_iand hx hb d_Checks_canRead_112 ?_
      refine lv_ishl hx hb d_Checks_canRead_113 ?_
      refine fg_topi (y := jishl 1 (y9 &&& 7)) rfl ?_
      obtain ⟨M6, r7, eM6, h⟩ := b2_ob h
      refine me_theni0 (M1 := M6) (me_runV (C := "FilterGuard$Cell") (As := [.int (jishl 1 (y9 &&& 7))]) (rest := []) ⟨hx, hb, hml, hown, hts⟩ (c_Cell_isReadable l D ad ca N M4 M6 r7 r5 (jishl 1 (y9 &&& 7)) eM6 hwf hr5 _) rfl (by show fg_nm y_Cell_isReadable 1; decide +kernel) u_1631 u_1364 u_1365 u_188 u_1366 ⟨Nat.le_of_ble_eq_true rfl, Nat.le_of_ble_eq_true rfl⟩ hX hz hK hP hD hwf hS hA hr5 (by decide) rfl rfl rfl hl.1 (Nat.le_of_ble_eq_true rfl) d_Checks_canRead_114 ⟨Nat.le_of_ble_eq_true rfl, Nat.le_of_ble_eq_true rfl⟩) hP hD hK hS hA rfl rfl (fun H locs hw hP hD hS => ?_)
      obtain ⟨hwf, hk9, zr7⟩ := hw
      have hkp := hkp.tr hk9
      refine lv_if_ne (tgt := 122) hx hb d_Checks_canRead_117 (by decide) (fun c8 => ?_) (fun c8 => ?_)
      · have h := if_f c8 h
        refine lv_iinc (v := y9 + 1) (lv' := [(9, .int (y9 + 1)), (0, .ref (ad 6 j0)), (4, .long x4), (7, .long y7)]) hx hb d_Checks_canRead_122 hl (k := 3) rfl (by rfl) (by decide) rfl (fun ls hl => ?_)
        refine lv_goto (tgt := 86) hx hb d_Checks_canRead_125 (by decide) ?_
        exact ih M6 y7 (y9 + 1) _ _ _ h hwf hkp hP hD hS (lv_sub hl [1, 2, 3, 0] rfl)
      have h := if_t c8 h
      refine lv_iconst (v := 0) hx hb d_Checks_canRead_120 (by decide) ?_
      exact me_retz (me_kp M0) h (by decide) hx hb hr hlocks hwf hkp hP hK hD hS d_Checks_canRead_121
  refine lv_aload_n hx hb d_Checks_canRead_0 rfl (lv_at hl 0 rfl) ?_
  refine g_Checks_3 hx hb hts hown hK hP hwf hj0 (hts _ u_613) d_Checks_canRead_1 ?_
  obtain ⟨j9, e10, h⟩ := bd_ob h
  have hj9 : j9 < N 18 := (hwf.2.1 6 j0 3 _ e10 (by decide) hj0)
  refine me_opt (j := j9) e10 ?_
  refine lv_iload_n hx hb d_Checks_canRead_4 rfl (lv_at hl 1 rfl) ?_
  obtain ⟨g11, h⟩ := gd_ob h
  refine me_aald (k := 18) (t := 10) hx hb hK hP hwf hj9 (by decide) (by decide) rfl (fun _ => rfl) g11 d_Checks_canRead_5 ?_
  obtain ⟨j12, e13, h⟩ := bd_ob h
  have hj12 : j12 < N 10 := (hwf.2.1 18 j9 x1.toNatClampNeg _ e13 (by decide) hj9)
  refine me_opt (j := j12) e13 ?_
  refine g_Cell_0 hx hb hts hown hK hP hwf hj12 (hts _ u_421) d_Checks_canRead_6 ?_
  obtain ⟨v14, ev14, h⟩ := st_ob h
  refine fg_topi (y := v14) ev14.symm ?_
  refine lv_istore (lv' := [(6, .int v14), (0, .ref (ad 6 j0)), (1, .int x1), (2, .long x2), (4, .long x4)]) hx hb d_Checks_canRead_9 hl (by decide) rfl (fun ls hl => ?_)
  refine lv_iload hx hb d_Checks_canRead_11 (lv_at hl 0 rfl) ?_
  refine lv_iconst (v := 3) hx hb d_Checks_canRead_13 (by decide) ?_
  refine lv_icmp_eq (tgt := 36) hx hb d_Checks_canRead_14 (by decide) (fun c15 => ?_) (fun c15 => ?_)
  · have h := if_t c15 h
    refine lv_lload_n hx hb d_Checks_canRead_36 rfl (lv_at hl 3 rfl) ?_
    refine lv_iconst (v := 2) hx hb d_Checks_canRead_37 (by decide) ?_
    obtain ⟨r16, er16, h⟩ := bd_ob h
    refine me_panl' (r0 := r16) (fg_runSN (wc := []) (tc := []) (A2 := A) (As := [.int 2]) (rest := [.long x2]) ⟨hx, hb, hml, hown, hts⟩ (c_G_baseOf l D r16 (2 : Int32) er16 _) (by show fg_nm y_G_baseOf 1; decide +kernel) o_1627 u_1587 u_181 u_1588 ⟨Nat.le_of_ble_eq_true rfl, Nat.le_of_ble_eq_true rfl⟩ hX me_P0 (hK.sub (tys' := []) [] rfl) me_D0 rfl hl.1 (Nat.le_of_ble_eq_true rfl) d_Checks_canRead_38 ⟨Nat.le_of_ble_eq_true rfl, Nat.le_of_ble_eq_true rfl⟩) hP hD hK hS hA rfl rfl (fun H locs hw hP hD hS => ?_)
    refine lv_lsub hx hb d_Checks_canRead_41 ?_
    obtain ⟨v17, ev17, h⟩ := st_ob h
    refine fg_topl (y := v17) ev17.symm ?_
    refine lv_lstore (lv' := [(7, .long v17), (6, .int v14), (0, .ref (ad 6 j0)), (1, .int x1), (2, .long x2), (4, .long x4)]) hx hb d_Checks_canRead_42 hl (by decide) rfl (fun ls hl => ?_)
    refine lv_lload hx hb d_Checks_canRead_44 (lv_at hl 5 rfl) ?_
    refine lv_lconst (v := 0) hx hb d_Checks_canRead_46 (by decide) ?_
    refine W.lcmp hx hb d_Checks_canRead_47 ?_
    refine lv_if_lt (tgt := 79) hx hb d_Checks_canRead_48 (by decide) (fun c18 => ?_) (fun c18 => ?_)
    · have h := if_t ((lg_cmp_lt _ _).mp c18) h
      refine lv_iconst (v := 0) hx hb d_Checks_canRead_79 (by decide) ?_
      exact me_retz (me_kp M0) h (by decide) hx hb hr hlocks hwf hkp hP hK hD hS d_Checks_canRead_80
    have h := if_f (fun z => c18 ((lg_cmp_lt _ _).mpr z)) h
    refine lv_lload hx hb d_Checks_canRead_51 (lv_at hl 5 rfl) ?_
    refine lv_ldc2 hx hb hown (hts _ u_1628) d_Checks_canRead_53 ?_
    refine W.lcmp hx hb d_Checks_canRead_56 ?_
    refine lv_if_gt (tgt := 79) hx hb d_Checks_canRead_57 (by decide) (fun c19 => ?_) (fun c19 => ?_)
    · have h := if_t ((lg_cmp_gt _ _).mp c19) h
      refine lv_iconst (v := 0) hx hb d_Checks_canRead_79 (by decide) ?_
      exact me_retz (me_kp M0) h (by decide) hx hb hr hlocks hwf hkp hP hK hD hS d_Checks_canRead_80
    have h := if_f (fun z => c19 ((lg_cmp_gt _ _).mpr z)) h
    refine lv_lload hx hb d_Checks_canRead_60 (lv_at hl 0 rfl) ?_
    refine lv_ldc2 hx hb hown (hts _ u_1629) d_Checks_canRead_62 ?_
    refine W.lcmp hx hb d_Checks_canRead_65 ?_
    refine lv_if_lt (tgt := 79) hx hb d_Checks_canRead_66 (by decide) (fun c20 => ?_) (fun c20 => ?_)
    · have h := if_t ((lg_cmp_lt _ _).mp c20) h
      refine lv_iconst (v := 0) hx hb d_Checks_canRead_79 (by decide) ?_
      exact me_retz (me_kp M0) h (by decide) hx hb hr hlocks hwf hkp hP hK hD hS d_Checks_canRead_80
    have h := if_f (fun z => c20 ((lg_cmp_lt _ _).mpr z)) h
    refine lv_lload hx hb d_Checks_canRead_69 (lv_at hl 0 rfl) ?_
    refine lv_lload hx hb d_Checks_canRead_71 (lv_at hl 5 rfl) ?_
    refine lv_ladd hx hb d_Checks_canRead_73 ?_
    refine lv_lconst (v := 0) hx hb d_Checks_canRead_74 (by decide) ?_
    refine W.lcmp hx hb d_Checks_canRead_75 ?_
    refine lv_if_le (tgt := 81) hx hb d_Checks_canRead_76 (by decide) (fun c21 => ?_) (fun c21 => ?_)
    · have h := if_f (Int64.not_lt.mpr ((lg_cmp_le _ _).mp c21)) h
      refine lv_lload hx hb d_Checks_canRead_81 (lv_at hl 0 rfl) ?_
      refine lv_l2i (v := v17.toInt32) hx hb d_Checks_canRead_83 rfl ?_
      obtain ⟨v22, ev22, h⟩ := st_ob h
      refine fg_topi (y := v22) ev22.symm ?_
      refine lv_istore (lv' := [(9, .int v22), (7, .long v17), (6, .int v14), (0, .ref (ad 6 j0)), (1, .int x1), (2, .long x2), (4, .long x4)]) hx hb d_Checks_canRead_84 hl (by decide) rfl (fun ls hl => ?_)
      exact b_86 _ M0 v17 v22 _ _ _ h hwf hkp hP hD hS (lv_sub hl [3, 6, 1, 0] rfl)
    have h := if_t (Int64.not_le.mp (fun z => c21 ((lg_cmp_le _ _).mpr z))) h
    refine lv_iconst (v := 0) hx hb d_Checks_canRead_79 (by decide) ?_
    exact me_retz (me_kp M0) h (by decide) hx hb hr hlocks hwf hkp hP hK hD hS d_Checks_canRead_80
  have h := if_f c15 h
  refine lv_iload hx hb d_Checks_canRead_17 (lv_at hl 0 rfl) ?_
  refine lv_iconst (v := 4) hx hb d_Checks_canRead_19 (by decide) ?_
  refine lv_icmp_eq (tgt := 30) hx hb d_Checks_canRead_20 (by decide) (fun c23 => ?_) (fun c23 => ?_)
  · have h := if_t c23 h
    refine lv_iconst (v := 1) hx hb d_Checks_canRead_30 (by decide) ?_
    refine lv_goto (tgt := 35) hx hb d_Checks_canRead_31 (by decide) ?_
    exact me_retz (me_kp M0) h (by decide) hx hb hr hlocks hwf hkp hP hK hD hS d_Checks_canRead_35
  have h := if_f c23 h
  refine lv_iload hx hb d_Checks_canRead_23 (lv_at hl 0 rfl) ?_
  refine lv_bipush (v := 7) hx hb d_Checks_canRead_25 (by decide) ?_
  refine lv_icmp_ne (tgt := 34) hx hb d_Checks_canRead_27 (by decide) (fun c24 => ?_) (fun c24 => ?_)
  · have h := if_f c24 h
    refine lv_iconst (v := 0) hx hb d_Checks_canRead_34 (by decide) ?_
    exact me_retz (me_kp M0) h (by decide) hx hb hr hlocks hwf hkp hP hK hD hS d_Checks_canRead_35
  have h := if_t c24 h
  refine lv_iconst (v := 1) hx hb d_Checks_canRead_30 (by decide) ?_
  refine lv_goto (tgt := 35) hx hb d_Checks_canRead_31 (by decide) ?_
  exact me_retz (me_kp M0) h (by decide) hx hb hr hlocks hwf hkp hP hK hD hS d_Checks_canRead_35
theorem d_Checks_areArguments_0 : decode prog_3_method_12_code 0 = .ok (.aload_n 0, 1) := by decide +kernel
theorem d_Checks_areArguments_1 : decode prog_3_method_12_code 1 = .ok (.getfield 23, 3) := by decide +kernel
theorem d_Checks_areArguments_4 : decode prog_3_method_12_code 4 = .ok (.getfield 88, 3) := by decide +kernel
theorem d_Checks_areArguments_7 : decode prog_3_method_12_code 7 = .ok (.tableswitch 79 4 6 #[27, 25, 46], 25) := by decide +kernel
theorem d_Checks_areArguments_34 : decode prog_3_method_12_code 34 = .ok (.aload_n 0, 1) := by decide +kernel
theorem d_Checks_areArguments_35 : decode prog_3_method_12_code 35 = .ok (.getfield 22, 3) := by decide +kernel
theorem d_Checks_areArguments_38 : decode prog_3_method_12_code 38 = .ok (.iconst 1, 1) := by decide +kernel
theorem d_Checks_areArguments_39 : decode prog_3_method_12_code 39 = .ok (.aaload, 1) := by decide +kernel
theorem d_Checks_areArguments_40 : decode prog_3_method_12_code 40 = .ok (.getfield 34, 3) := by decide +kernel
theorem d_Checks_areArguments_43 : decode prog_3_method_12_code 43 = .ok (.iconst 1, 1) := by decide +kernel
theorem d_Checks_areArguments_44 : decode prog_3_method_12_code 44 = .ok (.if_icmp .ne 7, 3) := by decide +kernel
theorem d_Checks_areArguments_51 : decode prog_3_method_12_code 51 = .ok (.iconst 0, 1) := by decide +kernel
theorem d_Checks_areArguments_52 : decode prog_3_method_12_code 52 = .ok (.ireturn, 1) := by decide +kernel
theorem d_Checks_areArguments_47 : decode prog_3_method_12_code 47 = .ok (.iconst 1, 1) := by decide +kernel
theorem d_Checks_areArguments_48 : decode prog_3_method_12_code 48 = .ok (.goto 4, 3) := by decide +kernel
theorem d_Checks_areArguments_32 : decode prog_3_method_12_code 32 = .ok (.iconst 1, 1) := by decide +kernel
theorem d_Checks_areArguments_33 : decode prog_3_method_12_code 33 = .ok (.ireturn, 1) := by decide +kernel
theorem d_Checks_areArguments_53 : decode prog_3_method_12_code 53 = .ok (.aload_n 0, 1) := by decide +kernel
theorem d_Checks_areArguments_54 : decode prog_3_method_12_code 54 = .ok (.getfield 22, 3) := by decide +kernel
theorem d_Checks_areArguments_57 : decode prog_3_method_12_code 57 = .ok (.iconst 2, 1) := by decide +kernel
theorem d_Checks_areArguments_58 : decode prog_3_method_12_code 58 = .ok (.aaload, 1) := by decide +kernel
theorem d_Checks_areArguments_59 : decode prog_3_method_12_code 59 = .ok (.getfield 34, 3) := by decide +kernel
theorem d_Checks_areArguments_62 : decode prog_3_method_12_code 62 = .ok (.iconst 1, 1) := by decide +kernel
theorem d_Checks_areArguments_63 : decode prog_3_method_12_code 63 = .ok (.if_icmp .ne 21, 3) := by decide +kernel
theorem d_Checks_areArguments_84 : decode prog_3_method_12_code 84 = .ok (.iconst 0, 1) := by decide +kernel
theorem d_Checks_areArguments_85 : decode prog_3_method_12_code 85 = .ok (.ireturn, 1) := by decide +kernel
theorem d_Checks_areArguments_66 : decode prog_3_method_12_code 66 = .ok (.aload_n 0, 1) := by decide +kernel
theorem d_Checks_areArguments_67 : decode prog_3_method_12_code 67 = .ok (.iconst 1, 1) := by decide +kernel
theorem d_Checks_areArguments_68 : decode prog_3_method_12_code 68 = .ok (.aload_n 1, 1) := by decide +kernel
theorem d_Checks_areArguments_69 : decode prog_3_method_12_code 69 = .ok (.iconst 1, 1) := by decide +kernel
theorem d_Checks_areArguments_70 : decode prog_3_method_12_code 70 = .ok (.laload, 1) := by decide +kernel
theorem d_Checks_areArguments_71 : decode prog_3_method_12_code 71 = .ok (.aload_n 1, 1) := by decide +kernel
theorem d_Checks_areArguments_72 : decode prog_3_method_12_code 72 = .ok (.iconst 2, 1) := by decide +kernel
theorem d_Checks_areArguments_73 : decode prog_3_method_12_code 73 = .ok (.laload, 1) := by decide +kernel
theorem d_Checks_areArguments_74 : decode prog_3_method_12_code 74 = .ok (.invokevirtual 136, 3) := by decide +kernel
theorem u_1623 : Cond.methodLink "FilterGuard$Checks" 136 ⟨"FilterGuard$Checks", "canRead", "(IJJ)Z"⟩ ∈ fg_g := fg_in (List.mem_of_getElem? (i := 1623) (by decide +kernel)) rfl
theorem u_1626 : Cond.code ⟨"FilterGuard$Checks", "canRead", "(IJJ)Z"⟩ prog_3_method_13_code 10 (some .boolean) ∈ fg_g := fg_in (List.mem_of_getElem? (i := 1626) (by decide +kernel)) rfl
theorem u_1625 : Cond.instanceMethod ⟨"FilterGuard$Checks", "canRead", "(IJJ)Z"⟩ ∈ fg_g := fg_in (List.mem_of_getElem? (i := 1625) (by decide +kernel)) rfl
theorem u_69 : Cond.selects "FilterGuard$Checks" ⟨"FilterGuard$Checks", "canRead", "(IJJ)Z"⟩ ⟨"FilterGuard$Checks", "canRead", "(IJJ)Z"⟩ ∈ fg_g := fg_in (List.mem_of_getElem? (i := 69) (by decide +kernel)) rfl
theorem d_Checks_areArguments_77 : decode prog_3_method_12_code 77 = .ok (.ifCond .eq 7, 3) := by decide +kernel
theorem d_Checks_areArguments_80 : decode prog_3_method_12_code 80 = .ok (.iconst 1, 1) := by decide +kernel
theorem d_Checks_areArguments_81 : decode prog_3_method_12_code 81 = .ok (.goto 4, 3) := by decide +kernel
theorem d_Checks_areArguments_86 : decode prog_3_method_12_code 86 = .ok (.aload_n 1, 1) := by decide +kernel
theorem d_Checks_areArguments_87 : decode prog_3_method_12_code 87 = .ok (.iconst 1, 1) := by decide +kernel
theorem d_Checks_areArguments_88 : decode prog_3_method_12_code 88 = .ok (.laload, 1) := by decide +kernel
theorem d_Checks_areArguments_89 : decode prog_3_method_12_code 89 = .ok (.lstore_n 2, 1) := by decide +kernel
theorem d_Checks_areArguments_90 : decode prog_3_method_12_code 90 = .ok (.aload_n 0, 1) := by decide +kernel
theorem d_Checks_areArguments_91 : decode prog_3_method_12_code 91 = .ok (.getfield 22, 3) := by decide +kernel
theorem d_Checks_areArguments_94 : decode prog_3_method_12_code 94 = .ok (.iconst 1, 1) := by decide +kernel
theorem d_Checks_areArguments_95 : decode prog_3_method_12_code 95 = .ok (.aaload, 1) := by decide +kernel
theorem d_Checks_areArguments_96 : decode prog_3_method_12_code 96 = .ok (.getfield 34, 3) := by decide +kernel
theorem d_Checks_areArguments_99 : decode prog_3_method_12_code 99 = .ok (.bipush 6, 2) := by decide +kernel
theorem d_Checks_areArguments_101 : decode prog_3_method_12_code 101 = .ok (.if_icmp .ne 27, 3) := by decide +kernel
theorem d_Checks_areArguments_128 : decode prog_3_method_12_code 128 = .ok (.iconst 0, 1) := by decide +kernel
theorem d_Checks_areArguments_129 : decode prog_3_method_12_code 129 = .ok (.ireturn, 1) := by decide +kernel
theorem d_Checks_areArguments_104 : decode prog_3_method_12_code 104 = .ok (.lload_n 2, 1) := by decide +kernel
theorem d_Checks_areArguments_105 : decode prog_3_method_12_code 105 = .ok (.lconst 0, 1) := by decide +kernel
theorem d_Checks_areArguments_106 : decode prog_3_method_12_code 106 = .ok (.lcmp, 1) := by decide +kernel
theorem d_Checks_areArguments_107 : decode prog_3_method_12_code 107 = .ok (.ifCond .lt 21, 3) := by decide +kernel
theorem d_Checks_areArguments_110 : decode prog_3_method_12_code 110 = .ok (.lload_n 2, 1) := by decide +kernel
theorem d_Checks_areArguments_111 : decode prog_3_method_12_code 111 = .ok (.ldc2_w 140, 3) := by decide +kernel
theorem u_1632 : Cond.constantLong "FilterGuard$Checks" 140 4 ∈ fg_g := fg_in (List.mem_of_getElem? (i := 1632) (by decide +kernel)) rfl
theorem d_Checks_areArguments_114 : decode prog_3_method_12_code 114 = .ok (.lcmp, 1) := by decide +kernel
theorem d_Checks_areArguments_115 : decode prog_3_method_12_code 115 = .ok (.ifCond .ge 13, 3) := by decide +kernel
theorem d_Checks_areArguments_118 : decode prog_3_method_12_code 118 = .ok (.aload_n 0, 1) := by decide +kernel
theorem d_Checks_areArguments_119 : decode prog_3_method_12_code 119 = .ok (.getfield 27, 3) := by decide +kernel
theorem g_Checks_1 {p : Program} {l : Launch} {e : Env} {R : Room} {s : Jvm.State} {m : MethodId} {args : Array Value} {below : List Frame} {meth : Method} {c : Code} {H : Heap} {locs : List Loc} {cells slots : Nat} {Q : Jvm.State → Prop} {cc : ByteArray} {pc : Nat} {ls : Array Slot} {rest : List Value} {D : va_G} {ad : Nat → Nat → Nat} {ca : Nat → ClassId} {M : me_M} {N : Nat → Nat} {own : String} {index j : Nat} (hexec : p.tables.exec = Jvm.exec) (hb : c.code = cc) (hts : ∀ w ∈ fg_g, w.before args s = true) (hown : s.vm.findClass own = some m.cls) (hK : va_K D classes (me_T ca) s) (hP : va_P D classes (me_W ad ca M) H) (hwf : me_wf N M) (hj : j < N 6) (hlink : (Cond.fieldLink own index "FilterGuard$Checks" "stores" "[LFilterGuard$Store;").before args s = true) (hdg : decode cc pc = .ok (.getfield index, 3)) (kk : W p l e R s m args below meth c H locs cells slots Q (F0 m (pc + 3) ls (va_rf ((mR M 6 j 1).map (ad 19)) :: rest))) : W p l e R s m args below meth c H locs cells slots Q (F0 m pc ls (.ref (ad 6 j) :: rest)) := me_get (k := 6) (f := 1) (C := "FilterGuard$Checks") (T := F_Checks) (Nf := 4) hexec hb hts i_Checks hown hK hP hwf hj (by decide) rfl (by decide) (by decide) hlink (fun _ h9 => h9) hdg kk
theorem d_Checks_areArguments_122 : decode prog_3_method_12_code 122 = .ok (.lload_n 2, 1) := by decide +kernel
theorem d_Checks_areArguments_123 : decode prog_3_method_12_code 123 = .ok (.l2i, 1) := by decide +kernel
theorem d_Checks_areArguments_124 : decode prog_3_method_12_code 124 = .ok (.aaload, 1) := by decide +kernel
theorem d_Checks_areArguments_125 : decode prog_3_method_12_code 125 = .ok (.ifnonnull 5, 3) := by decide +kernel
theorem d_Checks_areArguments_130 : decode prog_3_method_12_code 130 = .ok (.aload_n 0, 1) := by decide +kernel
theorem d_Checks_areArguments_131 : decode prog_3_method_12_code 131 = .ok (.getfield 27, 3) := by decide +kernel
theorem d_Checks_areArguments_134 : decode prog_3_method_12_code 134 = .ok (.lload_n 2, 1) := by decide +kernel
theorem d_Checks_areArguments_135 : decode prog_3_method_12_code 135 = .ok (.l2i, 1) := by decide +kernel
theorem d_Checks_areArguments_136 : decode prog_3_method_12_code 136 = .ok (.aaload, 1) := by decide +kernel
theorem d_Checks_areArguments_137 : decode prog_3_method_12_code 137 = .ok (.astore 4, 2) := by decide +kernel
theorem d_Checks_areArguments_139 : decode prog_3_method_12_code 139 = .ok (.aload_n 0, 1) := by decide +kernel
theorem d_Checks_areArguments_140 : decode prog_3_method_12_code 140 = .ok (.iconst 2, 1) := by decide +kernel
theorem d_Checks_areArguments_141 : decode prog_3_method_12_code 141 = .ok (.aload_n 1, 1) := by decide +kernel
theorem d_Checks_areArguments_142 : decode prog_3_method_12_code 142 = .ok (.iconst 2, 1) := by decide +kernel
theorem d_Checks_areArguments_143 : decode prog_3_method_12_code 143 = .ok (.laload, 1) := by decide +kernel
theorem d_Checks_areArguments_144 : decode prog_3_method_12_code 144 = .ok (.aload 4, 2) := by decide +kernel
theorem d_Checks_areArguments_146 : decode prog_3_method_12_code 146 = .ok (.getfield 142, 3) := by decide +kernel
theorem u_903 : Cond.fieldLink "FilterGuard$Checks" 142 "FilterGuard$Store" "keyBytes" "I" ∈ fg_g := fg_in (List.mem_of_getElem? (i := 903) (by decide +kernel)) rfl
theorem d_Checks_areArguments_149 : decode prog_3_method_12_code 149 = .ok (.i2l, 1) := by decide +kernel
theorem d_Checks_areArguments_150 : decode prog_3_method_12_code 150 = .ok (.invokevirtual 136, 3) := by decide +kernel
theorem d_Checks_areArguments_153 : decode prog_3_method_12_code 153 = .ok (.ifCond .eq 35, 3) := by decide +kernel
theorem d_Checks_areArguments_188 : decode prog_3_method_12_code 188 = .ok (.iconst 0, 1) := by decide +kernel
theorem d_Checks_areArguments_189 : decode prog_3_method_12_code 189 = .ok (.ireturn, 1) := by decide +kernel
theorem d_Checks_areArguments_156 : decode prog_3_method_12_code 156 = .ok (.aload_n 0, 1) := by decide +kernel
theorem d_Checks_areArguments_157 : decode prog_3_method_12_code 157 = .ok (.getfield 23, 3) := by decide +kernel
theorem d_Checks_areArguments_160 : decode prog_3_method_12_code 160 = .ok (.getfield 88, 3) := by decide +kernel
theorem d_Checks_areArguments_163 : decode prog_3_method_12_code 163 = .ok (.iconst 2, 1) := by decide +kernel
theorem d_Checks_areArguments_164 : decode prog_3_method_12_code 164 = .ok (.if_icmp .ne 20, 3) := by decide +kernel
theorem d_Checks_areArguments_184 : decode prog_3_method_12_code 184 = .ok (.iconst 1, 1) := by decide +kernel
theorem d_Checks_areArguments_185 : decode prog_3_method_12_code 185 = .ok (.goto 4, 3) := by decide +kernel
theorem d_Checks_areArguments_167 : decode prog_3_method_12_code 167 = .ok (.aload_n 0, 1) := by decide +kernel
theorem d_Checks_areArguments_168 : decode prog_3_method_12_code 168 = .ok (.iconst 3, 1) := by decide +kernel
theorem d_Checks_areArguments_169 : decode prog_3_method_12_code 169 = .ok (.aload_n 1, 1) := by decide +kernel
theorem d_Checks_areArguments_170 : decode prog_3_method_12_code 170 = .ok (.iconst 3, 1) := by decide +kernel
theorem d_Checks_areArguments_171 : decode prog_3_method_12_code 171 = .ok (.laload, 1) := by decide +kernel
theorem d_Checks_areArguments_172 : decode prog_3_method_12_code 172 = .ok (.aload 4, 2) := by decide +kernel
theorem d_Checks_areArguments_174 : decode prog_3_method_12_code 174 = .ok (.getfield 147, 3) := by decide +kernel
theorem u_908 : Cond.fieldLink "FilterGuard$Checks" 147 "FilterGuard$Store" "valueBytes" "I" ∈ fg_g := fg_in (List.mem_of_getElem? (i := 908) (by decide +kernel)) rfl
theorem d_Checks_areArguments_177 : decode prog_3_method_12_code 177 = .ok (.i2l, 1) := by decide +kernel
theorem d_Checks_areArguments_178 : decode prog_3_method_12_code 178 = .ok (.invokevirtual 136, 3) := by decide +kernel
theorem d_Checks_areArguments_181 : decode prog_3_method_12_code 181 = .ok (.ifCond .eq 7, 3) := by decide +kernel
abbrev y_Checks_areArguments : MethodName := ⟨"FilterGuard$Checks", "areArguments", "([J)Z"⟩
def f_Checks_areArguments (M0 : me_M) (j0 : Nat) (j1 : Nat) : Option (me_M × Int32) := bd (mR M0 6 j0 0) (fun (j2 : Nat) => (if (mI M0 2 j2 9) = 4 then bd (mR M0 6 j0 3) (fun (j6 : Nat) => gd (1 < mZ M0 18 j6) (bd (mR M0 18 j6 1) (fun (j9 : Nat) => (if (mI M0 10 j9 0) = 1 then some (M0, (1 : Int32)) else some (M0, (0 : Int32)))))) else (if (mI M0 2 j2 9) = 5 then some (M0, (1 : Int32)) else (if (mI M0 2 j2 9) = 6 then bd (mR M0 6 j0 3) (fun (j14 : Nat) => gd (2 < mZ M0 18 j14) (bd (mR M0 18 j14 2) (fun (j17 : Nat) => (if (mI M0 10 j17 0) = 1 then gd (1 < mZ M0 16 j1) (gd (2 < mZ M0 16 j1) (b2 (f_Checks_canRead M0 j0 (1 : Int32) (mL M0 16 j1 1) (mL M0 16 j1 2)) (fun (M22 : me_M) (r23 : Int32) => (if r23 = 0 then some (M22, (0 : Int32)) else some (M22, (1 : Int32)))))) else some (M0, (0 : Int32)))))) else gd (1 < mZ M0 16 j1) (st (mL M0 16 j1 1) (fun (v26 : Int64) => bd (mR M0 6 j0 3) (fun (j27 : Nat) => gd (1 < mZ M0 18 j27) (bd (mR M0 18 j27 1) (fun (j30 : Nat) => (if (mI M0 10 j30 0) = 6 then (if v26 < 0 then some (M0, (0 : Int32)) else (if v26 < 4 then bd (mR M0 6 j0 1) (fun (j35 : Nat) => gd (¬ (v26.toInt32 < 0 ∨ mZ M0 19 j35 ≤ v26.toInt32.toNatClampNeg)) (oc (mR M0 19 j35 v26.toInt32.toNatClampNeg) (some (M0, (0 : Int32))) (fun (_ : Nat) => bd (mR M0 19 j35 v26.toInt32.toNatClampNeg) (fun (j40 : Nat) => gd (2 < mZ M0 16 j1) (b2 (f_Checks_canRead M0 j0 (2 : Int32) (mL M0 16 j1 2) ((mI M0 12 j40 1).toInt64)) (fun (M43 : me_M) (r44 : Int32) => (if r44 = 0 then some (M43, (0 : Int32)) else (if (mI M43 2 j2 9) = 2 then gd (3 < mZ M0 16 j1) (b2 (f_Checks_canRead M43 j0 (3 : Int32) (mL M43 16 j1 3) ((mI M43 12 j40 2).toInt64)) (fun (M48 : me_M) (r49 : Int32) => (if r49 = 0 then some (M48, (0 : Int32)) else some (M48, (1 : Int32))))) else some (M43, (1 : Int32)))))))))) else some (M0, (0 : Int32)))) else some (M0, (0 : Int32))))))))))))
def rm_Checks_areArguments : Room := { frames := 4, cells := 0, slots := 0, locals := 111 }
abbrev q_Checks_areArguments (D : va_G) (ad : Nat → Nat → Nat) (ca : Nat → ClassId) (N : Nat → Nat) (M0 MZ : me_M) (RZ : Int32) (A : Nat → Prop) : Array Value → Jvm.State → Outcome → Jvm.State → Prop := va_Qi (fun r (_ : Unit) => r = RZ ∧ me_wf N MZ ∧ me_kp M0 MZ ∧ (RZ = 1 ∨ RZ = 0)) (fg_B D A (fun _ => me_W ad ca MZ) (fun _ => [])) A
set_option maxHeartbeats 4000000 in
set_option maxRecDepth 100000 in
theorem c_Checks_areArguments (l : Launch) (D : va_G) (ad : Nat → Nat → Nat) (ca : Nat → ClassId) (N : Nat → Nat) (M0 MZ : me_M) (RZ : Int32) (j0 : Nat) (j1 : Nat) (h : f_Checks_areArguments M0 j0 j1 = (some (MZ, RZ))) (hwf : me_wf N M0) (hj0 : j0 < N 6) (hj1 : j1 < N 16) (sz : Nat) : Met l y_Checks_areArguments (fg_w y_Checks_areArguments prog_3_method_12_code 5 (some .boolean)) rm_Checks_areArguments (va_Pc [.ref (ad 6 j0), .ref (ad 16 j1)] (fz_P D (me_T ca) (me_W ad ca M0) sz)) (q_Checks_areArguments D ad ca N M0 MZ RZ (va_A (me_W ad ca M0) sz)) rm_Checks_areArguments.cells rm_Checks_areArguments.slots (va_A (me_W ad ca M0) sz) := by
  refine fz_enter (fun A => q_Checks_areArguments D ad ca N M0 MZ RZ A) (by decide +kernel) (Nat.le_of_ble_eq_true rfl) ?_
  intro p e s m below meth c ls A hx hb hml hown hts hr hlocks hin hP hK hD hS hA hX hl hz
  have hl : lv_has ls 5 [(0, .ref (ad 6 j0)), (1, .ref (ad 16 j1))] := hl
  unfold f_Checks_areArguments at h
  have hkp : me_kp M0 M0 := me_kp.rf
  have hkb := hkp
  refine lv_aload_n hx hb d_Checks_areArguments_0 rfl (lv_at hl 0 rfl) ?_
  refine g_Checks_0 hx hb hts hown hK hP hwf hj0 (hts _ u_610) d_Checks_areArguments_1 ?_
  obtain ⟨j2, e3, h⟩ := bd_ob h
  have hj2 : j2 < N 2 := (hwf.2.1 6 j0 0 _ e3 (by decide) hj0)
  refine me_opt (j := j2) e3 ?_
  refine g_Code_9 hx hb hts hown hK hP hwf hj2 (hts _ u_250) d_Checks_areArguments_4 ?_
  refine lv_topi (fun w4 ew4 => ?_)
  by_cases n5 : w4 = 4
  · have h := if_t (ew4.symm.trans n5) h
    subst n5
    refine lv_tableIn (off := 27) (tgt := 34) hx hb d_Checks_areArguments_7 (by decide) (by decide) (by decide) (by decide) ?_
    refine lv_aload_n hx hb d_Checks_areArguments_34 rfl (lv_at hl 0 rfl) ?_
    refine g_Checks_3 hx hb hts hown hK hP hwf hj0 (hts _ u_613) d_Checks_areArguments_35 ?_
    obtain ⟨j6, e7, h⟩ := bd_ob h
    have hj6 : j6 < N 18 := (hwf.2.1 6 j0 3 _ e7 (by decide) hj0)
    refine me_opt (j := j6) e7 ?_
    refine lv_iconst (v := 1) hx hb d_Checks_areArguments_38 (by decide) ?_
    obtain ⟨g8, h⟩ := gd_ob h
    refine me_aald (k := 18) (t := 10) hx hb hK hP hwf hj6 (by decide) (by decide) rfl (fun _ => rfl) (me_in (i := (1 : Int32)) (k := 1) (by decide) (by decide) g8) d_Checks_areArguments_39 ?_
    rw [show (1 : Int32).toNatClampNeg = 1 by decide]
    obtain ⟨j9, e10, h⟩ := bd_ob h
    have hj9 : j9 < N 10 := (hwf.2.1 18 j6 1 _ e10 (by decide) hj6)
    refine me_opt (j := j9) e10 ?_
    refine g_Cell_0 hx hb hts hown hK hP hwf hj9 (hts _ u_421) d_Checks_areArguments_40 ?_
    refine lv_iconst (v := 1) hx hb d_Checks_areArguments_43 (by decide) ?_
    refine lv_icmp_ne (tgt := 51) hx hb d_Checks_areArguments_44 (by decide) (fun c11 => ?_) (fun c11 => ?_)
    · have h := if_f c11 h
      refine lv_iconst (v := 0) hx hb d_Checks_areArguments_51 (by decide) ?_
      exact me_retz (me_kp M0) h (by decide) hx hb hr hlocks hwf hkp hP hK hD hS d_Checks_areArguments_52
    have h := if_t c11 h
    refine lv_iconst (v := 1) hx hb d_Checks_areArguments_47 (by decide) ?_
    refine lv_goto (tgt := 52) hx hb d_Checks_areArguments_48 (by decide) ?_
    exact me_retz (me_kp M0) h (by decide) hx hb hr hlocks hwf hkp hP hK hD hS d_Checks_areArguments_52
  have h := if_f (fun z => n5 (ew4.trans z)) h
  by_cases n12 : w4 = 5
  · have h := if_t (ew4.symm.trans n12) h
    subst n12
    refine lv_tableIn (off := 25) (tgt := 32) hx hb d_Checks_areArguments_7 (by decide) (by decide) (by decide) (by decide) ?_
    refine lv_iconst (v := 1) hx hb d_Checks_areArguments_32 (by decide) ?_
    exact me_retz (me_kp M0) h (by decide) hx hb hr hlocks hwf hkp hP hK hD hS d_Checks_areArguments_33
  have h := if_f (fun z => n12 (ew4.trans z)) h
  by_cases n13 : w4 = 6
  · have h := if_t (ew4.symm.trans n13) h
    subst n13
    refine lv_tableIn (off := 46) (tgt := 53) hx hb d_Checks_areArguments_7 (by decide) (by decide) (by decide) (by decide) ?_
    refine lv_aload_n hx hb d_Checks_areArguments_53 rfl (lv_at hl 0 rfl) ?_
    refine g_Checks_3 hx hb hts hown hK hP hwf hj0 (hts _ u_613) d_Checks_areArguments_54 ?_
    obtain ⟨j14, e15, h⟩ := bd_ob h
    have hj14 : j14 < N 18 := (hwf.2.1 6 j0 3 _ e15 (by decide) hj0)
    refine me_opt (j := j14) e15 ?_
    refine lv_iconst (v := 2) hx hb d_Checks_areArguments_57 (by decide) ?_
    obtain ⟨g16, h⟩ := gd_ob h
    refine me_aald (k := 18) (t := 10) hx hb hK hP hwf hj14 (by decide) (by decide) rfl (fun _ => rfl) (me_in (i := (2 : Int32)) (k := 2) (by decide) (by decide) g16) d_Checks_areArguments_58 ?_
    rw [show (2 : Int32).toNatClampNeg = 2 by decide]
    obtain ⟨j17, e18, h⟩ := bd_ob h
    have hj17 : j17 < N 10 := (hwf.2.1 18 j14 2 _ e18 (by decide) hj14)
    refine me_opt (j := j17) e18 ?_
    refine g_Cell_0 hx hb hts hown hK hP hwf hj17 (hts _ u_421) d_Checks_areArguments_59 ?_
    refine lv_iconst (v := 1) hx hb d_Checks_areArguments_62 (by decide) ?_
    refine lv_icmp_ne (tgt := 84) hx hb d_Checks_areArguments_63 (by decide) (fun c19 => ?_) (fun c19 => ?_)
    · have h := if_f c19 h
      refine lv_iconst (v := 0) hx hb d_Checks_areArguments_84 (by decide) ?_
      exact me_retz (me_kp M0) h (by decide) hx hb hr hlocks hwf hkp hP hK hD hS d_Checks_areArguments_85
    have h := if_t c19 h
    refine lv_aload_n hx hb d_Checks_areArguments_66 rfl (lv_at hl 0 rfl) ?_
    refine lv_iconst (v := 1) hx hb d_Checks_areArguments_67 (by decide) ?_
    refine lv_aload_n hx hb d_Checks_areArguments_68 rfl (lv_at hl 1 rfl) ?_
    refine lv_iconst (v := 1) hx hb d_Checks_areArguments_69 (by decide) ?_
    obtain ⟨g20, h⟩ := gd_ob h
    refine me_lald hx hb hK hP hwf hj1 (me_in (i := (1 : Int32)) (k := 1) (by decide) (by decide) g20) d_Checks_areArguments_70 ?_
    refine fg_topl (y := mL M0 16 j1 1) (congrArg _ (by decide)) ?_
    refine lv_aload_n hx hb d_Checks_areArguments_71 rfl (lv_at hl 1 rfl) ?_
    refine lv_iconst (v := 2) hx hb d_Checks_areArguments_72 (by decide) ?_
    obtain ⟨g21, h⟩ := gd_ob h
    refine me_lald hx hb hK hP hwf hj1 (me_in (i := (2 : Int32)) (k := 2) (by decide) (by decide) g21) d_Checks_areArguments_73 ?_
    refine fg_topl (y := mL M0 16 j1 2) (congrArg _ (by decide)) ?_
    obtain ⟨M22, r23, eM22, h⟩ := b2_ob h
    refine me_theni0 (M1 := M22) (me_runV (C := "FilterGuard$Checks") (As := [.int 1, .long (mL M0 16 j1 1), .long (mL M0 16 j1 2)]) (rest := []) ⟨hx, hb, hml, hown, hts⟩ (c_Checks_canRead l D ad ca N M0 M22 r23 j0 (1 : Int32) (mL M0 16 j1 1) (mL M0 16 j1 2) eM22 hwf hj0 _) rfl (by show fg_nm y_Checks_canRead 3; decide +kernel) u_1623 u_1625 u_69 u_191 u_1626 ⟨Nat.le_of_ble_eq_true rfl, Nat.le_of_ble_eq_true rfl⟩ hX hz hK hP hD hwf hS hA hj0 (by decide) rfl rfl rfl hl.1 (Nat.le_of_ble_eq_true rfl) d_Checks_areArguments_74 ⟨Nat.le_of_ble_eq_true rfl, Nat.le_of_ble_eq_true rfl⟩) hP hD hK hS hA rfl rfl (fun H locs hw hP hD hS => ?_)
    obtain ⟨hwf, hk9, zr23⟩ := hw
    have hkp := hkp.tr hk9
    refine lv_if_eq (tgt := 84) hx hb d_Checks_areArguments_77 (by decide) (fun c24 => ?_) (fun c24 => ?_)
    · have h := if_t c24 h
      refine lv_iconst (v := 0) hx hb d_Checks_areArguments_84 (by decide) ?_
      exact me_retz (me_kp M0) h (by decide) hx hb hr hlocks hwf hkp hP hK hD hS d_Checks_areArguments_85
    have h := if_f c24 h
    refine lv_iconst (v := 1) hx hb d_Checks_areArguments_80 (by decide) ?_
    refine lv_goto (tgt := 85) hx hb d_Checks_areArguments_81 (by decide) ?_
    exact me_retz (me_kp M0) h (by decide) hx hb hr hlocks hwf hkp hP hK hD hS d_Checks_areArguments_85
  have h := if_f (fun z => n13 (ew4.trans z)) h
  have in5 := lv_neT n5 (show (4 : Int32).toInt = 4 from rfl)
  have in12 := lv_neT n12 (show (5 : Int32).toInt = 5 from rfl)
  have in13 := lv_neT n13 (show (6 : Int32).toInt = 6 from rfl)
  refine lv_tableOut (tgt := 86) hx hb d_Checks_areArguments_7 (by omega) (by decide) ?_
  refine lv_aload_n hx hb d_Checks_areArguments_86 rfl (lv_at hl 1 rfl) ?_
  refine lv_iconst (v := 1) hx hb d_Checks_areArguments_87 (by decide) ?_
  obtain ⟨g25, h⟩ := gd_ob h
  refine me_lald hx hb hK hP hwf hj1 (me_in (i := (1 : Int32)) (k := 1) (by decide) (by decide) g25) d_Checks_areArguments_88 ?_
  refine fg_topl (y := mL M0 16 j1 1) (congrArg _ (by decide)) ?_
  obtain ⟨v26, ev26, h⟩ := st_ob h
  refine fg_topl (y := v26) ev26.symm ?_
  refine lv_lstore_n (lv' := [(2, .long v26), (0, .ref (ad 6 j0)), (1, .ref (ad 16 j1))]) hx hb d_Checks_areArguments_89 rfl hl (by decide) rfl (fun ls hl => ?_)
  refine lv_aload_n hx hb d_Checks_areArguments_90 rfl (lv_at hl 1 rfl) ?_
  refine g_Checks_3 hx hb hts hown hK hP hwf hj0 (hts _ u_613) d_Checks_areArguments_91 ?_
  obtain ⟨j27, e28, h⟩ := bd_ob h
  have hj27 : j27 < N 18 := (hwf.2.1 6 j0 3 _ e28 (by decide) hj0)
  refine me_opt (j := j27) e28 ?_
  refine lv_iconst (v := 1) hx hb d_Checks_areArguments_94 (by decide) ?_
  obtain ⟨g29, h⟩ := gd_ob h
  refine me_aald (k := 18) (t := 10) hx hb hK hP hwf hj27 (by decide) (by decide) rfl (fun _ => rfl) (me_in (i := (1 : Int32)) (k := 1) (by decide) (by decide) g29) d_Checks_areArguments_95 ?_
  rw [show (1 : Int32).toNatClampNeg = 1 by decide]
  obtain ⟨j30, e31, h⟩ := bd_ob h
  have hj30 : j30 < N 10 := (hwf.2.1 18 j27 1 _ e31 (by decide) hj27)
  refine me_opt (j := j30) e31 ?_
  refine g_Cell_0 hx hb hts hown hK hP hwf hj30 (hts _ u_421) d_Checks_areArguments_96 ?_
  refine lv_bipush (v := 6) hx hb d_Checks_areArguments_99 (by decide) ?_
  refine lv_icmp_ne (tgt := 128) hx hb d_Checks_areArguments_101 (by decide) (fun c32 => ?_) (fun c32 => ?_)
  · have h := if_f c32 h
    refine lv_iconst (v := 0) hx hb d_Checks_areArguments_128 (by decide) ?_
    exact me_retz (me_kp M0) h (by decide) hx hb hr hlocks hwf hkp hP hK hD hS d_Checks_areArguments_129
  have h := if_t c32 h
  refine lv_lload_n hx hb d_Checks_areArguments_104 rfl (lv_at hl 0 rfl) ?_
  refine lv_lconst (v := 0) hx hb d_Checks_areArguments_105 (by decide) ?_
  refine W.lcmp hx hb d_Checks_areArguments_106 ?_
  refine lv_if_lt (tgt := 128) hx hb d_Checks_areArguments_107 (by decide) (fun c33 => ?_) (fun c33 => ?_)
  · have h := if_t ((lg_cmp_lt _ _).mp c33) h
    refine lv_iconst (v := 0) hx hb d_Checks_areArguments_128 (by decide) ?_
    exact me_retz (me_kp M0) h (by decide) hx hb hr hlocks hwf hkp hP hK hD hS d_Checks_areArguments_129
  have h := if_f (fun z => c33 ((lg_cmp_lt _ _).mpr z)) h
  refine lv_lload_n hx hb d_Checks_areArguments_110 rfl (lv_at hl 0 rfl) ?_
  refine lv_ldc2 hx hb hown (hts _ u_1632) d_Checks_areArguments_111 ?_
  refine W.lcmp hx hb d_Checks_areArguments_114 ?_
  refine lv_if_ge (tgt := 128) hx hb d_Checks_areArguments_115 (by decide) (fun c34 => ?_) (fun c34 => ?_)
  · have h := if_f (Int64.not_lt.mpr ((lg_cmp_ge _ _).mp c34)) h
    refine lv_iconst (v := 0) hx hb d_Checks_areArguments_128 (by decide) ?_
    exact me_retz (me_kp M0) h (by decide) hx hb hr hlocks hwf hkp hP hK hD hS d_Checks_areArguments_129
  have h := if_t (Int64.not_le.mp (fun z => c34 ((lg_cmp_ge _ _).mpr z))) h
  refine lv_aload_n hx hb d_Checks_areArguments_118 rfl (lv_at hl 1 rfl) ?_
  refine g_Checks_1 hx hb hts hown hK hP hwf hj0 (hts _ u_611) d_Checks_areArguments_119 ?_
  obtain ⟨j35, e36, h⟩ := bd_ob h
  have hj35 : j35 < N 19 := (hwf.2.1 6 j0 1 _ e36 (by decide) hj0)
  refine me_opt (j := j35) e36 ?_
  refine lv_lload_n hx hb d_Checks_areArguments_122 rfl (lv_at hl 0 rfl) ?_
  refine lv_l2i (v := v26.toInt32) hx hb d_Checks_areArguments_123 rfl ?_
  obtain ⟨g37, h⟩ := gd_ob h
  refine me_aald (k := 19) (t := 12) hx hb hK hP hwf hj35 (by decide) (by decide) rfl (fun _ => rfl) g37 d_Checks_areArguments_124 ?_
  rcases e39 : (mR M0 19 j35 v26.toInt32.toNatClampNeg) with _ | j38
  · have h := oc_n2 e39 h
    refine lv_ifnonnullN hx hb d_Checks_areArguments_125 ?_
    refine lv_iconst (v := 0) hx hb d_Checks_areArguments_128 (by decide) ?_
    exact me_retz (me_kp M0) h (by decide) hx hb hr hlocks hwf hkp hP hK hD hS d_Checks_areArguments_129
  have h := oc_s2 e39 h
  refine lv_ifnonnull (tgt := 130) hx hb d_Checks_areArguments_125 (by decide) ?_
  refine lv_aload_n hx hb d_Checks_areArguments_130 rfl (lv_at hl 1 rfl) ?_
  refine g_Checks_1 hx hb hts hown hK hP hwf hj0 (hts _ u_611) d_Checks_areArguments_131 ?_
  refine me_opt (j := j35) e36 ?_
  refine lv_lload_n hx hb d_Checks_areArguments_134 rfl (lv_at hl 0 rfl) ?_
  refine lv_l2i (v := v26.toInt32) hx hb d_Checks_areArguments_135 rfl ?_
  refine me_aald (k := 19) (t := 12) hx hb hK hP hwf hj35 (by decide) (by decide) rfl (fun _ => rfl) g37 d_Checks_areArguments_136 ?_
  obtain ⟨j40, e41, h⟩ := bd_ob h
  have hj40 : j40 < N 12 := (hwf.2.1 19 j35 v26.toInt32.toNatClampNeg _ e41 (by decide) hj35)
  refine me_opt (j := j40) e41 ?_
  refine lv_astore (lv' := [(4, .ref (ad 12 j40)), (2, .long v26), (0, .ref (ad 6 j0)), (1, .ref (ad 16 j1))]) hx hb d_Checks_areArguments_137 hl (by decide) rfl (fun ls hl => ?_)
  refine lv_aload_n hx hb d_Checks_areArguments_139 rfl (lv_at hl 2 rfl) ?_
  refine lv_iconst (v := 2) hx hb d_Checks_areArguments_140 (by decide) ?_
  refine lv_aload_n hx hb d_Checks_areArguments_141 rfl (lv_at hl 3 rfl) ?_
  refine lv_iconst (v := 2) hx hb d_Checks_areArguments_142 (by decide) ?_
  obtain ⟨g42, h⟩ := gd_ob h
  refine me_lald hx hb hK hP hwf hj1 (me_in (i := (2 : Int32)) (k := 2) (by decide) (by decide) g42) d_Checks_areArguments_143 ?_
  refine fg_topl (y := mL M0 16 j1 2) (congrArg _ (by decide)) ?_
  refine lv_aload hx hb d_Checks_areArguments_144 (lv_at hl 0 rfl) ?_
  refine g_Store_1 hx hb hts hown hK hP hwf hj40 (hts _ u_903) d_Checks_areArguments_146 ?_
  refine lv_i2l (v := (mI M0 12 j40 1).toInt64) hx hb d_Checks_areArguments_149 rfl ?_
  obtain ⟨M43, r44, eM43, h⟩ := b2_ob h
  refine me_theni0 (M1 := M43) (me_runV (C := "FilterGuard$Checks") (As := [.int 2, .long (mL M0 16 j1 2), .long ((mI M0 12 j40 1).toInt64)]) (rest := []) ⟨hx, hb, hml, hown, hts⟩ (c_Checks_canRead l D ad ca N M0 M43 r44 j0 (2 : Int32) (mL M0 16 j1 2) ((mI M0 12 j40 1).toInt64) eM43 hwf hj0 _) rfl (by show fg_nm y_Checks_canRead 3; decide +kernel) u_1623 u_1625 u_69 u_191 u_1626 ⟨Nat.le_of_ble_eq_true rfl, Nat.le_of_ble_eq_true rfl⟩ hX hz hK hP hD hwf hS hA hj0 (by decide) rfl rfl rfl hl.1 (Nat.le_of_ble_eq_true rfl) d_Checks_areArguments_150 ⟨Nat.le_of_ble_eq_true rfl, Nat.le_of_ble_eq_true rfl⟩) hP hD hK hS hA rfl rfl (fun H locs hw hP hD hS => ?_)
  obtain ⟨hwf, hk9, zr44⟩ := hw
  have hkp := hkp.tr hk9
  refine lv_if_eq (tgt := 188) hx hb d_Checks_areArguments_153 (by decide) (fun c45 => ?_) (fun c45 => ?_)
  · have h := if_t c45 h
    refine lv_iconst (v := 0) hx hb d_Checks_areArguments_188 (by decide) ?_
    exact me_retz (me_kp M0) h (by decide) hx hb hr hlocks hwf hkp hP hK hD hS d_Checks_areArguments_189
  have h := if_f c45 h
  refine lv_aload_n hx hb d_Checks_areArguments_156 rfl (lv_at hl 2 rfl) ?_
  refine g_Checks_0 hx hb hts hown hK hP hwf hj0 (hts _ u_610) d_Checks_areArguments_157 ?_
  refine me_opt (j := j2) (kp_r hkb hkp e3) ?_
  refine g_Code_9 hx hb hts hown hK hP hwf hj2 (hts _ u_250) d_Checks_areArguments_160 ?_
  refine lv_iconst (v := 2) hx hb d_Checks_areArguments_163 (by decide) ?_
  refine lv_icmp_ne (tgt := 184) hx hb d_Checks_areArguments_164 (by decide) (fun c46 => ?_) (fun c46 => ?_)
  · have h := if_f c46 h
    refine lv_iconst (v := 1) hx hb d_Checks_areArguments_184 (by decide) ?_
    refine lv_goto (tgt := 189) hx hb d_Checks_areArguments_185 (by decide) ?_
    exact me_retz (me_kp M0) h (by decide) hx hb hr hlocks hwf hkp hP hK hD hS d_Checks_areArguments_189
  have h := if_t c46 h
  refine lv_aload_n hx hb d_Checks_areArguments_167 rfl (lv_at hl 2 rfl) ?_
  refine lv_iconst (v := 3) hx hb d_Checks_areArguments_168 (by decide) ?_
  refine lv_aload_n hx hb d_Checks_areArguments_169 rfl (lv_at hl 3 rfl) ?_
  refine lv_iconst (v := 3) hx hb d_Checks_areArguments_170 (by decide) ?_
  obtain ⟨g47, h⟩ := gd_ob h
  refine me_lald hx hb hK hP hwf hj1 (me_in (i := (3 : Int32)) (k := 3) (by decide) (by decide) (kp_c hkb.z hkp.z g47)) d_Checks_areArguments_171 ?_
  refine fg_topl (y := mL M43 16 j1 3) (congrArg _ (by decide)) ?_
  refine lv_aload hx hb d_Checks_areArguments_172 (lv_at hl 0 rfl) ?_
  refine g_Store_2 hx hb hts hown hK hP hwf hj40 (hts _ u_908) d_Checks_areArguments_174 ?_
  refine lv_i2l (v := (mI M43 12 j40 2).toInt64) hx hb d_Checks_areArguments_177 rfl ?_
  obtain ⟨M48, r49, eM48, h⟩ := b2_ob h
  refine me_theni0 (M1 := M48) (me_runV (C := "FilterGuard$Checks") (As := [.int 3, .long (mL M43 16 j1 3), .long ((mI M43 12 j40 2).toInt64)]) (rest := []) ⟨hx, hb, hml, hown, hts⟩ (c_Checks_canRead l D ad ca N M43 M48 r49 j0 (3 : Int32) (mL M43 16 j1 3) ((mI M43 12 j40 2).toInt64) eM48 hwf hj0 _) rfl (by show fg_nm y_Checks_canRead 3; decide +kernel) u_1623 u_1625 u_69 u_191 u_1626 ⟨Nat.le_of_ble_eq_true rfl, Nat.le_of_ble_eq_true rfl⟩ hX hz hK hP hD hwf hS hA hj0 (by decide) rfl rfl rfl hl.1 (Nat.le_of_ble_eq_true rfl) d_Checks_areArguments_178 ⟨Nat.le_of_ble_eq_true rfl, Nat.le_of_ble_eq_true rfl⟩) hP hD hK hS hA rfl rfl (fun H locs hw hP hD hS => ?_)
  obtain ⟨hwf, hk9, zr49⟩ := hw
  have hkp := hkp.tr hk9
  refine lv_if_eq (tgt := 188) hx hb d_Checks_areArguments_181 (by decide) (fun c50 => ?_) (fun c50 => ?_)
  · have h := if_t c50 h
    refine lv_iconst (v := 0) hx hb d_Checks_areArguments_188 (by decide) ?_
    exact me_retz (me_kp M0) h (by decide) hx hb hr hlocks hwf hkp hP hK hD hS d_Checks_areArguments_189
  have h := if_f c50 h
  refine lv_iconst (v := 1) hx hb d_Checks_areArguments_184 (by decide) ?_
  refine lv_goto (tgt := 189) hx hb d_Checks_areArguments_185 (by decide) ?_
  exact me_retz (me_kp M0) h (by decide) hx hb hr hlocks hwf hkp hP hK hD hS d_Checks_areArguments_189
theorem d_Checks_allowsCall_8 : decode prog_3_method_11_code 8 = .ok (.iload_n 3, 1) := by decide +kernel
theorem d_Checks_allowsCall_9 : decode prog_3_method_11_code 9 = .ok (.iconst 5, 1) := by decide +kernel
theorem d_Checks_allowsCall_10 : decode prog_3_method_11_code 10 = .ok (.if_icmp .gt 19, 3) := by decide +kernel
theorem d_Checks_allowsCall_29 : decode prog_3_method_11_code 29 = .ok (.aload_n 0, 1) := by decide +kernel
theorem d_Checks_allowsCall_30 : decode prog_3_method_11_code 30 = .ok (.getfield 22, 3) := by decide +kernel
theorem d_Checks_allowsCall_33 : decode prog_3_method_11_code 33 = .ok (.iconst 0, 1) := by decide +kernel
theorem d_Checks_allowsCall_34 : decode prog_3_method_11_code 34 = .ok (.aaload, 1) := by decide +kernel
theorem d_Checks_allowsCall_35 : decode prog_3_method_11_code 35 = .ok (.iconst 1, 1) := by decide +kernel
theorem d_Checks_allowsCall_36 : decode prog_3_method_11_code 36 = .ok (.putfield 34, 3) := by decide +kernel
theorem d_Checks_allowsCall_39 : decode prog_3_method_11_code 39 = .ok (.iload_n 2, 1) := by decide +kernel
theorem d_Checks_allowsCall_40 : decode prog_3_method_11_code 40 = .ok (.ireturn, 1) := by decide +kernel
theorem d_Checks_allowsCall_13 : decode prog_3_method_11_code 13 = .ok (.aload_n 0, 1) := by decide +kernel
theorem d_Checks_allowsCall_14 : decode prog_3_method_11_code 14 = .ok (.getfield 22, 3) := by decide +kernel
theorem d_Checks_allowsCall_17 : decode prog_3_method_11_code 17 = .ok (.iload_n 3, 1) := by decide +kernel
theorem d_Checks_allowsCall_18 : decode prog_3_method_11_code 18 = .ok (.aaload, 1) := by decide +kernel
theorem d_Checks_allowsCall_19 : decode prog_3_method_11_code 19 = .ok (.iconst 0, 1) := by decide +kernel
theorem d_Checks_allowsCall_20 : decode prog_3_method_11_code 20 = .ok (.putfield 34, 3) := by decide +kernel
theorem d_Checks_allowsCall_23 : decode prog_3_method_11_code 23 = .ok (.iinc 3 1, 3) := by decide +kernel
theorem d_Checks_allowsCall_26 : decode prog_3_method_11_code 26 = .ok (.goto (-18), 3) := by decide +kernel
theorem d_Checks_allowsCall_0 : decode prog_3_method_11_code 0 = .ok (.aload_n 0, 1) := by decide +kernel
theorem d_Checks_allowsCall_1 : decode prog_3_method_11_code 1 = .ok (.aload_n 1, 1) := by decide +kernel
theorem d_Checks_allowsCall_2 : decode prog_3_method_11_code 2 = .ok (.invokevirtual 133, 3) := by decide +kernel
theorem u_1619 : Cond.methodLink "FilterGuard$Checks" 133 ⟨"FilterGuard$Checks", "areArguments", "([J)Z"⟩ ∈ fg_g := fg_in (List.mem_of_getElem? (i := 1619) (by decide +kernel)) rfl
theorem u_1622 : Cond.code ⟨"FilterGuard$Checks", "areArguments", "([J)Z"⟩ prog_3_method_12_code 5 (some .boolean) ∈ fg_g := fg_in (List.mem_of_getElem? (i := 1622) (by decide +kernel)) rfl
theorem u_1621 : Cond.instanceMethod ⟨"FilterGuard$Checks", "areArguments", "([J)Z"⟩ ∈ fg_g := fg_in (List.mem_of_getElem? (i := 1621) (by decide +kernel)) rfl
theorem u_68 : Cond.selects "FilterGuard$Checks" ⟨"FilterGuard$Checks", "areArguments", "([J)Z"⟩ ⟨"FilterGuard$Checks", "areArguments", "([J)Z"⟩ ∈ fg_g := fg_in (List.mem_of_getElem? (i := 68) (by decide +kernel)) rfl
theorem d_Checks_allowsCall_5 : decode prog_3_method_11_code 5 = .ok (.istore_n 2, 1) := by decide +kernel
theorem d_Checks_allowsCall_6 : decode prog_3_method_11_code 6 = .ok (.iconst 1, 1) := by decide +kernel
theorem d_Checks_allowsCall_7 : decode prog_3_method_11_code 7 = .ok (.istore_n 3, 1) := by decide +kernel
abbrev y_Checks_allowsCall : MethodName := ⟨"FilterGuard$Checks", "allowsCall", "([J)Z"⟩
def f_Checks_allowsCall_l8 (j0 : Nat) : Nat → me_M → Int32 → Int32 → Option (me_M × Int32)
  | 0, _, _, _ => none
  | fu + 1, M, y2, y3 => (if 5 < y3 then bd (mR M 6 j0 3) (fun (j2 : Nat) => gd (0 < mZ M 18 j2) (bd (mR M 18 j2 0) (fun (j5 : Nat) => st (wI M 10 j5 0 1) (fun (M7 : me_M) => some (M7, y2))))) else bd (mR M 6 j0 3) (fun (j8 : Nat) => gd (¬ (y3 < 0 ∨ mZ M 18 j8 ≤ y3.toNatClampNeg)) (bd (mR M 18 j8 y3.toNatClampNeg) (fun (j11 : Nat) => st (wI M 10 j11 0 0) (fun (M13 : me_M) => f_Checks_allowsCall_l8 j0 fu M13 y2 (y3 + 1))))))
def f_Checks_allowsCall (M0 : me_M) (j0 : Nat) (j1 : Nat) : Option (me_M × Int32) := b2 (f_Checks_areArguments M0 j0 j1) (fun (M14 : me_M) (r15 : Int32) => f_Checks_allowsCall_l8 j0 fuel M14 r15 (1 : Int32))
def rm_Checks_allowsCall : Room := { frames := 5, cells := 0, slots := 0, locals := 135 }
abbrev q_Checks_allowsCall (D : va_G) (ad : Nat → Nat → Nat) (ca : Nat → ClassId) (N : Nat → Nat) (M0 MZ : me_M) (RZ : Int32) (A : Nat → Prop) : Array Value → Jvm.State → Outcome → Jvm.State → Prop := va_Qi (fun r (_ : Unit) => r = RZ ∧ me_wf N MZ ∧ me_kp M0 MZ ∧ (RZ = 1 ∨ RZ = 0)) (fg_B D A (fun _ => me_W ad ca MZ) (fun _ => [])) A
set_option maxHeartbeats 4000000 in
set_option maxRecDepth 100000 in
theorem c_Checks_allowsCall (l : Launch) (D : va_G) (ad : Nat → Nat → Nat) (ca : Nat → ClassId) (N : Nat → Nat) (M0 MZ : me_M) (RZ : Int32) (j0 : Nat) (j1 : Nat) (h : f_Checks_allowsCall M0 j0 j1 = (some (MZ, RZ))) (hwf : me_wf N M0) (hj0 : j0 < N 6) (hj1 : j1 < N 16) (sz : Nat) : Met l y_Checks_allowsCall (fg_w y_Checks_allowsCall prog_3_method_11_code 4 (some .boolean)) rm_Checks_allowsCall (va_Pc [.ref (ad 6 j0), .ref (ad 16 j1)] (fz_P D (me_T ca) (me_W ad ca M0) sz)) (q_Checks_allowsCall D ad ca N M0 MZ RZ (va_A (me_W ad ca M0) sz)) rm_Checks_allowsCall.cells rm_Checks_allowsCall.slots (va_A (me_W ad ca M0) sz) := by
  refine fz_enter (fun A => q_Checks_allowsCall D ad ca N M0 MZ RZ A) (by decide +kernel) (Nat.le_of_ble_eq_true rfl) ?_
  intro p e s m below meth c ls A hx hb hml hown hts hr hlocks hin hP hK hD hS hA hX hl hz
  have hl : lv_has ls 4 [(0, .ref (ad 6 j0)), (1, .ref (ad 16 j1))] := hl
  unfold f_Checks_allowsCall at h
  have hkp : me_kp M0 M0 := me_kp.rf
  have hkb := hkp
  have b_8 : ∀ (fu : Nat), ∀ (M : me_M) (y2 : Int32) (y3 : Int32) (H : Heap) (locs : List Loc) (ls : Array Slot), f_Checks_allowsCall_l8 j0 fu M y2 y3 = (some (MZ, RZ)) → (y2 = 1 ∨ y2 = 0) → me_wf N M → me_kp M0 M → va_P D classes (me_W ad ca M) H → va_D A (me_W ad ca M) → va_S A s.heap H locs → lv_has ls 4 [(0, .ref (ad 6 j0)), (2, .int y2), (3, .int y3)] → W p l e rm_Checks_allowsCall s m [.ref (ad 6 j0), .ref (ad 16 j1)].toArray below meth c H locs 0 0 (MQ below (q_Checks_allowsCall D ad ca N M0 MZ RZ A) [.ref (ad 6 j0), .ref (ad 16 j1)].toArray s rm_Checks_allowsCall.cells rm_Checks_allowsCall.slots A) (F0 m 8 ls []) := by
    intro fu
    induction fu with
    | zero =>
      intro M y2 y3 H locs ls h zy2 hwf hkp hP hD hS hl
      cases h
    | succ fu ih =>
      intro M y2 y3 H locs ls h zy2 hwf hkp hP hD hS hl
      unfold f_Checks_allowsCall_l8 at h
      have hkb := hkp
      refine lv_iload_n hx hb d_Checks_allowsCall_8 rfl (lv_at hl 2 rfl) ?_
      refine lv_iconst (v := 5) hx hb d_Checks_allowsCall_9 (by decide) ?_
      refine lv_icmp_gt (tgt := 29) hx hb d_Checks_allowsCall_10 (by decide) (fun c1 => ?_) (fun c1 => ?_)
      · have h := if_t c1 h
        refine lv_aload_n hx hb d_Checks_allowsCall_29 rfl (lv_at hl 0 rfl) ?_
        refine g_Checks_3 hx hb hts hown hK hP hwf hj0 (hts _ u_613) d_Checks_allowsCall_30 ?_
        obtain ⟨j2, e3, h⟩ := bd_ob h
        have hj2 : j2 < N 18 := (hwf.2.1 6 j0 3 _ e3 (by decide) hj0)
        refine me_opt (j := j2) e3 ?_
        refine lv_iconst (v := 0) hx hb d_Checks_allowsCall_33 (by decide) ?_
        obtain ⟨g4, h⟩ := gd_ob h
        refine me_aald (k := 18) (t := 10) hx hb hK hP hwf hj2 (by decide) (by decide) rfl (fun _ => rfl) (me_in (i := (0 : Int32)) (k := 0) (by decide) (by decide) g4) d_Checks_allowsCall_34 ?_
        rw [show (0 : Int32).toNatClampNeg = 0 by decide]
        obtain ⟨j5, e6, h⟩ := bd_ob h
        have hj5 : j5 < N 10 := (hwf.2.1 18 j2 0 _ e6 (by decide) hj2)
        refine me_opt (j := j5) e6 ?_
        refine lv_iconst (v := 1) hx hb d_Checks_allowsCall_35 (by decide) ?_
        obtain ⟨M7, eM7, h⟩ := st_ob h
        refine p_Cell_0 eM7 hx hb hts hown hK hP hD hwf hS hj5 (hts _ u_421) d_Checks_allowsCall_36 (fun H locs hP hD hwf hS => ?_)
        have hkp := kp_I eM7 hkp
        refine lv_iload_n hx hb d_Checks_allowsCall_39 rfl (lv_at hl 1 rfl) ?_
        exact me_retz (me_kp M0) h zy2 hx hb hr hlocks hwf hkp hP hK hD hS d_Checks_allowsCall_40
      have h := if_f c1 h
      refine lv_aload_n hx hb d_Checks_allowsCall_13 rfl (lv_at hl 0 rfl) ?_
      refine g_Checks_3 hx hb hts hown hK hP hwf hj0 (hts _ u_613) d_Checks_allowsCall_14 ?_
      obtain ⟨j8, e9, h⟩ := bd_ob h
      have hj8 : j8 < N 18 := (hwf.2.1 6 j0 3 _ e9 (by decide) hj0)
      refine me_opt (j := j8) e9 ?_
      refine lv_iload_n hx hb d_Checks_allowsCall_17 rfl (lv_at hl 2 rfl) ?_
      obtain ⟨g10, h⟩ := gd_ob h
      refine me_aald (k := 18) (t := 10) hx hb hK hP hwf hj8 (by decide) (by decide) rfl (fun _ => rfl) g10 d_Checks_allowsCall_18 ?_
      obtain ⟨j11, e12, h⟩ := bd_ob h
      have hj11 : j11 < N 10 := (hwf.2.1 18 j8 y3.toNatClampNeg _ e12 (by decide) hj8)
      refine me_opt (j := j11) e12 ?_
      refine lv_iconst (v := 0) hx hb d_Checks_allowsCall_19 (by decide) ?_
      obtain ⟨M13, eM13, h⟩ := st_ob h
      refine p_Cell_0 eM13 hx hb hts hown hK hP hD hwf hS hj11 (hts _ u_421) d_Checks_allowsCall_20 (fun H locs hP hD hwf hS => ?_)
      have hkp := kp_I eM13 hkp
      refine lv_iinc (v := y3 + 1) (lv' := [(3, .int (y3 + 1)), (0, .ref (ad 6 j0)), (2, .int y2)]) hx hb d_Checks_allowsCall_23 hl (k := 2) rfl (by rfl) (by decide) rfl (fun ls hl => ?_)
      refine lv_goto (tgt := 8) hx hb d_Checks_allowsCall_26 (by decide) ?_
      exact ih M13 y2 (y3 + 1) _ _ _ h zy2 hwf hkp hP hD hS (lv_sub hl [1, 2, 0] rfl)
  refine lv_aload_n hx hb d_Checks_allowsCall_0 rfl (lv_at hl 0 rfl) ?_
  refine lv_aload_n hx hb d_Checks_allowsCall_1 rfl (lv_at hl 1 rfl) ?_
  obtain ⟨M14, r15, eM14, h⟩ := b2_ob h
  refine me_theni0 (M1 := M14) (me_runV (C := "FilterGuard$Checks") (As := [.ref (ad 16 j1)]) (rest := []) ⟨hx, hb, hml, hown, hts⟩ (c_Checks_areArguments l D ad ca N M0 M14 r15 j0 j1 eM14 hwf hj0 hj1 _) rfl (by show fg_nm y_Checks_areArguments 1; decide +kernel) u_1619 u_1621 u_68 u_191 u_1622 ⟨Nat.le_of_ble_eq_true rfl, Nat.le_of_ble_eq_true rfl⟩ hX hz hK hP hD hwf hS hA hj0 (by decide) rfl rfl rfl hl.1 (Nat.le_of_ble_eq_true rfl) d_Checks_allowsCall_2 ⟨Nat.le_of_ble_eq_true rfl, Nat.le_of_ble_eq_true rfl⟩) hP hD hK hS hA rfl rfl (fun H locs hw hP hD hS => ?_)
  obtain ⟨hwf, hk9, zr15⟩ := hw
  have hkp := hkp.tr hk9
  refine lv_istore_n (lv' := [(2, .int r15), (0, .ref (ad 6 j0)), (1, .ref (ad 16 j1))]) hx hb d_Checks_allowsCall_5 rfl hl (by decide) rfl (fun ls hl => ?_)
  refine lv_iconst (v := 1) hx hb d_Checks_allowsCall_6 (by decide) ?_
  refine lv_istore_n (lv' := [(3, .int 1), (2, .int r15), (0, .ref (ad 6 j0)), (1, .ref (ad 16 j1))]) hx hb d_Checks_allowsCall_7 rfl hl (by decide) rfl (fun ls hl => ?_)
  exact b_8 _ M14 r15 (1 : Int32) _ _ _ h zr15 hwf hkp hP hD hS (lv_sub hl [2, 1, 0] rfl)
theorem d_Checks_allowsStack_211 : decode prog_3_method_10_code 211 = .ok (.iload 5, 2) := by decide +kernel
theorem d_Checks_allowsStack_213 : decode prog_3_method_10_code 213 = .ok (.ifCond .eq 19, 3) := by decide +kernel
theorem d_Checks_allowsStack_232 : decode prog_3_method_10_code 232 = .ok (.aload_n 3, 1) := by decide +kernel
theorem d_Checks_allowsStack_233 : decode prog_3_method_10_code 233 = .ok (.iload 4, 2) := by decide +kernel
theorem d_Checks_allowsStack_235 : decode prog_3_method_10_code 235 = .ok (.invokevirtual 129, 3) := by decide +kernel
theorem u_1642 : Cond.methodLink "FilterGuard$Checks" 129 ⟨"FilterGuard$Cell", "storeBytes", "(I)V"⟩ ∈ fg_g := fg_in (List.mem_of_getElem? (i := 1642) (by decide +kernel)) rfl
theorem d_Checks_allowsStack_238 : decode prog_3_method_10_code 238 = .ok (.iconst 1, 1) := by decide +kernel
theorem d_Checks_allowsStack_239 : decode prog_3_method_10_code 239 = .ok (.ireturn, 1) := by decide +kernel
theorem d_Checks_allowsStack_216 : decode prog_3_method_10_code 216 = .ok (.aload_n 3, 1) := by decide +kernel
theorem d_Checks_allowsStack_217 : decode prog_3_method_10_code 217 = .ok (.aload_n 0, 1) := by decide +kernel
theorem d_Checks_allowsStack_218 : decode prog_3_method_10_code 218 = .ok (.invokevirtual 72, 3) := by decide +kernel
theorem d_Checks_allowsStack_221 : decode prog_3_method_10_code 221 = .ok (.putfield 34, 3) := by decide +kernel
theorem d_Checks_allowsStack_224 : decode prog_3_method_10_code 224 = .ok (.aload_n 3, 1) := by decide +kernel
theorem d_Checks_allowsStack_225 : decode prog_3_method_10_code 225 = .ok (.iconst 0, 1) := by decide +kernel
theorem d_Checks_allowsStack_226 : decode prog_3_method_10_code 226 = .ok (.putfield 126, 3) := by decide +kernel
theorem u_434 : Cond.fieldLink "FilterGuard$Checks" 126 "FilterGuard$Cell" "written" "I" ∈ fg_g := fg_in (List.mem_of_getElem? (i := 434) (by decide +kernel)) rfl
theorem d_Checks_allowsStack_229 : decode prog_3_method_10_code 229 = .ok (.goto 9, 3) := by decide +kernel
theorem d_Checks_allowsStack_189 : decode prog_3_method_10_code 189 = .ok (.aload_n 0, 1) := by decide +kernel
theorem d_Checks_allowsStack_190 : decode prog_3_method_10_code 190 = .ok (.getfield 23, 3) := by decide +kernel
theorem d_Checks_allowsStack_193 : decode prog_3_method_10_code 193 = .ok (.getfield 55, 3) := by decide +kernel
theorem u_253 : Cond.fieldLink "FilterGuard$Checks" 55 "FilterGuard$Code" "family" "I" ∈ fg_g := fg_in (List.mem_of_getElem? (i := 253) (by decide +kernel)) rfl
theorem d_Checks_allowsStack_196 : decode prog_3_method_10_code 196 = .ok (.iconst 5, 1) := by decide +kernel
theorem d_Checks_allowsStack_197 : decode prog_3_method_10_code 197 = .ok (.if_icmp .ne 14, 3) := by decide +kernel
theorem d_Checks_allowsStack_200 : decode prog_3_method_10_code 200 = .ok (.aload_n 3, 1) := by decide +kernel
theorem d_Checks_allowsStack_201 : decode prog_3_method_10_code 201 = .ok (.iload 4, 2) := by decide +kernel
theorem d_Checks_allowsStack_203 : decode prog_3_method_10_code 203 = .ok (.invokevirtual 122, 3) := by decide +kernel
theorem d_Checks_allowsStack_206 : decode prog_3_method_10_code 206 = .ok (.ifCond .ne 5, 3) := by decide +kernel
theorem d_Checks_allowsStack_209 : decode prog_3_method_10_code 209 = .ok (.iconst 0, 1) := by decide +kernel
theorem d_Checks_allowsStack_210 : decode prog_3_method_10_code 210 = .ok (.ireturn, 1) := by decide +kernel
theorem d_Checks_allowsStack_166 : decode prog_3_method_10_code 166 = .ok (.istore 6, 2) := by decide +kernel
theorem d_Checks_allowsStack_168 : decode prog_3_method_10_code 168 = .ok (.iload 6, 2) := by decide +kernel
theorem d_Checks_allowsStack_170 : decode prog_3_method_10_code 170 = .ok (.ifCond .ne 19, 3) := by decide +kernel
theorem d_Checks_allowsStack_173 : decode prog_3_method_10_code 173 = .ok (.iload 5, 2) := by decide +kernel
theorem d_Checks_allowsStack_175 : decode prog_3_method_10_code 175 = .ok (.ifCond .eq 34, 3) := by decide +kernel
theorem d_Checks_allowsStack_178 : decode prog_3_method_10_code 178 = .ok (.aload_n 0, 1) := by decide +kernel
theorem d_Checks_allowsStack_179 : decode prog_3_method_10_code 179 = .ok (.getfield 23, 3) := by decide +kernel
theorem d_Checks_allowsStack_182 : decode prog_3_method_10_code 182 = .ok (.getfield 55, 3) := by decide +kernel
theorem d_Checks_allowsStack_185 : decode prog_3_method_10_code 185 = .ok (.iconst 5, 1) := by decide +kernel
theorem d_Checks_allowsStack_186 : decode prog_3_method_10_code 186 = .ok (.if_icmp .eq 23, 3) := by decide +kernel
theorem d_Checks_allowsStack_123 : decode prog_3_method_10_code 123 = .ok (.putfield 34, 3) := by decide +kernel
theorem d_Checks_allowsStack_126 : decode prog_3_method_10_code 126 = .ok (.iload 5, 2) := by decide +kernel
theorem d_Checks_allowsStack_128 : decode prog_3_method_10_code 128 = .ok (.ifCond .eq 10, 3) := by decide +kernel
theorem d_Checks_allowsStack_138 : decode prog_3_method_10_code 138 = .ok (.aload_n 3, 1) := by decide +kernel
theorem d_Checks_allowsStack_139 : decode prog_3_method_10_code 139 = .ok (.iload 4, 2) := by decide +kernel
theorem d_Checks_allowsStack_141 : decode prog_3_method_10_code 141 = .ok (.invokevirtual 122, 3) := by decide +kernel
theorem d_Checks_allowsStack_144 : decode prog_3_method_10_code 144 = .ok (.ifCond .eq 7, 3) := by decide +kernel
theorem d_Checks_allowsStack_151 : decode prog_3_method_10_code 151 = .ok (.iconst 0, 1) := by decide +kernel
theorem d_Checks_allowsStack_152 : decode prog_3_method_10_code 152 = .ok (.ireturn, 1) := by decide +kernel
theorem d_Checks_allowsStack_147 : decode prog_3_method_10_code 147 = .ok (.iconst 1, 1) := by decide +kernel
theorem d_Checks_allowsStack_148 : decode prog_3_method_10_code 148 = .ok (.goto 4, 3) := by decide +kernel
theorem d_Checks_allowsStack_131 : decode prog_3_method_10_code 131 = .ok (.aload_n 3, 1) := by decide +kernel
theorem d_Checks_allowsStack_132 : decode prog_3_method_10_code 132 = .ok (.getfield 34, 3) := by decide +kernel
theorem d_Checks_allowsStack_135 : decode prog_3_method_10_code 135 = .ok (.ifCond .ne 12, 3) := by decide +kernel
theorem d_Checks_allowsStack_122 : decode prog_3_method_10_code 122 = .ok (.iconst 1, 1) := by decide +kernel
theorem d_Checks_allowsStack_78 : decode prog_3_method_10_code 78 = .ok (.istore 5, 2) := by decide +kernel
theorem d_Checks_allowsStack_80 : decode prog_3_method_10_code 80 = .ok (.aload_n 0, 1) := by decide +kernel
theorem d_Checks_allowsStack_81 : decode prog_3_method_10_code 81 = .ok (.getfield 23, 3) := by decide +kernel
theorem d_Checks_allowsStack_84 : decode prog_3_method_10_code 84 = .ok (.getfield 55, 3) := by decide +kernel
theorem d_Checks_allowsStack_87 : decode prog_3_method_10_code 87 = .ok (.iconst 2, 1) := by decide +kernel
theorem d_Checks_allowsStack_88 : decode prog_3_method_10_code 88 = .ok (.if_icmp .ne 65, 3) := by decide +kernel
theorem d_Checks_allowsStack_153 : decode prog_3_method_10_code 153 = .ok (.aload_n 0, 1) := by decide +kernel
theorem d_Checks_allowsStack_154 : decode prog_3_method_10_code 154 = .ok (.invokevirtual 72, 3) := by decide +kernel
theorem d_Checks_allowsStack_157 : decode prog_3_method_10_code 157 = .ok (.iconst 1, 1) := by decide +kernel
theorem d_Checks_allowsStack_158 : decode prog_3_method_10_code 158 = .ok (.if_icmp .ne 7, 3) := by decide +kernel
theorem d_Checks_allowsStack_165 : decode prog_3_method_10_code 165 = .ok (.iconst 0, 1) := by decide +kernel
theorem d_Checks_allowsStack_161 : decode prog_3_method_10_code 161 = .ok (.iconst 1, 1) := by decide +kernel
theorem d_Checks_allowsStack_162 : decode prog_3_method_10_code 162 = .ok (.goto 4, 3) := by decide +kernel
theorem d_Checks_allowsStack_91 : decode prog_3_method_10_code 91 = .ok (.aload_n 0, 1) := by decide +kernel
theorem d_Checks_allowsStack_92 : decode prog_3_method_10_code 92 = .ok (.getfield 22, 3) := by decide +kernel
theorem d_Checks_allowsStack_95 : decode prog_3_method_10_code 95 = .ok (.aload_n 0, 1) := by decide +kernel
theorem d_Checks_allowsStack_96 : decode prog_3_method_10_code 96 = .ok (.getfield 23, 3) := by decide +kernel
theorem d_Checks_allowsStack_99 : decode prog_3_method_10_code 99 = .ok (.getfield 46, 3) := by decide +kernel
theorem d_Checks_allowsStack_102 : decode prog_3_method_10_code 102 = .ok (.aaload, 1) := by decide +kernel
theorem d_Checks_allowsStack_103 : decode prog_3_method_10_code 103 = .ok (.iload 5, 2) := by decide +kernel
theorem d_Checks_allowsStack_105 : decode prog_3_method_10_code 105 = .ok (.ifCond .eq 17, 3) := by decide +kernel
theorem d_Checks_allowsStack_108 : decode prog_3_method_10_code 108 = .ok (.aload_n 3, 1) := by decide +kernel
theorem d_Checks_allowsStack_109 : decode prog_3_method_10_code 109 = .ok (.getfield 34, 3) := by decide +kernel
theorem d_Checks_allowsStack_112 : decode prog_3_method_10_code 112 = .ok (.ifCond .eq 10, 3) := by decide +kernel
theorem d_Checks_allowsStack_115 : decode prog_3_method_10_code 115 = .ok (.aload_n 3, 1) := by decide +kernel
theorem d_Checks_allowsStack_116 : decode prog_3_method_10_code 116 = .ok (.getfield 34, 3) := by decide +kernel
theorem d_Checks_allowsStack_119 : decode prog_3_method_10_code 119 = .ok (.goto 4, 3) := by decide +kernel
theorem d_Checks_allowsStack_0 : decode prog_3_method_10_code 0 = .ok (.lload_n 1, 1) := by decide +kernel
theorem d_Checks_allowsStack_1 : decode prog_3_method_10_code 1 = .ok (.ldc2_w 112, 3) := by decide +kernel
theorem d_Checks_allowsStack_4 : decode prog_3_method_10_code 4 = .ok (.lcmp, 1) := by decide +kernel
theorem d_Checks_allowsStack_5 : decode prog_3_method_10_code 5 = .ok (.ifCond .lt 33, 3) := by decide +kernel
theorem d_Checks_allowsStack_38 : decode prog_3_method_10_code 38 = .ok (.iconst 0, 1) := by decide +kernel
theorem d_Checks_allowsStack_39 : decode prog_3_method_10_code 39 = .ok (.ireturn, 1) := by decide +kernel
theorem d_Checks_allowsStack_8 : decode prog_3_method_10_code 8 = .ok (.lload_n 1, 1) := by decide +kernel
theorem d_Checks_allowsStack_9 : decode prog_3_method_10_code 9 = .ok (.aload_n 0, 1) := by decide +kernel
theorem d_Checks_allowsStack_10 : decode prog_3_method_10_code 10 = .ok (.getfield 23, 3) := by decide +kernel
theorem d_Checks_allowsStack_13 : decode prog_3_method_10_code 13 = .ok (.getfield 105, 3) := by decide +kernel
theorem u_258 : Cond.fieldLink "FilterGuard$Checks" 105 "FilterGuard$Code" "bytes" "I" ∈ fg_g := fg_in (List.mem_of_getElem? (i := 258) (by decide +kernel)) rfl
theorem d_Checks_allowsStack_16 : decode prog_3_method_10_code 16 = .ok (.i2l, 1) := by decide +kernel
theorem d_Checks_allowsStack_17 : decode prog_3_method_10_code 17 = .ok (.ladd, 1) := by decide +kernel
theorem d_Checks_allowsStack_18 : decode prog_3_method_10_code 18 = .ok (.lconst 0, 1) := by decide +kernel
theorem d_Checks_allowsStack_19 : decode prog_3_method_10_code 19 = .ok (.lcmp, 1) := by decide +kernel
theorem d_Checks_allowsStack_20 : decode prog_3_method_10_code 20 = .ok (.ifCond .gt 18, 3) := by decide +kernel
theorem d_Checks_allowsStack_23 : decode prog_3_method_10_code 23 = .ok (.lload_n 1, 1) := by decide +kernel
theorem d_Checks_allowsStack_24 : decode prog_3_method_10_code 24 = .ok (.aload_n 0, 1) := by decide +kernel
theorem d_Checks_allowsStack_25 : decode prog_3_method_10_code 25 = .ok (.getfield 23, 3) := by decide +kernel
theorem d_Checks_allowsStack_28 : decode prog_3_method_10_code 28 = .ok (.getfield 105, 3) := by decide +kernel
theorem d_Checks_allowsStack_31 : decode prog_3_method_10_code 31 = .ok (.i2l, 1) := by decide +kernel
theorem d_Checks_allowsStack_32 : decode prog_3_method_10_code 32 = .ok (.lrem, 1) := by decide +kernel
theorem d_Checks_allowsStack_33 : decode prog_3_method_10_code 33 = .ok (.lconst 0, 1) := by decide +kernel
theorem d_Checks_allowsStack_34 : decode prog_3_method_10_code 34 = .ok (.lcmp, 1) := by decide +kernel
theorem d_Checks_allowsStack_35 : decode prog_3_method_10_code 35 = .ok (.ifCond .eq 5, 3) := by decide +kernel
theorem d_Checks_allowsStack_40 : decode prog_3_method_10_code 40 = .ok (.aload_n 0, 1) := by decide +kernel
theorem d_Checks_allowsStack_41 : decode prog_3_method_10_code 41 = .ok (.getfield 12, 3) := by decide +kernel
theorem d_Checks_allowsStack_44 : decode prog_3_method_10_code 44 = .ok (.lload_n 1, 1) := by decide +kernel
theorem d_Checks_allowsStack_45 : decode prog_3_method_10_code 45 = .ok (.l2i, 1) := by decide +kernel
theorem d_Checks_allowsStack_46 : decode prog_3_method_10_code 46 = .ok (.invokevirtual 114, 3) := by decide +kernel
theorem d_Checks_allowsStack_49 : decode prog_3_method_10_code 49 = .ok (.astore_n 3, 1) := by decide +kernel
theorem d_Checks_allowsStack_50 : decode prog_3_method_10_code 50 = .ok (.aload_n 0, 1) := by decide +kernel
theorem d_Checks_allowsStack_51 : decode prog_3_method_10_code 51 = .ok (.getfield 23, 3) := by decide +kernel
theorem d_Checks_allowsStack_54 : decode prog_3_method_10_code 54 = .ok (.lload_n 1, 1) := by decide +kernel
theorem d_Checks_allowsStack_55 : decode prog_3_method_10_code 55 = .ok (.l2i, 1) := by decide +kernel
theorem d_Checks_allowsStack_56 : decode prog_3_method_10_code 56 = .ok (.invokevirtual 118, 3) := by decide +kernel
theorem u_1641 : Cond.methodLink "FilterGuard$Checks" 118 ⟨"FilterGuard$Code", "bytesAt", "(I)I"⟩ ∈ fg_g := fg_in (List.mem_of_getElem? (i := 1641) (by decide +kernel)) rfl
theorem d_Checks_allowsStack_59 : decode prog_3_method_10_code 59 = .ok (.istore 4, 2) := by decide +kernel
theorem d_Checks_allowsStack_61 : decode prog_3_method_10_code 61 = .ok (.aload_n 0, 1) := by decide +kernel
theorem d_Checks_allowsStack_62 : decode prog_3_method_10_code 62 = .ok (.getfield 23, 3) := by decide +kernel
theorem d_Checks_allowsStack_65 : decode prog_3_method_10_code 65 = .ok (.getfield 105, 3) := by decide +kernel
theorem d_Checks_allowsStack_68 : decode prog_3_method_10_code 68 = .ok (.bipush 8, 2) := by decide +kernel
theorem d_Checks_allowsStack_70 : decode prog_3_method_10_code 70 = .ok (.if_icmp .ne 7, 3) := by decide +kernel
theorem d_Checks_allowsStack_77 : decode prog_3_method_10_code 77 = .ok (.iconst 0, 1) := by decide +kernel
theorem d_Checks_allowsStack_73 : decode prog_3_method_10_code 73 = .ok (.iconst 1, 1) := by decide +kernel
theorem d_Checks_allowsStack_74 : decode prog_3_method_10_code 74 = .ok (.goto 4, 3) := by decide +kernel
abbrev y_Checks_allowsStack : MethodName := ⟨"FilterGuard$Checks", "allowsStack", "(J)Z"⟩
def f_Checks_allowsStack_b211 (j0 : Nat) (M : me_M) (y3 : Nat) (y4 : Int32) (y5 : Int32) : Option (me_M × Int32) := (if y5 = 0 then bd (f_Cell_storeBytes M y3 y4) (fun (M2 : me_M) => some (M2, (1 : Int32))) else b2 (f_Checks_operandKind M j0) (fun (M3 : me_M) (r4 : Int32) => st (wI M3 10 y3 0 r4) (fun (M5 : me_M) => st (wI M5 10 y3 5 0) (fun (M6 : me_M) => some (M6, (1 : Int32))))))
def f_Checks_allowsStack_b189 (j0 : Nat) (M : me_M) (y3 : Nat) (y4 : Int32) (y5 : Int32) : Option (me_M × Int32) := bd (mR M 6 j0 0) (fun (j7 : Nat) => (if (mI M 2 j7 10) = 5 then b2 (f_Cell_isReadable M y3 y4) (fun (M10 : me_M) (r11 : Int32) => (if r11 = 0 then some (M10, (0 : Int32)) else f_Checks_allowsStack_b211 j0 M10 y3 y4 y5)) else f_Checks_allowsStack_b211 j0 M y3 y4 y5))
def f_Checks_allowsStack_b166 (j0 : Nat) (M : me_M) (y3 : Nat) (y4 : Int32) (y5 : Int32) (s0 : Int32) : Option (me_M × Int32) := (if s0 = 0 then (if y5 = 0 then some (M, (0 : Int32)) else bd (mR M 6 j0 0) (fun (j15 : Nat) => (if (mI M 2 j15 10) = 5 then some (M, (0 : Int32)) else f_Checks_allowsStack_b189 j0 M y3 y4 y5))) else f_Checks_allowsStack_b189 j0 M y3 y4 y5)
def f_Checks_allowsStack_b123 (M : me_M) (y3 : Nat) (y4 : Int32) (y5 : Int32) (s0 : Int32) (s1 : Nat) : Option (me_M × Int32) := st (wI M 10 s1 0 s0) (fun (M18 : me_M) => (if y5 = 0 then b2 (f_Cell_isReadable M18 y3 y4) (fun (M20 : me_M) (r21 : Int32) => (if r21 = 0 then some (M20, (0 : Int32)) else some (M20, (1 : Int32)))) else (if (mI M18 10 y3 0) = 0 then b2 (f_Cell_isReadable M18 y3 y4) (fun (M24 : me_M) (r25 : Int32) => (if r25 = 0 then some (M24, (0 : Int32)) else some (M24, (1 : Int32)))) else some (M18, (1 : Int32)))))
def f_Checks_allowsStack_b122 (M : me_M) (y3 : Nat) (y4 : Int32) (y5 : Int32) (s0 : Nat) : Option (me_M × Int32) := f_Checks_allowsStack_b123 M y3 y4 y5 (1 : Int32) s0
def f_Checks_allowsStack_b78 (j0 : Nat) (M : me_M) (y3 : Nat) (y4 : Int32) (s0 : Int32) : Option (me_M × Int32) := bd (mR M 6 j0 0) (fun (j27 : Nat) => (if (mI M 2 j27 10) = 2 then bd (mR M 6 j0 3) (fun (j33 : Nat) => gd (¬ ((mI M 2 j27 6) < 0 ∨ mZ M 18 j33 ≤ (mI M 2 j27 6).toNatClampNeg)) (bd (mR M 18 j33 ((mI M 2 j27 6).toNatClampNeg)) (fun (j36 : Nat) => (if s0 = 0 then f_Checks_allowsStack_b122 M y3 y4 s0 j36 else (if (mI M 10 y3 0) = 0 then f_Checks_allowsStack_b122 M y3 y4 s0 j36 else f_Checks_allowsStack_b123 M y3 y4 s0 (mI M 10 y3 0) j36))))) else b2 (f_Checks_operandKind M j0) (fun (M30 : me_M) (r31 : Int32) => (if r31 = 1 then f_Checks_allowsStack_b166 j0 M30 y3 y4 s0 (1 : Int32) else f_Checks_allowsStack_b166 j0 M30 y3 y4 s0 (0 : Int32)))))
def f_Checks_allowsStack (M0 : me_M) (j0 : Nat) (x1 : Int64) : Option (me_M × Int32) := (if x1 < (-512) then some (M0, (0 : Int32)) else bd (mR M0 6 j0 0) (fun (j41 : Nat) => (if 0 < (x1 + ((mI M0 2 j41 11).toInt64)) then some (M0, (0 : Int32)) else gd (((mI M0 2 j41 11).toInt64) ≠ 0) ((if (jlrem x1 ((mI M0 2 j41 11).toInt64)) = 0 then bd (mR M0 6 j0 2) (fun (j46 : Nat) => b2 (f_State_slotAt M0 j46 x1.toInt32) (fun (M48 : me_M) (r49 : Nat) => b2 (f_Code_bytesAt M48 j41 x1.toInt32) (fun (M50 : me_M) (r51 : Int32) => (if (mI M50 2 j41 11) = 8 then f_Checks_allowsStack_b78 j0 M50 r49 r51 (1 : Int32) else f_Checks_allowsStack_b78 j0 M50 r49 r51 (0 : Int32))))) else some (M0, (0 : Int32)))))))
def rm_Checks_allowsStack : Room := { frames := 3, cells := 0, slots := 0, locals := 82 }
abbrev q_Checks_allowsStack (D : va_G) (ad : Nat → Nat → Nat) (ca : Nat → ClassId) (N : Nat → Nat) (M0 MZ : me_M) (RZ : Int32) (A : Nat → Prop) : Array Value → Jvm.State → Outcome → Jvm.State → Prop := va_Qi (fun r (_ : Unit) => r = RZ ∧ me_wf N MZ ∧ me_kp M0 MZ ∧ (RZ = 1 ∨ RZ = 0)) (fg_B D A (fun _ => me_W ad ca MZ) (fun _ => [])) A
set_option maxHeartbeats 4000000 in
set_option maxRecDepth 100000 in
theorem c_Checks_allowsStack (l : Launch) (D : va_G) (ad : Nat → Nat → Nat) (ca : Nat → ClassId) (N : Nat → Nat) (M0 MZ : me_M) (RZ : Int32) (j0 : Nat) (x1 : Int64) (h : f_Checks_allowsStack M0 j0 x1 = (some (MZ, RZ))) (hwf : me_wf N M0) (hj0 : j0 < N 6) (sz : Nat) : Met l y_Checks_allowsStack (fg_w y_Checks_allowsStack prog_3_method_10_code 7 (some .boolean)) rm_Checks_allowsStack (va_Pc [.ref (ad 6 j0), .long x1] (fz_P D (me_T ca) (me_W ad ca M0) sz)) (q_Checks_allowsStack D ad ca N M0 MZ RZ (va_A (me_W ad ca M0) sz)) rm_Checks_allowsStack.cells rm_Checks_allowsStack.slots (va_A (me_W ad ca M0) sz) := by
  refine fz_enter (fun A => q_Checks_allowsStack D ad ca N M0 MZ RZ A) (by decide +kernel) (Nat.le_of_ble_eq_true rfl) ?_
  intro p e s m below meth c ls A hx hb hml hown hts hr hlocks hin hP hK hD hS hA hX hl hz
  have hl : lv_has ls 7 [(0, .ref (ad 6 j0)), (1, .long x1)] := hl
  unfold f_Checks_allowsStack at h
  have hkp : me_kp M0 M0 := me_kp.rf
  have hkb := hkp
  have b_211 : ∀ (M : me_M) (y3 : Nat) (y4 : Int32) (y5 : Int32) (H : Heap) (locs : List Loc) (ls : Array Slot), f_Checks_allowsStack_b211 j0 M y3 y4 y5 = (some (MZ, RZ)) → (y3 < N 10) → (y5 = 1 ∨ y5 = 0) → me_wf N M → me_kp M0 M → va_P D classes (me_W ad ca M) H → va_D A (me_W ad ca M) → va_S A s.heap H locs → lv_has ls 7 [(0, .ref (ad 6 j0)), (3, .ref (ad 10 y3)), (4, .int y4), (5, .int y5)] → W p l e rm_Checks_allowsStack s m [.ref (ad 6 j0), .long x1].toArray below meth c H locs 0 0 (MQ below (q_Checks_allowsStack D ad ca N M0 MZ RZ A) [.ref (ad 6 j0), .long x1].toArray s rm_Checks_allowsStack.cells rm_Checks_allowsStack.slots A) (F0 m 211 ls []) := by
    intro M y3 y4 y5 H locs ls h hy3 zy5 hwf hkp hP hD hS hl
    unfold f_Checks_allowsStack_b211 at h
    have hkb := hkp
    refine lv_iload hx hb d_Checks_allowsStack_211 (lv_at hl 3 rfl) ?_
    refine lv_if_eq (tgt := 232) hx hb d_Checks_allowsStack_213 (by decide) (fun c1 => ?_) (fun c1 => ?_)
    · have h := if_t c1 h
      refine lv_aload_n hx hb d_Checks_allowsStack_232 rfl (lv_at hl 1 rfl) ?_
      refine lv_iload hx hb d_Checks_allowsStack_233 (lv_at hl 2 rfl) ?_
      obtain ⟨M2, eM2, h⟩ := bd_ob h
      refine me_thenv0 (M1 := M2) (me_runV (C := "FilterGuard$Cell") (As := [.int y4]) (rest := []) ⟨hx, hb, hml, hown, hts⟩ (c_Cell_storeBytes l D ad ca N M M2 y3 y4 eM2 hwf hy3 _) rfl (by show fg_nm y_Cell_storeBytes 1; decide +kernel) u_1642 u_1407 u_1408 u_188 u_1409 ⟨Nat.le_of_ble_eq_true rfl, Nat.le_of_ble_eq_true rfl⟩ hX hz hK hP hD hwf hS hA hy3 (by decide) rfl rfl rfl hl.1 (Nat.le_of_ble_eq_true rfl) d_Checks_allowsStack_235 ⟨Nat.le_of_ble_eq_true rfl, Nat.le_of_ble_eq_true rfl⟩) hP hD hK hS hA rfl rfl (fun H locs hw hP hD hS => ?_)
      obtain ⟨hwf, hk9⟩ := hw
      have hkp := hkp.tr hk9
      refine lv_iconst (v := 1) hx hb d_Checks_allowsStack_238 (by decide) ?_
      exact me_retz (me_kp M0) h (by decide) hx hb hr hlocks hwf hkp hP hK hD hS d_Checks_allowsStack_239
    have h := if_f c1 h
    refine lv_aload_n hx hb d_Checks_allowsStack_216 rfl (lv_at hl 1 rfl) ?_
    refine lv_aload_n hx hb d_Checks_allowsStack_217 rfl (lv_at hl 0 rfl) ?_
    obtain ⟨M3, r4, eM3, h⟩ := b2_ob h
    refine me_theni0 (M1 := M3) (me_runV (C := "FilterGuard$Checks") (As := []) (rest := [.ref (ad 10 y3)]) ⟨hx, hb, hml, hown, hts⟩ (c_Checks_operandKind l D ad ca N M M3 r4 j0 eM3 hwf hj0 _) rfl (by show fg_nm y_Checks_operandKind 0; decide +kernel) u_1605 u_1607 u_65 u_191 u_1608 ⟨Nat.le_of_ble_eq_true rfl, Nat.le_of_ble_eq_true rfl⟩ hX hz hK hP hD hwf hS hA hj0 (by decide) rfl rfl rfl hl.1 (Nat.le_of_ble_eq_true rfl) d_Checks_allowsStack_218 ⟨Nat.le_of_ble_eq_true rfl, Nat.le_of_ble_eq_true rfl⟩) hP hD hK hS hA rfl rfl (fun H locs hw hP hD hS => ?_)
    obtain ⟨hwf, hk9⟩ := hw
    have hkp := hkp.tr hk9
    obtain ⟨M5, eM5, h⟩ := st_ob h
    refine p_Cell_0 eM5 hx hb hts hown hK hP hD hwf hS hy3 (hts _ u_421) d_Checks_allowsStack_221 (fun H locs hP hD hwf hS => ?_)
    have hkp := kp_I eM5 hkp
    refine lv_aload_n hx hb d_Checks_allowsStack_224 rfl (lv_at hl 1 rfl) ?_
    refine lv_iconst (v := 0) hx hb d_Checks_allowsStack_225 (by decide) ?_
    obtain ⟨M6, eM6, h⟩ := st_ob h
    refine p_Cell_5 eM6 hx hb hts hown hK hP hD hwf hS hy3 (hts _ u_434) d_Checks_allowsStack_226 (fun H locs hP hD hwf hS => ?_)
    have hkp := kp_I eM6 hkp
    refine lv_goto (tgt := 238) hx hb d_Checks_allowsStack_229 (by decide) ?_
    refine lv_iconst (v := 1) hx hb d_Checks_allowsStack_238 (by decide) ?_
    exact me_retz (me_kp M0) h (by decide) hx hb hr hlocks hwf hkp hP hK hD hS d_Checks_allowsStack_239
  have b_189 : ∀ (M : me_M) (y3 : Nat) (y4 : Int32) (y5 : Int32) (H : Heap) (locs : List Loc) (ls : Array Slot), f_Checks_allowsStack_b189 j0 M y3 y4 y5 = (some (MZ, RZ)) → (y3 < N 10) → (y5 = 1 ∨ y5 = 0) → me_wf N M → me_kp M0 M → va_P D classes (me_W ad ca M) H → va_D A (me_W ad ca M) → va_S A s.heap H locs → lv_has ls 7 [(0, .ref (ad 6 j0)), (3, .ref (ad 10 y3)), (4, .int y4), (5, .int y5)] → W p l e rm_Checks_allowsStack s m [.ref (ad 6 j0), .long x1].toArray below meth c H locs 0 0 (MQ below (q_Checks_allowsStack D ad ca N M0 MZ RZ A) [.ref (ad 6 j0), .long x1].toArray s rm_Checks_allowsStack.cells rm_Checks_allowsStack.slots A) (F0 m 189 ls []) := by
    intro M y3 y4 y5 H locs ls h hy3 zy5 hwf hkp hP hD hS hl
    unfold f_Checks_allowsStack_b189 at h
    have hkb := hkp
    refine lv_aload_n hx hb d_Checks_allowsStack_189 rfl (lv_at hl 0 rfl) ?_
    refine g_Checks_0 hx hb hts hown hK hP hwf hj0 (hts _ u_610) d_Checks_allowsStack_190 ?_
    obtain ⟨j7, e8, h⟩ := bd_ob h
    have hj7 : j7 < N 2 := (hwf.2.1 6 j0 0 _ e8 (by decide) hj0)
    refine me_opt (j := j7) e8 ?_
    refine g_Code_10 hx hb hts hown hK hP hwf hj7 (hts _ u_253) d_Checks_allowsStack_193 ?_
    refine lv_iconst (v := 5) hx hb d_Checks_allowsStack_196 (by decide) ?_
    refine lv_icmp_ne (tgt := 211) hx hb d_Checks_allowsStack_197 (by decide) (fun c9 => ?_) (fun c9 => ?_)
    · have h := if_f c9 h
      exact b_211 M y3 y4 y5 _ _ _ h hy3 zy5 hwf hkp hP hD hS (lv_sub hl [0, 1, 2, 3] rfl)
    have h := if_t c9 h
    refine lv_aload_n hx hb d_Checks_allowsStack_200 rfl (lv_at hl 1 rfl) ?_
    refine lv_iload hx hb d_Checks_allowsStack_201 (lv_at hl 2 rfl) ?_
    obtain ⟨M10, r11, eM10, h⟩ := b2_ob h
    refine me_theni0 (M1 := M10) (me_runV (C := "FilterGuard$Cell") (As := [.int y4]) (rest := []) ⟨hx, hb, hml, hown, hts⟩ (c_Cell_isReadable l D ad ca N M M10 r11 y3 y4 eM10 hwf hy3 _) rfl (by show fg_nm y_Cell_isReadable 1; decide +kernel) u_1631 u_1364 u_1365 u_188 u_1366 ⟨Nat.le_of_ble_eq_true rfl, Nat.le_of_ble_eq_true rfl⟩ hX hz hK hP hD hwf hS hA hy3 (by decide) rfl rfl rfl hl.1 (Nat.le_of_ble_eq_true rfl) d_Checks_allowsStack_203 ⟨Nat.le_of_ble_eq_true rfl, Nat.le_of_ble_eq_true rfl⟩) hP hD hK hS hA rfl rfl (fun H locs hw hP hD hS => ?_)
    obtain ⟨hwf, hk9, zr11⟩ := hw
    have hkp := hkp.tr hk9
    refine lv_if_ne (tgt := 211) hx hb d_Checks_allowsStack_206 (by decide) (fun c12 => ?_) (fun c12 => ?_)
    · have h := if_f c12 h
      exact b_211 M10 y3 y4 y5 _ _ _ h hy3 zy5 hwf hkp hP hD hS (lv_sub hl [0, 1, 2, 3] rfl)
    have h := if_t c12 h
    refine lv_iconst (v := 0) hx hb d_Checks_allowsStack_209 (by decide) ?_
    exact me_retz (me_kp M0) h (by decide) hx hb hr hlocks hwf hkp hP hK hD hS d_Checks_allowsStack_210
  have b_166 : ∀ (M : me_M) (y3 : Nat) (y4 : Int32) (y5 : Int32) (s0 : Int32) (H : Heap) (locs : List Loc) (ls : Array Slot), f_Checks_allowsStack_b166 j0 M y3 y4 y5 s0 = (some (MZ, RZ)) → (y3 < N 10) → (y5 = 1 ∨ y5 = 0) → (s0 = 1 ∨ s0 = 0) → me_wf N M → me_kp M0 M → va_P D classes (me_W ad ca M) H → va_D A (me_W ad ca M) → va_S A s.heap H locs → lv_has ls 7 [(0, .ref (ad 6 j0)), (3, .ref (ad 10 y3)), (4, .int y4), (5, .int y5)] → W p l e rm_Checks_allowsStack s m [.ref (ad 6 j0), .long x1].toArray below meth c H locs 0 0 (MQ below (q_Checks_allowsStack D ad ca N M0 MZ RZ A) [.ref (ad 6 j0), .long x1].toArray s rm_Checks_allowsStack.cells rm_Checks_allowsStack.slots A) (F0 m 166 ls [.int s0]) := by
    intro M y3 y4 y5 s0 H locs ls h hy3 zy5 zs0 hwf hkp hP hD hS hl
    unfold f_Checks_allowsStack_b166 at h
    have hkb := hkp
    refine lv_istore (lv' := [(6, .int s0), (0, .ref (ad 6 j0)), (3, .ref (ad 10 y3)), (4, .int y4), (5, .int y5)]) hx hb d_Checks_allowsStack_166 hl (by decide) rfl (fun ls hl => ?_)
    refine lv_iload hx hb d_Checks_allowsStack_168 (lv_at hl 0 rfl) ?_
    refine lv_if_ne (tgt := 189) hx hb d_Checks_allowsStack_170 (by decide) (fun c13 => ?_) (fun c13 => ?_)
    · have h := if_f c13 h
      exact b_189 M y3 y4 y5 _ _ _ h hy3 zy5 hwf hkp hP hD hS (lv_sub hl [1, 2, 3, 4] rfl)
    have h := if_t c13 h
    refine lv_iload hx hb d_Checks_allowsStack_173 (lv_at hl 4 rfl) ?_
    refine lv_if_eq (tgt := 209) hx hb d_Checks_allowsStack_175 (by decide) (fun c14 => ?_) (fun c14 => ?_)
    · have h := if_t c14 h
      refine lv_iconst (v := 0) hx hb d_Checks_allowsStack_209 (by decide) ?_
      exact me_retz (me_kp M0) h (by decide) hx hb hr hlocks hwf hkp hP hK hD hS d_Checks_allowsStack_210
    have h := if_f c14 h
    refine lv_aload_n hx hb d_Checks_allowsStack_178 rfl (lv_at hl 1 rfl) ?_
    refine g_Checks_0 hx hb hts hown hK hP hwf hj0 (hts _ u_610) d_Checks_allowsStack_179 ?_
    obtain ⟨j15, e16, h⟩ := bd_ob h
    have hj15 : j15 < N 2 := (hwf.2.1 6 j0 0 _ e16 (by decide) hj0)
    refine me_opt (j := j15) e16 ?_
    refine g_Code_10 hx hb hts hown hK hP hwf hj15 (hts _ u_253) d_Checks_allowsStack_182 ?_
    refine lv_iconst (v := 5) hx hb d_Checks_allowsStack_185 (by decide) ?_
    refine lv_icmp_eq (tgt := 209) hx hb d_Checks_allowsStack_186 (by decide) (fun c17 => ?_) (fun c17 => ?_)
    · have h := if_t c17 h
      refine lv_iconst (v := 0) hx hb d_Checks_allowsStack_209 (by decide) ?_
      exact me_retz (me_kp M0) h (by decide) hx hb hr hlocks hwf hkp hP hK hD hS d_Checks_allowsStack_210
    have h := if_f c17 h
    exact b_189 M y3 y4 y5 _ _ _ h hy3 zy5 hwf hkp hP hD hS (lv_sub hl [1, 2, 3, 4] rfl)
  have b_123 : ∀ (M : me_M) (y3 : Nat) (y4 : Int32) (y5 : Int32) (s0 : Int32) (s1 : Nat) (H : Heap) (locs : List Loc) (ls : Array Slot), f_Checks_allowsStack_b123 M y3 y4 y5 s0 s1 = (some (MZ, RZ)) → (y3 < N 10) → (y5 = 1 ∨ y5 = 0) → (s1 < N 10) → me_wf N M → me_kp M0 M → va_P D classes (me_W ad ca M) H → va_D A (me_W ad ca M) → va_S A s.heap H locs → lv_has ls 7 [(3, .ref (ad 10 y3)), (4, .int y4), (5, .int y5)] → W p l e rm_Checks_allowsStack s m [.ref (ad 6 j0), .long x1].toArray below meth c H locs 0 0 (MQ below (q_Checks_allowsStack D ad ca N M0 MZ RZ A) [.ref (ad 6 j0), .long x1].toArray s rm_Checks_allowsStack.cells rm_Checks_allowsStack.slots A) (F0 m 123 ls [.int s0, .ref (ad 10 s1)]) := by
    intro M y3 y4 y5 s0 s1 H locs ls h hy3 zy5 hs1 hwf hkp hP hD hS hl
    unfold f_Checks_allowsStack_b123 at h
    have hkb := hkp
    obtain ⟨M18, eM18, h⟩ := st_ob h
    refine p_Cell_0 eM18 hx hb hts hown hK hP hD hwf hS hs1 (hts _ u_421) d_Checks_allowsStack_123 (fun H locs hP hD hwf hS => ?_)
    have hkp := kp_I eM18 hkp
    refine lv_iload hx hb d_Checks_allowsStack_126 (lv_at hl 2 rfl) ?_
    refine lv_if_eq (tgt := 138) hx hb d_Checks_allowsStack_128 (by decide) (fun c19 => ?_) (fun c19 => ?_)
    · have h := if_t c19 h
      refine lv_aload_n hx hb d_Checks_allowsStack_138 rfl (lv_at hl 0 rfl) ?_
      refine lv_iload hx hb d_Checks_allowsStack_139 (lv_at hl 1 rfl) ?_
      obtain ⟨M20, r21, eM20, h⟩ := b2_ob h
      refine me_theni0 (M1 := M20) (me_runV (C := "FilterGuard$Cell") (As := [.int y4]) (rest := []) ⟨hx, hb, hml, hown, hts⟩ (c_Cell_isReadable l D ad ca N M18 M20 r21 y3 y4 eM20 hwf hy3 _) rfl (by show fg_nm y_Cell_isReadable 1; decide +kernel) u_1631 u_1364 u_1365 u_188 u_1366 ⟨Nat.le_of_ble_eq_true rfl, Nat.le_of_ble_eq_true rfl⟩ hX hz hK hP hD hwf hS hA hy3 (by decide) rfl rfl rfl hl.1 (Nat.le_of_ble_eq_true rfl) d_Checks_allowsStack_141 ⟨Nat.le_of_ble_eq_true rfl, Nat.le_of_ble_eq_true rfl⟩) hP hD hK hS hA rfl rfl (fun H locs hw hP hD hS => ?_)
      obtain ⟨hwf, hk9, zr21⟩ := hw
      have hkp := hkp.tr hk9
      refine lv_if_eq (tgt := 151) hx hb d_Checks_allowsStack_144 (by decide) (fun c22 => ?_) (fun c22 => ?_)
      · have h := if_t c22 h
        refine lv_iconst (v := 0) hx hb d_Checks_allowsStack_151 (by decide) ?_
        exact me_retz (me_kp M0) h (by decide) hx hb hr hlocks hwf hkp hP hK hD hS d_Checks_allowsStack_152
      have h := if_f c22 h
      refine lv_iconst (v := 1) hx hb d_Checks_allowsStack_147 (by decide) ?_
      refine lv_goto (tgt := 152) hx hb d_Checks_allowsStack_148 (by decide) ?_
      exact me_retz (me_kp M0) h (by decide) hx hb hr hlocks hwf hkp hP hK hD hS d_Checks_allowsStack_152
    have h := if_f c19 h
    refine lv_aload_n hx hb d_Checks_allowsStack_131 rfl (lv_at hl 0 rfl) ?_
    refine g_Cell_0 hx hb hts hown hK hP hwf hy3 (hts _ u_421) d_Checks_allowsStack_132 ?_
    refine lv_if_ne (tgt := 147) hx hb d_Checks_allowsStack_135 (by decide) (fun c23 => ?_) (fun c23 => ?_)
    · have h := if_f c23 h
      refine lv_iconst (v := 1) hx hb d_Checks_allowsStack_147 (by decide) ?_
      refine lv_goto (tgt := 152) hx hb d_Checks_allowsStack_148 (by decide) ?_
      exact me_retz (me_kp M0) h (by decide) hx hb hr hlocks hwf hkp hP hK hD hS d_Checks_allowsStack_152
    have h := if_t c23 h
    refine lv_aload_n hx hb d_Checks_allowsStack_138 rfl (lv_at hl 0 rfl) ?_
    refine lv_iload hx hb d_Checks_allowsStack_139 (lv_at hl 1 rfl) ?_
    obtain ⟨M24, r25, eM24, h⟩ := b2_ob h
    refine me_theni0 (M1 := M24) (me_runV (C := "FilterGuard$Cell") (As := [.int y4]) (rest := []) ⟨hx, hb, hml, hown, hts⟩ (c_Cell_isReadable l D ad ca N M18 M24 r25 y3 y4 eM24 hwf hy3 _) rfl (by show fg_nm y_Cell_isReadable 1; decide +kernel) u_1631 u_1364 u_1365 u_188 u_1366 ⟨Nat.le_of_ble_eq_true rfl, Nat.le_of_ble_eq_true rfl⟩ hX hz hK hP hD hwf hS hA hy3 (by decide) rfl rfl rfl hl.1 (Nat.le_of_ble_eq_true rfl) d_Checks_allowsStack_141 ⟨Nat.le_of_ble_eq_true rfl, Nat.le_of_ble_eq_true rfl⟩) hP hD hK hS hA rfl rfl (fun H locs hw hP hD hS => ?_)
    obtain ⟨hwf, hk9, zr25⟩ := hw
    have hkp := hkp.tr hk9
    refine lv_if_eq (tgt := 151) hx hb d_Checks_allowsStack_144 (by decide) (fun c26 => ?_) (fun c26 => ?_)
    · have h := if_t c26 h
      refine lv_iconst (v := 0) hx hb d_Checks_allowsStack_151 (by decide) ?_
      exact me_retz (me_kp M0) h (by decide) hx hb hr hlocks hwf hkp hP hK hD hS d_Checks_allowsStack_152
    have h := if_f c26 h
    refine lv_iconst (v := 1) hx hb d_Checks_allowsStack_147 (by decide) ?_
    refine lv_goto (tgt := 152) hx hb d_Checks_allowsStack_148 (by decide) ?_
    exact me_retz (me_kp M0) h (by decide) hx hb hr hlocks hwf hkp hP hK hD hS d_Checks_allowsStack_152
  have b_122 : ∀ (M : me_M) (y3 : Nat) (y4 : Int32) (y5 : Int32) (s0 : Nat) (H : Heap) (locs : List Loc) (ls : Array Slot), f_Checks_allowsStack_b122 M y3 y4 y5 s0 = (some (MZ, RZ)) → (y3 < N 10) → (y5 = 1 ∨ y5 = 0) → (s0 < N 10) → me_wf N M → me_kp M0 M → va_P D classes (me_W ad ca M) H → va_D A (me_W ad ca M) → va_S A s.heap H locs → lv_has ls 7 [(3, .ref (ad 10 y3)), (4, .int y4), (5, .int y5)] → W p l e rm_Checks_allowsStack s m [.ref (ad 6 j0), .long x1].toArray below meth c H locs 0 0 (MQ below (q_Checks_allowsStack D ad ca N M0 MZ RZ A) [.ref (ad 6 j0), .long x1].toArray s rm_Checks_allowsStack.cells rm_Checks_allowsStack.slots A) (F0 m 122 ls [.ref (ad 10 s0)]) := by
    intro M y3 y4 y5 s0 H locs ls h hy3 zy5 hs0 hwf hkp hP hD hS hl
    unfold f_Checks_allowsStack_b122 at h
    have hkb := hkp
    refine lv_iconst (v := 1) hx hb d_Checks_allowsStack_122 (by decide) ?_
    exact b_123 M y3 y4 y5 (1 : Int32) s0 _ _ _ h hy3 zy5 hs0 hwf hkp hP hD hS (lv_sub hl [0, 1, 2] rfl)
  have b_78 : ∀ (M : me_M) (y3 : Nat) (y4 : Int32) (s0 : Int32) (H : Heap) (locs : List Loc) (ls : Array Slot), f_Checks_allowsStack_b78 j0 M y3 y4 s0 = (some (MZ, RZ)) → (y3 < N 10) → (s0 = 1 ∨ s0 = 0) → me_wf N M → me_kp M0 M → va_P D classes (me_W ad ca M) H → va_D A (me_W ad ca M) → va_S A s.heap H locs → lv_has ls 7 [(0, .ref (ad 6 j0)), (3, .ref (ad 10 y3)), (4, .int y4)] → W p l e rm_Checks_allowsStack s m [.ref (ad 6 j0), .long x1].toArray below meth c H locs 0 0 (MQ below (q_Checks_allowsStack D ad ca N M0 MZ RZ A) [.ref (ad 6 j0), .long x1].toArray s rm_Checks_allowsStack.cells rm_Checks_allowsStack.slots A) (F0 m 78 ls [.int s0]) := by
    intro M y3 y4 s0 H locs ls h hy3 zs0 hwf hkp hP hD hS hl
    unfold f_Checks_allowsStack_b78 at h
    have hkb := hkp
    refine lv_istore (lv' := [(5, .int s0), (0, .ref (ad 6 j0)), (3, .ref (ad 10 y3)), (4, .int y4)]) hx hb d_Checks_allowsStack_78 hl (by decide) rfl (fun ls hl => ?_)
    refine lv_aload_n hx hb d_Checks_allowsStack_80 rfl (lv_at hl 1 rfl) ?_
    refine g_Checks_0 hx hb hts hown hK hP hwf hj0 (hts _ u_610) d_Checks_allowsStack_81 ?_
    obtain ⟨j27, e28, h⟩ := bd_ob h
    have hj27 : j27 < N 2 := (hwf.2.1 6 j0 0 _ e28 (by decide) hj0)
    refine me_opt (j := j27) e28 ?_
    refine g_Code_10 hx hb hts hown hK hP hwf hj27 (hts _ u_253) d_Checks_allowsStack_84 ?_
    refine lv_iconst (v := 2) hx hb d_Checks_allowsStack_87 (by decide) ?_
    refine lv_icmp_ne (tgt := 153) hx hb d_Checks_allowsStack_88 (by decide) (fun c29 => ?_) (fun c29 => ?_)
    · have h := if_f c29 h
      refine lv_aload_n hx hb d_Checks_allowsStack_153 rfl (lv_at hl 1 rfl) ?_
      obtain ⟨M30, r31, eM30, h⟩ := b2_ob h
      refine me_theni0 (M1 := M30) (me_runV (C := "FilterGuard$Checks") (As := []) (rest := []) ⟨hx, hb, hml, hown, hts⟩ (c_Checks_operandKind l D ad ca N M M30 r31 j0 eM30 hwf hj0 _) rfl (by show fg_nm y_Checks_operandKind 0; decide +kernel) u_1605 u_1607 u_65 u_191 u_1608 ⟨Nat.le_of_ble_eq_true rfl, Nat.le_of_ble_eq_true rfl⟩ hX hz hK hP hD hwf hS hA hj0 (by decide) rfl rfl rfl hl.1 (Nat.le_of_ble_eq_true rfl) d_Checks_allowsStack_154 ⟨Nat.le_of_ble_eq_true rfl, Nat.le_of_ble_eq_true rfl⟩) hP hD hK hS hA rfl rfl (fun H locs hw hP hD hS => ?_)
      obtain ⟨hwf, hk9⟩ := hw
      have hkp := hkp.tr hk9
      refine lv_iconst (v := 1) hx hb d_Checks_allowsStack_157 (by decide) ?_
      refine lv_icmp_ne (tgt := 165) hx hb d_Checks_allowsStack_158 (by decide) (fun c32 => ?_) (fun c32 => ?_)
      · have h := if_f c32 h
        refine lv_iconst (v := 0) hx hb d_Checks_allowsStack_165 (by decide) ?_
        exact b_166 M30 y3 y4 s0 (0 : Int32) _ _ _ h hy3 zs0 (by decide) hwf hkp hP hD hS (lv_sub hl [1, 2, 3, 0] rfl)
      have h := if_t c32 h
      refine lv_iconst (v := 1) hx hb d_Checks_allowsStack_161 (by decide) ?_
      refine lv_goto (tgt := 166) hx hb d_Checks_allowsStack_162 (by decide) ?_
      exact b_166 M30 y3 y4 s0 (1 : Int32) _ _ _ h hy3 zs0 (by decide) hwf hkp hP hD hS (lv_sub hl [1, 2, 3, 0] rfl)
    have h := if_t c29 h
    refine lv_aload_n hx hb d_Checks_allowsStack_91 rfl (lv_at hl 1 rfl) ?_
    refine g_Checks_3 hx hb hts hown hK hP hwf hj0 (hts _ u_613) d_Checks_allowsStack_92 ?_
    obtain ⟨j33, e34, h⟩ := bd_ob h
    have hj33 : j33 < N 18 := (hwf.2.1 6 j0 3 _ e34 (by decide) hj0)
    refine me_opt (j := j33) e34 ?_
    refine lv_aload_n hx hb d_Checks_allowsStack_95 rfl (lv_at hl 1 rfl) ?_
    refine g_Checks_0 hx hb hts hown hK hP hwf hj0 (hts _ u_610) d_Checks_allowsStack_96 ?_
    refine me_opt (j := j27) e28 ?_
    refine g_Code_6 hx hb hts hown hK hP hwf hj27 (hts _ u_234) d_Checks_allowsStack_99 ?_
    obtain ⟨g35, h⟩ := gd_ob h
    refine me_aald (k := 18) (t := 10) hx hb hK hP hwf hj33 (by decide) (by decide) rfl (fun _ => rfl) g35 d_Checks_allowsStack_102 ?_
    obtain ⟨j36, e37, h⟩ := bd_ob h
    have hj36 : j36 < N 10 := (hwf.2.1 18 j33 ((mI M 2 j27 6).toNatClampNeg) _ e37 (by decide) hj33)
    refine me_opt (j := j36) e37 ?_
    refine lv_iload hx hb d_Checks_allowsStack_103 (lv_at hl 0 rfl) ?_
    refine lv_if_eq (tgt := 122) hx hb d_Checks_allowsStack_105 (by decide) (fun c38 => ?_) (fun c38 => ?_)
    · have h := if_t c38 h
      exact b_122 M y3 y4 s0 j36 _ _ _ h hy3 zs0 hj36 hwf hkp hP hD hS (lv_sub hl [2, 3, 0] rfl)
    have h := if_f c38 h
    refine lv_aload_n hx hb d_Checks_allowsStack_108 rfl (lv_at hl 2 rfl) ?_
    refine g_Cell_0 hx hb hts hown hK hP hwf hy3 (hts _ u_421) d_Checks_allowsStack_109 ?_
    refine lv_if_eq (tgt := 122) hx hb d_Checks_allowsStack_112 (by decide) (fun c39 => ?_) (fun c39 => ?_)
    · have h := if_t c39 h
      exact b_122 M y3 y4 s0 j36 _ _ _ h hy3 zs0 hj36 hwf hkp hP hD hS (lv_sub hl [2, 3, 0] rfl)
    have h := if_f c39 h
    refine lv_aload_n hx hb d_Checks_allowsStack_115 rfl (lv_at hl 2 rfl) ?_
    refine g_Cell_0 hx hb hts hown hK hP hwf hy3 (hts _ u_421) d_Checks_allowsStack_116 ?_
    refine lv_goto (tgt := 123) hx hb d_Checks_allowsStack_119 (by decide) ?_
    exact b_123 M y3 y4 s0 (mI M 10 y3 0) j36 _ _ _ h hy3 zs0 hj36 hwf hkp hP hD hS (lv_sub hl [2, 3, 0] rfl)
  refine lv_lload_n hx hb d_Checks_allowsStack_0 rfl (lv_at hl 1 rfl) ?_
  refine lv_ldc2 hx hb hown (hts _ u_1629) d_Checks_allowsStack_1 ?_
  refine W.lcmp hx hb d_Checks_allowsStack_4 ?_
  refine lv_if_lt (tgt := 38) hx hb d_Checks_allowsStack_5 (by decide) (fun c40 => ?_) (fun c40 => ?_)
  · have h := if_t ((lg_cmp_lt _ _).mp c40) h
    refine lv_iconst (v := 0) hx hb d_Checks_allowsStack_38 (by decide) ?_
    exact me_retz (me_kp M0) h (by decide) hx hb hr hlocks hwf hkp hP hK hD hS d_Checks_allowsStack_39
  have h := if_f (fun z => c40 ((lg_cmp_lt _ _).mpr z)) h
  refine lv_lload_n hx hb d_Checks_allowsStack_8 rfl (lv_at hl 1 rfl) ?_
  refine lv_aload_n hx hb d_Checks_allowsStack_9 rfl (lv_at hl 0 rfl) ?_
  refine g_Checks_0 hx hb hts hown hK hP hwf hj0 (hts _ u_610) d_Checks_allowsStack_10 ?_
  obtain ⟨j41, e42, h⟩ := bd_ob h
  have hj41 : j41 < N 2 := (hwf.2.1 6 j0 0 _ e42 (by decide) hj0)
  refine me_opt (j := j41) e42 ?_
  refine g_Code_11 hx hb hts hown hK hP hwf hj41 (hts _ u_258) d_Checks_allowsStack_13 ?_
  refine lv_i2l (v := (mI M0 2 j41 11).toInt64) hx hb d_Checks_allowsStack_16 rfl ?_
  refine lv_ladd hx hb d_Checks_allowsStack_17 ?_
  refine lv_lconst (v := 0) hx hb d_Checks_allowsStack_18 (by decide) ?_
  refine W.lcmp hx hb d_Checks_allowsStack_19 ?_
  refine lv_if_gt (tgt := 38) hx hb d_Checks_allowsStack_20 (by decide) (fun c43 => ?_) (fun c43 => ?_)
  · have h := if_t ((lg_cmp_gt _ _).mp c43) h
    refine lv_iconst (v := 0) hx hb d_Checks_allowsStack_38 (by decide) ?_
    exact me_retz (me_kp M0) h (by decide) hx hb hr hlocks hwf hkp hP hK hD hS d_Checks_allowsStack_39
  have h := if_f (fun z => c43 ((lg_cmp_gt _ _).mpr z)) h
  refine lv_lload_n hx hb d_Checks_allowsStack_23 rfl (lv_at hl 1 rfl) ?_
  refine lv_aload_n hx hb d_Checks_allowsStack_24 rfl (lv_at hl 0 rfl) ?_
  refine g_Checks_0 hx hb hts hown hK hP hwf hj0 (hts _ u_610) d_Checks_allowsStack_25 ?_
  refine me_opt (j := j41) e42 ?_
  refine g_Code_11 hx hb hts hown hK hP hwf hj41 (hts _ u_258) d_Checks_allowsStack_28 ?_
  refine lv_i2l (v := (mI M0 2 j41 11).toInt64) hx hb d_Checks_allowsStack_31 rfl ?_
  obtain ⟨g44, h⟩ := gd_ob h
  refine lv_lrem hx hb d_Checks_allowsStack_32 g44 ?_
  refine fg_topl (y := jlrem x1 ((mI M0 2 j41 11).toInt64)) rfl ?_
  refine lv_lconst (v := 0) hx hb d_Checks_allowsStack_33 (by decide) ?_
  refine W.lcmp hx hb d_Checks_allowsStack_34 ?_
  refine lv_if_eq (tgt := 40) hx hb d_Checks_allowsStack_35 (by decide) (fun c45 => ?_) (fun c45 => ?_)
  · have h := if_t ((lg_cmp_eq _ _).mp c45) h
    refine lv_aload_n hx hb d_Checks_allowsStack_40 rfl (lv_at hl 0 rfl) ?_
    refine g_Checks_2 hx hb hts hown hK hP hwf hj0 (hts _ u_612) d_Checks_allowsStack_41 ?_
    obtain ⟨j46, e47, h⟩ := bd_ob h
    have hj46 : j46 < N 9 := (hwf.2.1 6 j0 2 _ e47 (by decide) hj0)
    refine me_opt (j := j46) e47 ?_
    refine lv_lload_n hx hb d_Checks_allowsStack_44 rfl (lv_at hl 1 rfl) ?_
    refine lv_l2i (v := x1.toInt32) hx hb d_Checks_allowsStack_45 rfl ?_
    obtain ⟨M48, r49, eM48, h⟩ := b2_ob h
    refine me_thenr0 (M1 := M48) (me_runV (C := "FilterGuard$State") (As := [.int x1.toInt32]) (rest := []) ⟨hx, hb, hml, hown, hts⟩ (c_State_slotAt l D ad ca N M0 M48 r49 j46 x1.toInt32 eM48 hwf hj46 _) rfl (by show fg_nm y_State_slotAt 1; decide +kernel) u_1630 u_1356 u_1357 u_189 u_1358 ⟨Nat.le_of_ble_eq_true rfl, Nat.le_of_ble_eq_true rfl⟩ hX hz hK hP hD hwf hS hA hj46 (by decide) rfl rfl rfl hl.1 (Nat.le_of_ble_eq_true rfl) d_Checks_allowsStack_46 ⟨Nat.le_of_ble_eq_true rfl, Nat.le_of_ble_eq_true rfl⟩) hP hD hK hS hA rfl rfl (fun H locs hw hP hD hS => ?_)
    obtain ⟨hwf, hk9, hr49⟩ := hw
    have hkp := hkp.tr hk9
    refine lv_astore_n (lv' := [(3, .ref (ad 10 r49)), (0, .ref (ad 6 j0)), (1, .long x1)]) hx hb d_Checks_allowsStack_49 rfl hl (by decide) rfl (fun ls hl => ?_)
    refine lv_aload_n hx hb d_Checks_allowsStack_50 rfl (lv_at hl 1 rfl) ?_
    refine g_Checks_0 hx hb hts hown hK hP hwf hj0 (hts _ u_610) d_Checks_allowsStack_51 ?_
    refine me_opt (j := j41) (kp_r hkb hkp e42) ?_
    refine lv_lload_n hx hb d_Checks_allowsStack_54 rfl (lv_at hl 2 rfl) ?_
    refine lv_l2i (v := x1.toInt32) hx hb d_Checks_allowsStack_55 rfl ?_
    obtain ⟨M50, r51, eM50, h⟩ := b2_ob h
    refine me_theni0 (M1 := M50) (me_runV (C := "FilterGuard$Code") (As := [.int x1.toInt32]) (rest := []) ⟨hx, hb, hml, hown, hts⟩ (c_Code_bytesAt l D ad ca N M48 M50 r51 j41 x1.toInt32 eM50 hwf hj41 _) rfl (by show fg_nm y_Code_bytesAt 1; decide +kernel) u_1641 u_1395 u_1396 u_182 u_1397 ⟨Nat.le_of_ble_eq_true rfl, Nat.le_of_ble_eq_true rfl⟩ hX hz hK hP hD hwf hS hA hj41 (by decide) rfl rfl rfl hl.1 (Nat.le_of_ble_eq_true rfl) d_Checks_allowsStack_56 ⟨Nat.le_of_ble_eq_true rfl, Nat.le_of_ble_eq_true rfl⟩) hP hD hK hS hA rfl rfl (fun H locs hw hP hD hS => ?_)
    obtain ⟨hwf, hk9⟩ := hw
    have hkp := hkp.tr hk9
    refine lv_istore (lv' := [(4, .int r51), (3, .ref (ad 10 r49)), (0, .ref (ad 6 j0)), (1, .long x1)]) hx hb d_Checks_allowsStack_59 hl (by decide) rfl (fun ls hl => ?_)
    refine lv_aload_n hx hb d_Checks_allowsStack_61 rfl (lv_at hl 2 rfl) ?_
    refine g_Checks_0 hx hb hts hown hK hP hwf hj0 (hts _ u_610) d_Checks_allowsStack_62 ?_
    refine me_opt (j := j41) (kp_r hkb hkp e42) ?_
    refine g_Code_11 hx hb hts hown hK hP hwf hj41 (hts _ u_258) d_Checks_allowsStack_65 ?_
    refine lv_bipush (v := 8) hx hb d_Checks_allowsStack_68 (by decide) ?_
    refine lv_icmp_ne (tgt := 77) hx hb d_Checks_allowsStack_70 (by decide) (fun c52 => ?_) (fun c52 => ?_)
    · have h := if_f c52 h
      refine lv_iconst (v := 0) hx hb d_Checks_allowsStack_77 (by decide) ?_
      exact b_78 M50 r49 r51 (0 : Int32) _ _ _ h hr49 (by decide) hwf hkp hP hD hS (lv_sub hl [2, 1, 0] rfl)
    have h := if_t c52 h
    refine lv_iconst (v := 1) hx hb d_Checks_allowsStack_73 (by decide) ?_
    refine lv_goto (tgt := 78) hx hb d_Checks_allowsStack_74 (by decide) ?_
    exact b_78 M50 r49 r51 (1 : Int32) _ _ _ h hr49 (by decide) hwf hkp hP hD hS (lv_sub hl [2, 1, 0] rfl)
  have h := if_f (fun z => c45 ((lg_cmp_eq _ _).mpr z)) h
  refine lv_iconst (v := 0) hx hb d_Checks_allowsStack_38 (by decide) ?_
  exact me_retz (me_kp M0) h (by decide) hx hb hr hlocks hwf hkp hP hK hD hS d_Checks_allowsStack_39
