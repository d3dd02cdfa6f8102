abbrev y_Reckoner_quotient : MethodName := ⟨"FilterGuard$Reckoner", "quotient", "(JJ)J"⟩
theorem d_Reckoner_quotient_0 : decode prog_9_method_2_code 0 = .ok (.lload_n 2, 1) := by decide +kernel
theorem d_Reckoner_quotient_1 : decode prog_9_method_2_code 1 = .ok (.lconst 0, 1) := by decide +kernel
theorem d_Reckoner_quotient_2 : decode prog_9_method_2_code 2 = .ok (.lcmp, 1) := by decide +kernel
theorem d_Reckoner_quotient_3 : decode prog_9_method_2_code 3 = .ok (.ifCond .ne 5, 3) := by decide +kernel
theorem d_Reckoner_quotient_8 : decode prog_9_method_2_code 8 = .ok (.lload_n 2, 1) := by decide +kernel
theorem d_Reckoner_quotient_9 : decode prog_9_method_2_code 9 = .ok (.lconst 0, 1) := by decide +kernel
theorem d_Reckoner_quotient_10 : decode prog_9_method_2_code 10 = .ok (.lcmp, 1) := by decide +kernel
theorem d_Reckoner_quotient_11 : decode prog_9_method_2_code 11 = .ok (.ifCond .ge 23, 3) := by decide +kernel
theorem d_Reckoner_quotient_34 : decode prog_9_method_2_code 34 = .ok (.lload_n 0, 1) := by decide +kernel
theorem d_Reckoner_quotient_35 : decode prog_9_method_2_code 35 = .ok (.lconst 0, 1) := by decide +kernel
theorem d_Reckoner_quotient_36 : decode prog_9_method_2_code 36 = .ok (.lcmp, 1) := by decide +kernel
theorem d_Reckoner_quotient_37 : decode prog_9_method_2_code 37 = .ok (.ifCond .lt 7, 3) := by decide +kernel
theorem d_Reckoner_quotient_44 : decode prog_9_method_2_code 44 = .ok (.lload_n 0, 1) := by decide +kernel
theorem d_Reckoner_quotient_45 : decode prog_9_method_2_code 45 = .ok (.iconst 1, 1) := by decide +kernel
theorem d_Reckoner_quotient_46 : decode prog_9_method_2_code 46 = .ok (.lushr, 1) := by decide +kernel
theorem d_Reckoner_quotient_47 : decode prog_9_method_2_code 47 = .ok (.lload_n 2, 1) := by decide +kernel
theorem d_Reckoner_quotient_48 : decode prog_9_method_2_code 48 = .ok (.ldiv, 1) := by decide +kernel
theorem d_Reckoner_quotient_49 : decode prog_9_method_2_code 49 = .ok (.iconst 1, 1) := by decide +kernel
theorem d_Reckoner_quotient_50 : decode prog_9_method_2_code 50 = .ok (.lshl, 1) := by decide +kernel
theorem d_Reckoner_quotient_51 : decode prog_9_method_2_code 51 = .ok (.lstore 4, 2) := by decide +kernel
theorem d_Reckoner_quotient_53 : decode prog_9_method_2_code 53 = .ok (.lload_n 0, 1) := by decide +kernel
theorem d_Reckoner_quotient_54 : decode prog_9_method_2_code 54 = .ok (.lload 4, 2) := by decide +kernel
theorem d_Reckoner_quotient_56 : decode prog_9_method_2_code 56 = .ok (.lload_n 2, 1) := by decide +kernel
theorem d_Reckoner_quotient_57 : decode prog_9_method_2_code 57 = .ok (.lmul, 1) := by decide +kernel
theorem d_Reckoner_quotient_58 : decode prog_9_method_2_code 58 = .ok (.lsub, 1) := by decide +kernel
theorem d_Reckoner_quotient_59 : decode prog_9_method_2_code 59 = .ok (.lstore 6, 2) := by decide +kernel
theorem d_Reckoner_quotient_61 : decode prog_9_method_2_code 61 = .ok (.lload 6, 2) := by decide +kernel
theorem d_Reckoner_quotient_63 : decode prog_9_method_2_code 63 = .ok (.ldc2_w 30, 3) := by decide +kernel
theorem u_1184 : Cond.constantLong "FilterGuard$Reckoner" 30 (-9223372036854775808) ∈ fg_g := fg_in (List.mem_of_getElem? (i := 1184) (by decide +kernel)) rfl
theorem d_Reckoner_quotient_66 : decode prog_9_method_2_code 66 = .ok (.lxor, 1) := by decide +kernel
theorem d_Reckoner_quotient_67 : decode prog_9_method_2_code 67 = .ok (.lload_n 2, 1) := by decide +kernel
theorem d_Reckoner_quotient_68 : decode prog_9_method_2_code 68 = .ok (.ldc2_w 30, 3) := by decide +kernel
theorem d_Reckoner_quotient_71 : decode prog_9_method_2_code 71 = .ok (.lxor, 1) := by decide +kernel
theorem d_Reckoner_quotient_72 : decode prog_9_method_2_code 72 = .ok (.lcmp, 1) := by decide +kernel
theorem d_Reckoner_quotient_73 : decode prog_9_method_2_code 73 = .ok (.ifCond .ge 8, 3) := by decide +kernel
theorem d_Reckoner_quotient_81 : decode prog_9_method_2_code 81 = .ok (.lload 4, 2) := by decide +kernel
theorem d_Reckoner_quotient_83 : decode prog_9_method_2_code 83 = .ok (.lconst 1, 1) := by decide +kernel
theorem d_Reckoner_quotient_84 : decode prog_9_method_2_code 84 = .ok (.ladd, 1) := by decide +kernel
theorem d_Reckoner_quotient_85 : decode prog_9_method_2_code 85 = .ok (.lreturn, 1) := by decide +kernel
theorem d_Reckoner_quotient_76 : decode prog_9_method_2_code 76 = .ok (.lload 4, 2) := by decide +kernel
theorem d_Reckoner_quotient_78 : decode prog_9_method_2_code 78 = .ok (.goto 7, 3) := by decide +kernel
theorem d_Reckoner_quotient_40 : decode prog_9_method_2_code 40 = .ok (.lload_n 0, 1) := by decide +kernel
theorem d_Reckoner_quotient_41 : decode prog_9_method_2_code 41 = .ok (.lload_n 2, 1) := by decide +kernel
theorem d_Reckoner_quotient_42 : decode prog_9_method_2_code 42 = .ok (.ldiv, 1) := by decide +kernel
theorem d_Reckoner_quotient_43 : decode prog_9_method_2_code 43 = .ok (.lreturn, 1) := by decide +kernel
theorem d_Reckoner_quotient_14 : decode prog_9_method_2_code 14 = .ok (.lload_n 0, 1) := by decide +kernel
theorem d_Reckoner_quotient_15 : decode prog_9_method_2_code 15 = .ok (.ldc2_w 30, 3) := by decide +kernel
theorem d_Reckoner_quotient_18 : decode prog_9_method_2_code 18 = .ok (.lxor, 1) := by decide +kernel
theorem d_Reckoner_quotient_19 : decode prog_9_method_2_code 19 = .ok (.lload_n 2, 1) := by decide +kernel
theorem d_Reckoner_quotient_20 : decode prog_9_method_2_code 20 = .ok (.ldc2_w 30, 3) := by decide +kernel
theorem d_Reckoner_quotient_23 : decode prog_9_method_2_code 23 = .ok (.lxor, 1) := by decide +kernel
theorem d_Reckoner_quotient_24 : decode prog_9_method_2_code 24 = .ok (.lcmp, 1) := by decide +kernel
theorem d_Reckoner_quotient_25 : decode prog_9_method_2_code 25 = .ok (.ifCond .ge 7, 3) := by decide +kernel
theorem d_Reckoner_quotient_32 : decode prog_9_method_2_code 32 = .ok (.lconst 1, 1) := by decide +kernel
theorem d_Reckoner_quotient_33 : decode prog_9_method_2_code 33 = .ok (.lreturn, 1) := by decide +kernel
theorem d_Reckoner_quotient_28 : decode prog_9_method_2_code 28 = .ok (.lconst 0, 1) := by decide +kernel
theorem d_Reckoner_quotient_29 : decode prog_9_method_2_code 29 = .ok (.goto 4, 3) := by decide +kernel
theorem d_Reckoner_quotient_6 : decode prog_9_method_2_code 6 = .ok (.lconst 0, 1) := by decide +kernel
theorem d_Reckoner_quotient_7 : decode prog_9_method_2_code 7 = .ok (.lreturn, 1) := by decide +kernel
def rm_Reck_quotient : Room := { frames := 1, cells := 0, slots := 0, locals := 20 }
abbrev q_Reck_quotient (D : va_G) (x1 : Int64) (x2 : Int64) (A : Nat → Prop) : Array Value → Jvm.State → Outcome → Jvm.State → Prop := va_Ql (fun (r : Int64) (_ : Unit) => r = fn_quo x1 x2) (fg_B D A (fun (_ : Unit) => []) (fun (_ : Unit) => [])) A
set_option maxHeartbeats 4000000 in
set_option maxRecDepth 100000 in
theorem c_Reck_quotient (l : Launch) (D : va_G) (x1 : Int64) (x2 : Int64) (sz : Nat) : Met l y_Reckoner_quotient (fg_w y_Reckoner_quotient prog_9_method_2_code 8 (some .long)) rm_Reck_quotient (va_Pc [.long x1, .long x2] (fg_P D [] [] sz)) (q_Reck_quotient D x1 x2 (va_A [] sz)) rm_Reck_quotient.cells rm_Reck_quotient.slots (va_A [] sz) := by
  refine fg_enter (fun A => q_Reck_quotient D x1 x2 A) (by decide +kernel) (Nat.le_of_ble_eq_true rfl) ?_
  intro p e s m below meth c ls A hx hb hml hown hts hr hlocks hin hP hK hD hS hA hX hl
  have hl : lv_has ls 8 [(0, .long x1), (2, .long x2)] := hl
  refine lv_lload_n hx hb d_Reckoner_quotient_0 rfl (lv_at hl 1 rfl) ?_
  refine lv_lconst (v := 0) hx hb d_Reckoner_quotient_1 (by decide) ?_
  refine W.lcmp hx hb d_Reckoner_quotient_2 ?_
  refine lv_if_ne (tgt := 8) hx hb d_Reckoner_quotient_3 (by decide) (fun c_1 => ?_) (fun c_1 => ?_)
  · have gc_1 : ¬ x2 = 0 := fun z => c_1 ((lg_cmp_eq _ _).mpr z)
    refine lv_lload_n hx hb d_Reckoner_quotient_8 rfl (lv_at hl 1 rfl) ?_
    refine lv_lconst (v := 0) hx hb d_Reckoner_quotient_9 (by decide) ?_
    refine W.lcmp hx hb d_Reckoner_quotient_10 ?_
    refine lv_if_ge (tgt := 34) hx hb d_Reckoner_quotient_11 (by decide) (fun c_2 => ?_) (fun c_2 => ?_)
    · have gc_2 : ¬ x2 < 0 := Int64.not_lt.mpr ((lg_cmp_ge _ _).mp c_2)
      refine lv_lload_n hx hb d_Reckoner_quotient_34 rfl (lv_at hl 0 rfl) ?_
      refine lv_lconst (v := 0) hx hb d_Reckoner_quotient_35 (by decide) ?_
      refine W.lcmp hx hb d_Reckoner_quotient_36 ?_
      refine lv_if_lt (tgt := 44) hx hb d_Reckoner_quotient_37 (by decide) (fun c_3 => ?_) (fun c_3 => ?_)
      · have gc_3 : x1 < 0 := (lg_cmp_lt _ _).mp c_3
        refine lv_lload_n hx hb d_Reckoner_quotient_44 rfl (lv_at hl 0 rfl) ?_
        refine lv_iconst (v := 1) hx hb d_Reckoner_quotient_45 (by decide) ?_
        refine lv_lushr (v := (x1.toUInt64 >>> ((1 : Int32).toInt64.toUInt64 &&& Int64.toUInt64 63)).toInt64) hx hb d_Reckoner_quotient_46 rfl ?_
        refine lv_lload_n hx hb d_Reckoner_quotient_47 rfl (lv_at hl 1 rfl) ?_
        refine lv_ldiv hx hb d_Reckoner_quotient_48 gc_1 ?_
        refine lv_iconst (v := 1) hx hb d_Reckoner_quotient_49 (by decide) ?_
        refine lv_lshl (v := (((x1.toUInt64 >>> ((1 : Int32).toInt64.toUInt64 &&& Int64.toUInt64 63)).toInt64) / x2) <<< ((1 : Int32).toInt64 &&& 63)) hx hb d_Reckoner_quotient_50 rfl ?_
        refine lv_lstore (lv' := [(4, .long ((((x1.toUInt64 >>> ((1 : Int32).toInt64.toUInt64 &&& Int64.toUInt64 63)).toInt64) / x2) <<< ((1 : Int32).toInt64 &&& 63))), (0, .long x1), (2, .long x2)]) hx hb d_Reckoner_quotient_51 hl (by decide) rfl (fun ls hl => ?_)
        refine lv_lload_n hx hb d_Reckoner_quotient_53 rfl (lv_at hl 1 rfl) ?_
        refine lv_lload hx hb d_Reckoner_quotient_54 (lv_at hl 0 rfl) ?_
        refine lv_lload_n hx hb d_Reckoner_quotient_56 rfl (lv_at hl 2 rfl) ?_
        refine lv_lmul hx hb d_Reckoner_quotient_57 ?_
        refine lv_lsub hx hb d_Reckoner_quotient_58 ?_
        refine lv_lstore (lv' := [(6, .long (x1 - (((((x1.toUInt64 >>> ((1 : Int32).toInt64.toUInt64 &&& Int64.toUInt64 63)).toInt64) / x2) <<< ((1 : Int32).toInt64 &&& 63)) * x2))), (4, .long ((((x1.toUInt64 >>> ((1 : Int32).toInt64.toUInt64 &&& Int64.toUInt64 63)).toInt64) / x2) <<< ((1 : Int32).toInt64 &&& 63))), (0, .long x1), (2, .long x2)]) hx hb d_Reckoner_quotient_59 hl (by decide) rfl (fun ls hl => ?_)
        refine lv_lload hx hb d_Reckoner_quotient_61 (lv_at hl 0 rfl) ?_
        refine lv_ldc2 hx hb hown (hts _ u_1184) d_Reckoner_quotient_63 ?_
        refine lv_lxor hx hb d_Reckoner_quotient_66 ?_
        refine lv_lload_n hx hb d_Reckoner_quotient_67 rfl (lv_at hl 3 rfl) ?_
        refine lv_ldc2 hx hb hown (hts _ u_1184) d_Reckoner_quotient_68 ?_
        refine lv_lxor hx hb d_Reckoner_quotient_71 ?_
        refine W.lcmp hx hb d_Reckoner_quotient_72 ?_
        refine lv_if_ge (tgt := 81) hx hb d_Reckoner_quotient_73 (by decide) (fun c_4 => ?_) (fun c_4 => ?_)
        · have gc_4 : ¬ ((x1 - (((((x1.toUInt64 >>> ((1 : Int32).toInt64.toUInt64 &&& Int64.toUInt64 63)).toInt64) / x2) <<< ((1 : Int32).toInt64 &&& 63)) * x2)) ^^^ (-9223372036854775808)) < (x2 ^^^ (-9223372036854775808)) := Int64.not_lt.mpr ((lg_cmp_ge _ _).mp c_4)
          refine lv_lload hx hb d_Reckoner_quotient_81 (lv_at hl 1 rfl) ?_
          refine lv_lconst (v := 1) hx hb d_Reckoner_quotient_83 (by decide) ?_
          refine lv_ladd hx hb d_Reckoner_quotient_84 ?_
          exact fg_retl () hx hb hr hlocks (by unfold fn_quo fn_half; (repeat rw [if_neg gc_1]); (repeat rw [if_neg gc_2]); (repeat rw [if_pos gc_3]); (repeat rw [if_neg gc_4]); try rfl) (hP.sub (ws' := []) [] rfl) (hK.sub (tys' := []) [] rfl) (hD.sub (ws' := []) [] (by decide) rfl) hS (Nat.le_of_ble_eq_true rfl) (Nat.le_of_ble_eq_true rfl) d_Reckoner_quotient_85
        · have gc_4 : ((x1 - (((((x1.toUInt64 >>> ((1 : Int32).toInt64.toUInt64 &&& Int64.toUInt64 63)).toInt64) / x2) <<< ((1 : Int32).toInt64 &&& 63)) * x2)) ^^^ (-9223372036854775808)) < (x2 ^^^ (-9223372036854775808)) := Int64.not_le.mp (fun z => c_4 ((lg_cmp_ge _ _).mpr z))
          refine lv_lload hx hb d_Reckoner_quotient_76 (lv_at hl 1 rfl) ?_
          refine lv_goto (tgt := 85) hx hb d_Reckoner_quotient_78 (by decide) ?_
          exact fg_retl () hx hb hr hlocks (by unfold fn_quo fn_half; (repeat rw [if_neg gc_1]); (repeat rw [if_neg gc_2]); (repeat rw [if_pos gc_3]); (repeat rw [if_pos gc_4]); try rfl) (hP.sub (ws' := []) [] rfl) (hK.sub (tys' := []) [] rfl) (hD.sub (ws' := []) [] (by decide) rfl) hS (Nat.le_of_ble_eq_true rfl) (Nat.le_of_ble_eq_true rfl) d_Reckoner_quotient_85
      · have gc_3 : ¬ x1 < 0 := fun z => c_3 ((lg_cmp_lt _ _).mpr z)
        refine lv_lload_n hx hb d_Reckoner_quotient_40 rfl (lv_at hl 0 rfl) ?_
        refine lv_lload_n hx hb d_Reckoner_quotient_41 rfl (lv_at hl 1 rfl) ?_
        refine lv_ldiv hx hb d_Reckoner_quotient_42 gc_1 ?_
        exact fg_retl () hx hb hr hlocks (by unfold fn_quo fn_half; (repeat rw [if_neg gc_1]); (repeat rw [if_neg gc_2]); (repeat rw [if_neg gc_3]); try rfl) (hP.sub (ws' := []) [] rfl) (hK.sub (tys' := []) [] rfl) (hD.sub (ws' := []) [] (by decide) rfl) hS (Nat.le_of_ble_eq_true rfl) (Nat.le_of_ble_eq_true rfl) d_Reckoner_quotient_43
    · have gc_2 : x2 < 0 := Int64.not_le.mp (fun z => c_2 ((lg_cmp_ge _ _).mpr z))
      refine lv_lload_n hx hb d_Reckoner_quotient_14 rfl (lv_at hl 0 rfl) ?_
      refine lv_ldc2 hx hb hown (hts _ u_1184) d_Reckoner_quotient_15 ?_
      refine lv_lxor hx hb d_Reckoner_quotient_18 ?_
      refine lv_lload_n hx hb d_Reckoner_quotient_19 rfl (lv_at hl 1 rfl) ?_
      refine lv_ldc2 hx hb hown (hts _ u_1184) d_Reckoner_quotient_20 ?_
      refine lv_lxor hx hb d_Reckoner_quotient_23 ?_
      refine W.lcmp hx hb d_Reckoner_quotient_24 ?_
      refine lv_if_ge (tgt := 32) hx hb d_Reckoner_quotient_25 (by decide) (fun c_5 => ?_) (fun c_5 => ?_)
      · have gc_5 : ¬ (x1 ^^^ (-9223372036854775808)) < (x2 ^^^ (-9223372036854775808)) := Int64.not_lt.mpr ((lg_cmp_ge _ _).mp c_5)
        refine lv_lconst (v := 1) hx hb d_Reckoner_quotient_32 (by decide) ?_
        exact fg_retl () hx hb hr hlocks (by unfold fn_quo fn_half; (repeat rw [if_neg gc_1]); (repeat rw [if_pos gc_2]); (repeat rw [if_neg gc_5]); try rfl) (hP.sub (ws' := []) [] rfl) (hK.sub (tys' := []) [] rfl) (hD.sub (ws' := []) [] (by decide) rfl) hS (Nat.le_of_ble_eq_true rfl) (Nat.le_of_ble_eq_true rfl) d_Reckoner_quotient_33
      · have gc_5 : (x1 ^^^ (-9223372036854775808)) < (x2 ^^^ (-9223372036854775808)) := Int64.not_le.mp (fun z => c_5 ((lg_cmp_ge _ _).mpr z))
        refine lv_lconst (v := 0) hx hb d_Reckoner_quotient_28 (by decide) ?_
        refine lv_goto (tgt := 33) hx hb d_Reckoner_quotient_29 (by decide) ?_
        exact fg_retl () hx hb hr hlocks (by unfold fn_quo fn_half; (repeat rw [if_neg gc_1]); (repeat rw [if_pos gc_2]); (repeat rw [if_pos gc_5]); try rfl) (hP.sub (ws' := []) [] rfl) (hK.sub (tys' := []) [] rfl) (hD.sub (ws' := []) [] (by decide) rfl) hS (Nat.le_of_ble_eq_true rfl) (Nat.le_of_ble_eq_true rfl) d_Reckoner_quotient_33
  · have gc_1 : x2 = 0 := (lg_cmp_eq _ _).mp c_1
    refine lv_lconst (v := 0) hx hb d_Reckoner_quotient_6 (by decide) ?_
    exact fg_retl () hx hb hr hlocks (by unfold fn_quo fn_half; (repeat rw [if_pos gc_1]); try rfl) (hP.sub (ws' := []) [] rfl) (hK.sub (tys' := []) [] rfl) (hD.sub (ws' := []) [] (by decide) rfl) hS (Nat.le_of_ble_eq_true rfl) (Nat.le_of_ble_eq_true rfl) d_Reckoner_quotient_7
abbrev y_Reckoner_swapped : MethodName := ⟨"FilterGuard$Reckoner", "swapped", "(JI)J"⟩
theorem d_Reckoner_swapped_0 : decode prog_9_method_3_code 0 = .ok (.lconst 0, 1) := by decide +kernel
theorem d_Reckoner_swapped_1 : decode prog_9_method_3_code 1 = .ok (.lstore_n 3, 1) := by decide +kernel
theorem d_Reckoner_swapped_2 : decode prog_9_method_3_code 2 = .ok (.iconst 0, 1) := by decide +kernel
theorem d_Reckoner_swapped_3 : decode prog_9_method_3_code 3 = .ok (.istore 5, 2) := by decide +kernel
theorem d_Reckoner_swapped_5 : decode prog_9_method_3_code 5 = .ok (.iload 5, 2) := by decide +kernel
theorem d_Reckoner_swapped_7 : decode prog_9_method_3_code 7 = .ok (.iload_n 2, 1) := by decide +kernel
theorem d_Reckoner_swapped_8 : decode prog_9_method_3_code 8 = .ok (.if_icmp .ge 26, 3) := by decide +kernel
theorem d_Reckoner_swapped_34 : decode prog_9_method_3_code 34 = .ok (.lload_n 3, 1) := by decide +kernel
theorem d_Reckoner_swapped_35 : decode prog_9_method_3_code 35 = .ok (.lreturn, 1) := by decide +kernel
theorem d_Reckoner_swapped_11 : decode prog_9_method_3_code 11 = .ok (.lload_n 3, 1) := by decide +kernel
theorem d_Reckoner_swapped_12 : decode prog_9_method_3_code 12 = .ok (.bipush 8, 2) := by decide +kernel
theorem d_Reckoner_swapped_14 : decode prog_9_method_3_code 14 = .ok (.lshl, 1) := by decide +kernel
theorem d_Reckoner_swapped_15 : decode prog_9_method_3_code 15 = .ok (.lload_n 0, 1) := by decide +kernel
theorem d_Reckoner_swapped_16 : decode prog_9_method_3_code 16 = .ok (.bipush 8, 2) := by decide +kernel
theorem d_Reckoner_swapped_18 : decode prog_9_method_3_code 18 = .ok (.iload 5, 2) := by decide +kernel
theorem d_Reckoner_swapped_20 : decode prog_9_method_3_code 20 = .ok (.imul, 1) := by decide +kernel
theorem d_Reckoner_swapped_21 : decode prog_9_method_3_code 21 = .ok (.lushr, 1) := by decide +kernel
theorem d_Reckoner_swapped_22 : decode prog_9_method_3_code 22 = .ok (.ldc2_w 32, 3) := by decide +kernel
theorem u_1215 : Cond.constantLong "FilterGuard$Reckoner" 32 255 ∈ fg_g := fg_in (List.mem_of_getElem? (i := 1215) (by decide +kernel)) rfl
theorem d_Reckoner_swapped_25 : decode prog_9_method_3_code 25 = .ok (.land, 1) := by decide +kernel
theorem d_Reckoner_swapped_26 : decode prog_9_method_3_code 26 = .ok (.lor, 1) := by decide +kernel
theorem d_Reckoner_swapped_27 : decode prog_9_method_3_code 27 = .ok (.lstore_n 3, 1) := by decide +kernel
theorem d_Reckoner_swapped_28 : decode prog_9_method_3_code 28 = .ok (.iinc 5 1, 3) := by decide +kernel
theorem d_Reckoner_swapped_31 : decode prog_9_method_3_code 31 = .ok (.goto (-26), 3) := by decide +kernel
def rm_Reck_swapped : Room := { frames := 1, cells := 0, slots := 0, locals := 20 }
abbrev q_Reck_swapped (D : va_G) (x1 : Int64) (x2 : Int32) (n9 : Nat) (A : Nat → Prop) : Array Value → Jvm.State → Outcome → Jvm.State → Prop := va_Ql (fun (r : Int64) (_ : Unit) => r = fn_swap x1 n9) (fg_B D A (fun (_ : Unit) => []) (fun (_ : Unit) => [])) A
set_option maxHeartbeats 4000000 in
set_option maxRecDepth 100000 in
theorem c_Reck_swapped (l : Launch) (D : va_G) (x1 : Int64) (x2 : Int32) (n9 : Nat) (sz : Nat) (hx2 : x2 = nI n9) (hn9 : n9 < 2 ^ 31) : Met l y_Reckoner_swapped (fg_w y_Reckoner_swapped prog_9_method_3_code 6 (some .long)) rm_Reck_swapped (va_Pc [.long x1, .int x2] (fg_P D [] [] sz)) (q_Reck_swapped D x1 x2 n9 (va_A [] sz)) rm_Reck_swapped.cells rm_Reck_swapped.slots (va_A [] sz) := by
  refine fg_enter (fun A => q_Reck_swapped D x1 x2 n9 A) (by decide +kernel) (Nat.le_of_ble_eq_true rfl) ?_
  intro p e s m below meth c ls A hx hb hml hown hts hr hlocks hin hP hK hD hS hA hX hl
  have hl : lv_has ls 6 [(0, .long x1), (2, .int x2)] := hl
  refine lv_lconst (v := 0) hx hb d_Reckoner_swapped_0 (by decide) ?_
  refine lv_lstore_n (lv' := [(3, .long 0), (0, .long x1), (2, .int x2)]) hx hb d_Reckoner_swapped_1 rfl hl (by decide) rfl (fun ls hl => ?_)
  refine lv_iconst (v := 0) hx hb d_Reckoner_swapped_2 (by decide) ?_
  refine lv_istore (lv' := [(5, .int 0), (3, .long 0), (0, .long x1), (2, .int x2)]) hx hb d_Reckoner_swapped_3 hl (by decide) rfl (fun ls hl => ?_)
  have loop5 : ∀ (n : Nat) (k : Nat) (H : Heap) (locs : List Loc) (ls : Array Slot), k ≤ n9 → n9 - k < n → va_P D classes [] H → va_D A [] → va_S A s.heap H locs → lv_has ls 6 [(5, .int (nI k)), (3, .long (fn_swap x1 k)), (0, .long x1), (2, .int x2)] → W p l e rm_Reck_swapped s m [.long x1, .int x2].toArray below meth c H locs (0) (0) (MQ below (q_Reck_swapped D x1 x2 n9 A) [.long x1, .int x2].toArray s rm_Reck_swapped.cells rm_Reck_swapped.slots A) (F0 m 5 ls []) := by
    intro n
    induction n with
    | zero => intro k H locs ls hk hn; exact absurd hn (Nat.not_lt_zero _)
    | succ n ih =>
      intro k H locs ls hk hn hP hD hS hl
      refine lv_iload hx hb d_Reckoner_swapped_5 (lv_at hl 0 rfl) ?_
      refine lv_iload_n hx hb d_Reckoner_swapped_7 rfl (lv_at hl 3 rfl) ?_
      refine lv_icmp_ge (tgt := 34) hx hb d_Reckoner_swapped_8 (by decide) (fun c_1 => ?_) (fun c_1 => ?_)
      · have hk3 : k = n9 := fg_eqn hx2 hn9 hk c_1
        refine lv_lload_n hx hb d_Reckoner_swapped_34 rfl (lv_at hl 1 rfl) ?_
        exact fg_retl () hx hb hr hlocks (by rw [hk3]) (hP.sub (ws' := []) [] rfl) (hK.sub (tys' := []) [] rfl) (hD.sub (ws' := []) [] (by decide) rfl) hS (Nat.le_of_ble_eq_true rfl) (Nat.le_of_ble_eq_true rfl) d_Reckoner_swapped_35
      · have hlt : k < n9 := fg_lt hx2 hn9 hk c_1
        refine lv_lload_n hx hb d_Reckoner_swapped_11 rfl (lv_at hl 1 rfl) ?_
        refine lv_bipush (v := 8) hx hb d_Reckoner_swapped_12 (by decide) ?_
        refine lv_lshl (v := (fn_swap x1 k) <<< ((8 : Int32).toInt64 &&& 63)) hx hb d_Reckoner_swapped_14 rfl ?_
        refine lv_lload_n hx hb d_Reckoner_swapped_15 rfl (lv_at hl 2 rfl) ?_
        refine lv_bipush (v := 8) hx hb d_Reckoner_swapped_16 (by decide) ?_
        refine lv_iload hx hb d_Reckoner_swapped_18 (lv_at hl 0 rfl) ?_
        refine lv_imul hx hb d_Reckoner_swapped_20 ?_
        refine lv_lushr (v := (x1.toUInt64 >>> ((8 * (nI k)).toInt64.toUInt64 &&& Int64.toUInt64 63)).toInt64) hx hb d_Reckoner_swapped_21 rfl ?_
        refine lv_ldc2 hx hb hown (hts _ u_1215) d_Reckoner_swapped_22 ?_
        refine lv_land hx hb d_Reckoner_swapped_25 ?_
        refine lv_lor hx hb d_Reckoner_swapped_26 ?_
        refine fg_topl (y := fn_swap x1 (k + 1)) rfl ?_
        refine lv_lstore_n (lv' := [(3, .long (fn_swap x1 (k + 1))), (5, .int (nI k)), (0, .long x1), (2, .int x2)]) hx hb d_Reckoner_swapped_27 rfl hl (by decide) rfl (fun ls hl => ?_)
        refine lv_iinc (v := nI (k + 1)) (lv' := [(5, .int (nI (k + 1))), (3, .long (fn_swap x1 (k + 1))), (0, .long x1), (2, .int x2)]) hx hb d_Reckoner_swapped_28 hl (k := 1) rfl (nI_1 k) (by decide) rfl (fun ls hl => ?_)
        refine lv_goto (tgt := 5) hx hb d_Reckoner_swapped_31 (by decide) ?_
        refine W.widen (k := 0) (n := 0) (by omega) (by omega) ?_
        exact ih (k + 1) _ _ _ (by omega) (by omega) (hP.sub (ws' := []) [] rfl) (hD.sub (ws' := []) [] (by decide) rfl) hS (lv_sub hl [0, 1, 2, 3] rfl)
  refine W.widen (k := 0) (n := 0) (by omega) (by omega) ?_
  exact loop5 (n9 + 1) 0 _ _ _ (Nat.zero_le _) (by omega) (hP.sub (ws' := []) [] rfl) (hD.sub (ws' := []) [] (by decide) rfl) hS (lv_sub hl [0, 1, 2, 3] rfl)
