theorem d_Reckoner_quotient_0 : decode prog_9_method_2_code 0 = .ok (.lload_n 2, 1) := by decide +kernel
theorem d_Reckoner_quotient_1 : decode prog_9_method_2_code 1 = .ok (.lconst 0, 1) := by decide +kernel
theorem d_Reckoner_quotient_2 : decode prog_9_method_2_code 2 = .ok (.lcmp, 1) := by decide +kernel
theorem d_Reckoner_quotient_3 : decode prog_9_method_2_code 3 = .ok (.ifCond .ne 5, 3) := by decide +kernel
theorem d_Reckoner_quotient_8 : decode prog_9_method_2_code 8 = .ok (.lload_n 2, 1) := by decide +kernel
theorem d_Reckoner_quotient_9 : decode prog_9_method_2_code 9 = .ok (.lconst 0, 1) := by decide +kernel
theorem d_Reckoner_quotient_10 : decode prog_9_method_2_code 10 = .ok (.lcmp, 1) := by decide +kernel
theorem d_Reckoner_quotient_11 : decode prog_9_method_2_code 11 = .ok (.ifCond .ge 23, 3) := by decide +kernel
theorem d_Reckoner_quotient_34 : decode prog_9_method_2_code 34 = .ok (.lload_n 0, 1) := by decide +kernel
theorem d_Reckoner_quotient_35 : decode prog_9_method_2_code 35 = .ok (.lconst 0, 1) := by decide +kernel
theorem d_Reckoner_quotient_36 : decode prog_9_method_2_code 36 = .ok (.lcmp, 1) := by decide +kernel
theorem d_Reckoner_quotient_37 : decode prog_9_method_2_code 37 = .ok (.ifCond .lt 7, 3) := by decide +kernel
theorem d_Reckoner_quotient_44 : decode prog_9_method_2_code 44 = .ok (.lload_n 0, 1) := by decide +kernel
theorem d_Reckoner_quotient_45 : decode prog_9_method_2_code 45 = .ok (.iconst 1, 1) := by decide +kernel
theorem d_Reckoner_quotient_46 : decode prog_9_method_2_code 46 = .ok (.lushr, 1) := by decide +kernel
theorem d_Reckoner_quotient_47 : decode prog_9_method_2_code 47 = .ok (.lload_n 2, 1) := by decide +kernel
theorem d_Reckoner_quotient_48 : decode prog_9_method_2_code 48 = .ok (.ldiv, 1) := by decide +kernel
theorem d_Reckoner_quotient_49 : decode prog_9_method_2_code 49 = .ok (.iconst 1, 1) := by decide +kernel
theorem d_Reckoner_quotient_50 : decode prog_9_method_2_code 50 = .ok (.lshl, 1) := by decide +kernel
theorem d_Reckoner_quotient_51 : decode prog_9_method_2_code 51 = .ok (.lstore 4, 2) := by decide +kernel
theorem d_Reckoner_quotient_53 : decode prog_9_method_2_code 53 = .ok (.lload_n 0, 1) := by decide +kernel
theorem d_Reckoner_quotient_54 : decode prog_9_method_2_code 54 = .ok (.lload 4, 2) := by decide +kernel
theorem d_Reckoner_quotient_56 : decode prog_9_method_2_code 56 = .ok (.lload_n 2, 1) := by decide +kernel
theorem d_Reckoner_quotient_57 : decode prog_9_method_2_code 57 = .ok (.lmul, 1) := by decide +kernel
theorem d_Reckoner_quotient_58 : decode prog_9_method_2_code 58 = .ok (.lsub, 1) := by decide +kernel
theorem d_Reckoner_quotient_59 : decode prog_9_method_2_code 59 = .ok (.lstore 6, 2) := by decide +kernel
theorem d_Reckoner_quotient_61 : decode prog_9_method_2_code 61 = .ok (.lload 6, 2) := by decide +kernel
theorem d_Reckoner_quotient_63 : decode prog_9_method_2_code 63 = .ok (.ldc2_w 30, 3) := by decide +kernel
theorem u_1184 : Cond.constantLong "FilterGuard$Reckoner" 30 (-9223372036854775808) ∈ fg_g := fg_in (List.mem_of_getElem? (i := 1184) (by decide +kernel)) rfl
theorem d_Reckoner_quotient_66 : decode prog_9_method_2_code 66 = .ok (.lxor, 1) := by decide +kernel
theorem d_Reckoner_quotient_67 : decode prog_9_method_2_code 67 = .ok (.lload_n 2, 1) := by decide +kernel
theorem d_Reckoner_quotient_68 : decode prog_9_method_2_code 68 = .ok (.ldc2_w 30, 3) := by decide +kernel
theorem d_Reckoner_quotient_71 : decode prog_9_method_2_code 71 = .ok (.lxor, 1) := by decide +kernel
theorem d_Reckoner_quotient_72 : decode prog_9_method_2_code 72 = .ok (.lcmp, 1) := by decide +kernel
theorem d_Reckoner_quotient_73 : decode prog_9_method_2_code 73 = .ok (.ifCond .ge 8, 3) := by decide +kernel
theorem d_Reckoner_quotient_81 : decode prog_9_method_2_code 81 = .ok (.lload 4, 2) := by decide +kernel
theorem d_Reckoner_quotient_83 : decode prog_9_method_2_code 83 = .ok (.lconst 1, 1) := by decide +kernel
theorem d_Reckoner_quotient_84 : decode prog_9_method_2_code 84 = .ok (.ladd, 1) := by decide +kernel
theorem d_Reckoner_quotient_85 : decode prog_9_method_2_code 85 = .ok (.lreturn, 1) := by decide +kernel
theorem d_Reckoner_quotient_76 : decode prog_9_method_2_code 76 = .ok (.lload 4, 2) := by decide +kernel
theorem d_Reckoner_quotient_78 : decode prog_9_method_2_code 78 = .ok (.goto 7, 3) := by decide +kernel
theorem d_Reckoner_quotient_40 : decode prog_9_method_2_code 40 = .ok (.lload_n 0, 1) := by decide +kernel
theorem d_Reckoner_quotient_41 : decode prog_9_method_2_code 41 = .ok (.lload_n 2, 1) := by decide +kernel
theorem d_Reckoner_quotient_42 : decode prog_9_method_2_code 42 = .ok (.ldiv, 1) := by decide +kernel
theorem d_Reckoner_quotient_43 : decode prog_9_method_2_code 43 = .ok (.lreturn, 1) := by decide +kernel
theorem d_Reckoner_quotient_14 : decode prog_9_method_2_code 14 = .ok (.lload_n 0, 1) := by decide +kernel
theorem d_Reckoner_quotient_15 : decode prog_9_method_2_code 15 = .ok (.ldc2_w 30, 3) := by decide +kernel
theorem d_Reckoner_quotient_18 : decode prog_9_method_2_code 18 = .ok (.lxor, 1) := by decide +kernel
theorem d_Reckoner_quotient_19 : decode prog_9_method_2_code 19 = .ok (.lload_n 2, 1) := by decide +kernel
theorem d_Reckoner_quotient_20 : decode prog_9_method_2_code 20 = .ok (.ldc2_w 30, 3) := by decide +kernel
theorem d_Reckoner_quotient_23 : decode prog_9_method_2_code 23 = .ok (.lxor, 1) := by decide +kernel
theorem d_Reckoner_quotient_24 : decode prog_9_method_2_code 24 = .ok (.lcmp, 1) := by decide +kernel
theorem d_Reckoner_quotient_25 : decode prog_9_method_2_code 25 = .ok (.ifCond .ge 7, 3) := by decide +kernel
theorem d_Reckoner_quotient_32 : decode prog_9_method_2_code 32 = .ok (.lconst 1, 1) := by decide +kernel
theorem d_Reckoner_quotient_33 : decode prog_9_method_2_code 33 = .ok (.lreturn, 1) := by decide +kernel
theorem d_Reckoner_quotient_28 : decode prog_9_method_2_code 28 = .ok (.lconst 0, 1) := by decide +kernel
theorem d_Reckoner_quotient_29 : decode prog_9_method_2_code 29 = .ok (.goto 4, 3) := by decide +kernel
theorem d_Reckoner_quotient_6 : decode prog_9_method_2_code 6 = .ok (.lconst 0, 1) := by decide +kernel
theorem d_Reckoner_quotient_7 : decode prog_9_method_2_code 7 = .ok (.lreturn, 1) := by decide +kernel
abbrev y_Reckoner_quotient : MethodName := ⟨"FilterGuard$Reckoner", "quotient", "(JJ)J"⟩
def f_Reckoner_quotient (x0 : Int64) (x2 : Int64) : Option Int64 := (if x2 = 0 then some (0 : Int64) else (if x2 < 0 then (if (x0 ^^^ (-9223372036854775808)) < (x2 ^^^ (-9223372036854775808)) then some (0 : Int64) else some (1 : Int64)) else (if x0 < 0 then gd (x2 ≠ 0) (st (jlshl ((jlushr x0 (1 : Int32)) / x2) (1 : Int32)) (fun (v5 : Int64) => st (x0 - (v5 * x2)) (fun (v6 : Int64) => (if (v6 ^^^ (-9223372036854775808)) < (x2 ^^^ (-9223372036854775808)) then some v5 else some (v5 + 1))))) else gd (x2 ≠ 0) (some (x0 / x2)))))
def rm_Reckoner_quotient : Room := { frames := 1, cells := 0, slots := 0, locals := 20 }
abbrev q_Reckoner_quotient (D : va_G) (RZ : Int64) (A : Nat → Prop) : Array Value → Jvm.State → Outcome → Jvm.State → Prop := va_Ql (fun r (_ : Unit) => r = RZ ∧ True) (fg_B D A (fun _ => []) (fun _ => [])) A
set_option maxHeartbeats 4000000 in
set_option maxRecDepth 100000 in
theorem c_Reckoner_quotient (l : Launch) (D : va_G) (RZ : Int64) (x0 : Int64) (x2 : Int64) (h : f_Reckoner_quotient x0 x2 = (some RZ)) (sz : Nat) : Met l y_Reckoner_quotient (fg_w y_Reckoner_quotient prog_9_method_2_code 8 (some .long)) rm_Reckoner_quotient (va_Pc [.long x0, .long x2] (fg_P D [] [] sz)) (q_Reckoner_quotient D RZ (va_A [] sz)) rm_Reckoner_quotient.cells rm_Reckoner_quotient.slots (va_A [] sz) := by
  refine fg_enter (fun A => q_Reckoner_quotient D RZ A) (by decide +kernel) (Nat.le_of_ble_eq_true rfl) ?_
  intro p e s m below meth c ls A hx hb hml hown hts hr hlocks hin hP hK hD hS hA hX hl
  have hl : lv_has ls 8 [(0, .long x0), (2, .long x2)] := hl
  unfold f_Reckoner_quotient at h
  refine lv_lload_n hx hb d_Reckoner_quotient_0 rfl (lv_at hl 1 rfl) ?_
  refine lv_lconst (v := 0) hx hb d_Reckoner_quotient_1 (by decide) ?_
  refine W.lcmp hx hb d_Reckoner_quotient_2 ?_
  refine lv_if_ne (tgt := 8) hx hb d_Reckoner_quotient_3 (by decide) (fun c1 => ?_) (fun c1 => ?_)
  · have h := if_f (fun z => c1 ((lg_cmp_eq _ _).mpr z)) h
    refine lv_lload_n hx hb d_Reckoner_quotient_8 rfl (lv_at hl 1 rfl) ?_
    refine lv_lconst (v := 0) hx hb d_Reckoner_quotient_9 (by decide) ?_
    refine W.lcmp hx hb d_Reckoner_quotient_10 ?_
    refine lv_if_ge (tgt := 34) hx hb d_Reckoner_quotient_11 (by decide) (fun c2 => ?_) (fun c2 => ?_)
    · have h := if_f (Int64.not_lt.mpr ((lg_cmp_ge _ _).mp c2)) h
      refine lv_lload_n hx hb d_Reckoner_quotient_34 rfl (lv_at hl 0 rfl) ?_
      refine lv_lconst (v := 0) hx hb d_Reckoner_quotient_35 (by decide) ?_
      refine W.lcmp hx hb d_Reckoner_quotient_36 ?_
      refine lv_if_lt (tgt := 44) hx hb d_Reckoner_quotient_37 (by decide) (fun c3 => ?_) (fun c3 => ?_)
      · have h := if_t ((lg_cmp_lt _ _).mp c3) h
        refine lv_lload_n hx hb d_Reckoner_quotient_44 rfl (lv_at hl 0 rfl) ?_
        refine lv_iconst (v := 1) hx hb d_Reckoner_quotient_45 (by decide) ?_
        refine lv_lushr (v := jlushr x0 (1 : Int32)) hx hb d_Reckoner_quotient_46 rfl ?_
        refine lv_lload_n hx hb d_Reckoner_quotient_47 rfl (lv_at hl 1 rfl) ?_
        obtain ⟨g4, h⟩ := gd_ob h
        refine lv_ldiv hx hb d_Reckoner_quotient_48 g4 ?_
        refine lv_iconst (v := 1) hx hb d_Reckoner_quotient_49 (by decide) ?_
        refine lv_lshl (v := jlshl ((jlushr x0 (1 : Int32)) / x2) (1 : Int32)) hx hb d_Reckoner_quotient_50 rfl ?_
        obtain ⟨v5, ev5, h⟩ := st_ob h
        refine fg_topl (y := v5) ev5.symm ?_
        refine lv_lstore (lv' := [(4, .long v5), (0, .long x0), (2, .long x2)]) hx hb d_Reckoner_quotient_51 hl (by decide) rfl (fun ls hl => ?_)
        refine lv_lload_n hx hb d_Reckoner_quotient_53 rfl (lv_at hl 1 rfl) ?_
        refine lv_lload hx hb d_Reckoner_quotient_54 (lv_at hl 0 rfl) ?_
        refine lv_lload_n hx hb d_Reckoner_quotient_56 rfl (lv_at hl 2 rfl) ?_
        refine lv_lmul hx hb d_Reckoner_quotient_57 ?_
        refine lv_lsub hx hb d_Reckoner_quotient_58 ?_
        obtain ⟨v6, ev6, h⟩ := st_ob h
        refine fg_topl (y := v6) ev6.symm ?_
        refine lv_lstore (lv' := [(6, .long v6), (4, .long v5), (0, .long x0), (2, .long x2)]) hx hb d_Reckoner_quotient_59 hl (by decide) rfl (fun ls hl => ?_)
        refine lv_lload hx hb d_Reckoner_quotient_61 (lv_at hl 0 rfl) ?_
        refine lv_ldc2 hx hb hown (hts _ u_1184) d_Reckoner_quotient_63 ?_
        refine lv_lxor hx hb d_Reckoner_quotient_66 ?_
        refine lv_lload_n hx hb d_Reckoner_quotient_67 rfl (lv_at hl 3 rfl) ?_
        refine lv_ldc2 hx hb hown (hts _ u_1184) d_Reckoner_quotient_68 ?_
        refine lv_lxor hx hb d_Reckoner_quotient_71 ?_
        refine W.lcmp hx hb d_Reckoner_quotient_72 ?_
        refine lv_if_ge (tgt := 81) hx hb d_Reckoner_quotient_73 (by decide) (fun c7 => ?_) (fun c7 => ?_)
        · have h := if_f (Int64.not_lt.mpr ((lg_cmp_ge _ _).mp c7)) h
          refine lv_lload hx hb d_Reckoner_quotient_81 (lv_at hl 1 rfl) ?_
          refine lv_lconst (v := 1) hx hb d_Reckoner_quotient_83 (by decide) ?_
          refine lv_ladd hx hb d_Reckoner_quotient_84 ?_
          exact me_pretl h hx hb hr hlocks hK hS d_Reckoner_quotient_85
        have h := if_t (Int64.not_le.mp (fun z => c7 ((lg_cmp_ge _ _).mpr z))) h
        refine lv_lload hx hb d_Reckoner_quotient_76 (lv_at hl 1 rfl) ?_
        refine lv_goto (tgt := 85) hx hb d_Reckoner_quotient_78 (by decide) ?_
        exact me_pretl h hx hb hr hlocks hK hS d_Reckoner_quotient_85
      have h := if_f (fun z => c3 ((lg_cmp_lt _ _).mpr z)) h
      refine lv_lload_n hx hb d_Reckoner_quotient_40 rfl (lv_at hl 0 rfl) ?_
      refine lv_lload_n hx hb d_Reckoner_quotient_41 rfl (lv_at hl 1 rfl) ?_
      obtain ⟨g8, h⟩ := gd_ob h
      refine lv_ldiv hx hb d_Reckoner_quotient_42 g8 ?_
      exact me_pretl h hx hb hr hlocks hK hS d_Reckoner_quotient_43
    have h := if_t (Int64.not_le.mp (fun z => c2 ((lg_cmp_ge _ _).mpr z))) h
    refine lv_lload_n hx hb d_Reckoner_quotient_14 rfl (lv_at hl 0 rfl) ?_
    refine lv_ldc2 hx hb hown (hts _ u_1184) d_Reckoner_quotient_15 ?_
    refine lv_lxor hx hb d_Reckoner_quotient_18 ?_
    refine lv_lload_n hx hb d_Reckoner_quotient_19 rfl (lv_at hl 1 rfl) ?_
    refine lv_ldc2 hx hb hown (hts _ u_1184) d_Reckoner_quotient_20 ?_
    refine lv_lxor hx hb d_Reckoner_quotient_23 ?_
    refine W.lcmp hx hb d_Reckoner_quotient_24 ?_
    refine lv_if_ge (tgt := 32) hx hb d_Reckoner_quotient_25 (by decide) (fun c9 => ?_) (fun c9 => ?_)
    · have h := if_f (Int64.not_lt.mpr ((lg_cmp_ge _ _).mp c9)) h
      refine lv_lconst (v := 1) hx hb d_Reckoner_quotient_32 (by decide) ?_
      exact me_pretl h hx hb hr hlocks hK hS d_Reckoner_quotient_33
    have h := if_t (Int64.not_le.mp (fun z => c9 ((lg_cmp_ge _ _).mpr z))) h
    refine lv_lconst (v := 0) hx hb d_Reckoner_quotient_28 (by decide) ?_
    refine lv_goto (tgt := 33) hx hb d_Reckoner_quotient_29 (by decide) ?_
    exact me_pretl h hx hb hr hlocks hK hS d_Reckoner_quotient_33
  have h := if_t ((lg_cmp_eq _ _).mp c1) h
  refine lv_lconst (v := 0) hx hb d_Reckoner_quotient_6 (by decide) ?_
  exact me_pretl h hx hb hr hlocks hK hS d_Reckoner_quotient_7
theorem d_Reckoner_divide_0 : decode prog_9_method_10_code 0 = .ok (.aload_n 2, 1) := by decide +kernel
theorem d_Reckoner_divide_1 : decode prog_9_method_10_code 1 = .ok (.getfield 49, 3) := by decide +kernel
theorem d_Reckoner_divide_4 : decode prog_9_method_10_code 4 = .ok (.lstore_n 3, 1) := by decide +kernel
theorem d_Reckoner_divide_5 : decode prog_9_method_10_code 5 = .ok (.aload_n 2, 1) := by decide +kernel
theorem d_Reckoner_divide_6 : decode prog_9_method_10_code 6 = .ok (.invokevirtual 45, 3) := by decide +kernel
theorem d_Reckoner_divide_9 : decode prog_9_method_10_code 9 = .ok (.ifCond .ne 18, 3) := by decide +kernel
theorem d_Reckoner_divide_27 : decode prog_9_method_10_code 27 = .ok (.lload_n 3, 1) := by decide +kernel
theorem d_Reckoner_divide_28 : decode prog_9_method_10_code 28 = .ok (.lconst 0, 1) := by decide +kernel
theorem d_Reckoner_divide_29 : decode prog_9_method_10_code 29 = .ok (.lcmp, 1) := by decide +kernel
theorem d_Reckoner_divide_30 : decode prog_9_method_10_code 30 = .ok (.ifCond .ne 14, 3) := by decide +kernel
theorem d_Reckoner_divide_44 : decode prog_9_method_10_code 44 = .ok (.aload_n 0, 1) := by decide +kernel
theorem d_Reckoner_divide_45 : decode prog_9_method_10_code 45 = .ok (.getfield 21, 3) := by decide +kernel
theorem d_Reckoner_divide_48 : decode prog_9_method_10_code 48 = .ok (.aload_n 1, 1) := by decide +kernel
theorem d_Reckoner_divide_49 : decode prog_9_method_10_code 49 = .ok (.getfield 96, 3) := by decide +kernel
theorem d_Reckoner_divide_52 : decode prog_9_method_10_code 52 = .ok (.lload_n 3, 1) := by decide +kernel
theorem d_Reckoner_divide_53 : decode prog_9_method_10_code 53 = .ok (.invokestatic 142, 3) := by decide +kernel
theorem u_1181 : Cond.methodLink "FilterGuard$Reckoner" 142 ⟨"FilterGuard$Reckoner", "quotient", "(JJ)J"⟩ ∈ fg_g := fg_in (List.mem_of_getElem? (i := 1181) (by decide +kernel)) rfl
theorem u_1183 : Cond.code ⟨"FilterGuard$Reckoner", "quotient", "(JJ)J"⟩ prog_9_method_2_code 8 (some .long) ∈ fg_g := fg_in (List.mem_of_getElem? (i := 1183) (by decide +kernel)) rfl
theorem u_1182 : Cond.static ⟨"FilterGuard$Reckoner", "quotient", "(JJ)J"⟩ ∈ fg_g := fg_in (List.mem_of_getElem? (i := 1182) (by decide +kernel)) rfl
theorem d_Reckoner_divide_56 : decode prog_9_method_10_code 56 = .ok (.aload_n 1, 1) := by decide +kernel
theorem d_Reckoner_divide_57 : decode prog_9_method_10_code 57 = .ok (.getfield 122, 3) := by decide +kernel
theorem d_Reckoner_divide_60 : decode prog_9_method_10_code 60 = .ok (.lload_n 3, 1) := by decide +kernel
theorem d_Reckoner_divide_61 : decode prog_9_method_10_code 61 = .ok (.invokestatic 142, 3) := by decide +kernel
theorem d_Reckoner_divide_64 : decode prog_9_method_10_code 64 = .ok (.invokevirtual 125, 3) := by decide +kernel
theorem d_Reckoner_divide_67 : decode prog_9_method_10_code 67 = .ok (.return_, 1) := by decide +kernel
theorem d_Reckoner_divide_33 : decode prog_9_method_10_code 33 = .ok (.aload_n 0, 1) := by decide +kernel
theorem d_Reckoner_divide_34 : decode prog_9_method_10_code 34 = .ok (.getfield 21, 3) := by decide +kernel
theorem d_Reckoner_divide_37 : decode prog_9_method_10_code 37 = .ok (.lconst 0, 1) := by decide +kernel
theorem d_Reckoner_divide_38 : decode prog_9_method_10_code 38 = .ok (.invokevirtual 55, 3) := by decide +kernel
theorem d_Reckoner_divide_41 : decode prog_9_method_10_code 41 = .ok (.goto 26, 3) := by decide +kernel
theorem d_Reckoner_divide_12 : decode prog_9_method_10_code 12 = .ok (.aload_n 0, 1) := by decide +kernel
theorem d_Reckoner_divide_13 : decode prog_9_method_10_code 13 = .ok (.getfield 21, 3) := by decide +kernel
theorem d_Reckoner_divide_16 : decode prog_9_method_10_code 16 = .ok (.lconst 0, 1) := by decide +kernel
theorem d_Reckoner_divide_17 : decode prog_9_method_10_code 17 = .ok (.aload_n 1, 1) := by decide +kernel
theorem d_Reckoner_divide_18 : decode prog_9_method_10_code 18 = .ok (.getfield 122, 3) := by decide +kernel
theorem d_Reckoner_divide_21 : decode prog_9_method_10_code 21 = .ok (.invokevirtual 125, 3) := by decide +kernel
theorem d_Reckoner_divide_24 : decode prog_9_method_10_code 24 = .ok (.goto 43, 3) := by decide +kernel
abbrev y_Reckoner_divide : MethodName := ⟨"FilterGuard$Reckoner", "divide", "(LFilterGuard$Num;LFilterGuard$Num;)V"⟩
def f_Reckoner_divide (M0 : me_M) (j0 : Nat) (j1 : Nat) (j2 : Nat) : Option me_M := st (mL M0 11 j2 0) (fun (v1 : Int64) => b2 (f_Num_isExact0 M0 j2) (fun (M2 : me_M) (r3 : Int32) => (if r3 = 0 then bd (mR M0 8 j0 2) (fun (j14 : Nat) => bd (f_Num_range M2 j14 (0 : Int64) (mL M2 11 j1 3)) (fun (M16 : me_M) => some M16)) else (if v1 = 0 then bd (mR M0 8 j0 2) (fun (j11 : Nat) => bd (f_Num_exact M2 j11 (0 : Int64)) (fun (M13 : me_M) => some M13)) else bd (mR M0 8 j0 2) (fun (j6 : Nat) => bd (f_Reckoner_quotient (mL M2 11 j1 2) v1) (fun (r8 : Int64) => bd (f_Reckoner_quotient (mL M2 11 j1 3) v1) (fun (r9 : Int64) => bd (f_Num_range M2 j6 r8 r9) (fun (M10 : me_M) => some M10))))))))
def rm_Reckoner_divide : Room := { frames := 2, cells := 0, slots := 0, locals := 47 }
abbrev q_Reckoner_divide (D : va_G) (ad : Nat → Nat → Nat) (ca : Nat → ClassId) (N : Nat → Nat) (M0 MZ : me_M) (A : Nat → Prop) : Array Value → Jvm.State → Outcome → Jvm.State → Prop := va_Qv (fun (_ : Unit) => me_wf N MZ ∧ me_kp M0 MZ) (fg_B D A (fun _ => me_W ad ca MZ) (fun _ => [])) A
set_option maxHeartbeats 4000000 in
set_option maxRecDepth 100000 in
theorem c_Reckoner_divide (l : Launch) (D : va_G) (ad : Nat → Nat → Nat) (ca : Nat → ClassId) (N : Nat → Nat) (M0 MZ : me_M) (j0 : Nat) (j1 : Nat) (j2 : Nat) (h : f_Reckoner_divide M0 j0 j1 j2 = (some MZ)) (hwf : me_wf N M0) (hj0 : j0 < N 8) (hj1 : j1 < N 11) (hj2 : j2 < N 11) (sz : Nat) : Met l y_Reckoner_divide (fg_w y_Reckoner_divide prog_9_method_10_code 5 none) rm_Reckoner_divide (va_Pc [.ref (ad 8 j0), .ref (ad 11 j1), .ref (ad 11 j2)] (fz_P D (me_T ca) (me_W ad ca M0) sz)) (q_Reckoner_divide D ad ca N M0 MZ (va_A (me_W ad ca M0) sz)) rm_Reckoner_divide.cells rm_Reckoner_divide.slots (va_A (me_W ad ca M0) sz) := by
  refine fz_enter (fun A => q_Reckoner_divide D ad ca N M0 MZ A) (by decide +kernel) (Nat.le_of_ble_eq_true rfl) ?_
  intro p e s m below meth c ls A hx hb hml hown hts hr hlocks hin hP hK hD hS hA hX hl hz
  have hl : lv_has ls 5 [(0, .ref (ad 8 j0)), (1, .ref (ad 11 j1)), (2, .ref (ad 11 j2))] := hl
  unfold f_Reckoner_divide at h
  have hkp : me_kp M0 M0 := me_kp.rf
  have hkb := hkp
  refine lv_aload_n hx hb d_Reckoner_divide_0 rfl (lv_at hl 2 rfl) ?_
  refine g_Num_0 hx hb hts hown hK hP hwf hj2 (hts _ u_368) d_Reckoner_divide_1 ?_
  obtain ⟨v1, ev1, h⟩ := st_ob h
  refine fg_topl (y := v1) ev1.symm ?_
  refine lv_lstore_n (lv' := [(3, .long v1), (0, .ref (ad 8 j0)), (1, .ref (ad 11 j1)), (2, .ref (ad 11 j2))]) hx hb d_Reckoner_divide_4 rfl hl (by decide) rfl (fun ls hl => ?_)
  refine lv_aload_n hx hb d_Reckoner_divide_5 rfl (lv_at hl 3 rfl) ?_
  obtain ⟨M2, r3, eM2, h⟩ := b2_ob h
  refine me_theni0 (M1 := M2) (me_runV (C := "FilterGuard$Num") (As := []) (rest := []) ⟨hx, hb, hml, hown, hts⟩ (c_Num_isExact0 l D ad ca N M0 M2 r3 j2 eM2 hwf hj2 _) rfl (by show fg_nm y_Num_isExact0 0; decide +kernel) u_1157 u_1158 u_1159 u_187 u_1160 ⟨Nat.le_of_ble_eq_true rfl, Nat.le_of_ble_eq_true rfl⟩ hX hz hK hP hD hwf hS hA hj2 (by decide) rfl rfl rfl hl.1 (Nat.le_of_ble_eq_true rfl) d_Reckoner_divide_6 ⟨Nat.le_of_ble_eq_true rfl, Nat.le_of_ble_eq_true rfl⟩) hP hD hK hS hA rfl rfl (fun H locs hw hP hD hS => ?_)
  obtain ⟨hwf, hk9, zr3⟩ := hw
  have hkp := hkp.tr hk9
  refine lv_if_ne (tgt := 27) hx hb d_Reckoner_divide_9 (by decide) (fun c4 => ?_) (fun c4 => ?_)
  · have h := if_f c4 h
    refine lv_lload_n hx hb d_Reckoner_divide_27 rfl (lv_at hl 0 rfl) ?_
    refine lv_lconst (v := 0) hx hb d_Reckoner_divide_28 (by decide) ?_
    refine W.lcmp hx hb d_Reckoner_divide_29 ?_
    refine lv_if_ne (tgt := 44) hx hb d_Reckoner_divide_30 (by decide) (fun c5 => ?_) (fun c5 => ?_)
    · have h := if_f (fun z => c5 ((lg_cmp_eq _ _).mpr z)) h
      refine lv_aload_n hx hb d_Reckoner_divide_44 rfl (lv_at hl 1 rfl) ?_
      refine g_Reckoner_2 hx hb hts hown hK hP hwf hj0 (hts _ u_398) d_Reckoner_divide_45 ?_
      obtain ⟨j6, e7, h⟩ := bd_ob h
      have hj6 : j6 < N 11 := (hwf.2.1 8 j0 2 _ (kp_r hkb hkp e7) (by decide) hj0)
      refine me_opt (j := j6) (kp_r hkb hkp e7) ?_
      refine lv_aload_n hx hb d_Reckoner_divide_48 rfl (lv_at hl 2 rfl) ?_
      refine g_Num_2 hx hb hts hown hK hP hwf hj1 (hts _ u_374) d_Reckoner_divide_49 ?_
      refine lv_lload_n hx hb d_Reckoner_divide_52 rfl (lv_at hl 0 rfl) ?_
      obtain ⟨r8, er8, h⟩ := bd_ob h
      refine me_panl' (r0 := r8) (fg_runS (wc := []) (tc := []) (A2 := A) (As := [.long (mL M2 11 j1 2), .long v1]) (rest := [.ref (ad 11 j6)]) ⟨hx, hb, hml, hown, hts⟩ (c_Reckoner_quotient l D r8 (mL M2 11 j1 2) v1 er8 _) (by show fg_nm y_Reckoner_quotient 2; decide +kernel) u_1181 u_1182 u_186 u_1183 ⟨Nat.le_of_ble_eq_true rfl, Nat.le_of_ble_eq_true rfl⟩ hX me_P0 (hK.sub (tys' := []) [] rfl) me_D0 rfl hl.1 (Nat.le_of_ble_eq_true rfl) d_Reckoner_divide_53 ⟨Nat.le_of_ble_eq_true rfl, Nat.le_of_ble_eq_true rfl⟩) hP hD hK hS hA rfl rfl (fun H locs hw hP hD hS => ?_)
      refine lv_aload_n hx hb d_Reckoner_divide_56 rfl (lv_at hl 2 rfl) ?_
      refine g_Num_3 hx hb hts hown hK hP hwf hj1 (hts _ u_377) d_Reckoner_divide_57 ?_
      refine lv_lload_n hx hb d_Reckoner_divide_60 rfl (lv_at hl 0 rfl) ?_
      obtain ⟨r9, er9, h⟩ := bd_ob h
      refine me_panl' (r0 := r9) (fg_runS (wc := []) (tc := []) (A2 := A) (As := [.long (mL M2 11 j1 3), .long v1]) (rest := [.long r8, .ref (ad 11 j6)]) ⟨hx, hb, hml, hown, hts⟩ (c_Reckoner_quotient l D r9 (mL M2 11 j1 3) v1 er9 _) (by show fg_nm y_Reckoner_quotient 2; decide +kernel) u_1181 u_1182 u_186 u_1183 ⟨Nat.le_of_ble_eq_true rfl, Nat.le_of_ble_eq_true rfl⟩ hX me_P0 (hK.sub (tys' := []) [] rfl) me_D0 rfl hl.1 (Nat.le_of_ble_eq_true rfl) d_Reckoner_divide_61 ⟨Nat.le_of_ble_eq_true rfl, Nat.le_of_ble_eq_true rfl⟩) hP hD hK hS hA rfl rfl (fun H locs hw hP hD hS => ?_)
      obtain ⟨M10, eM10, h⟩ := bd_ob h
      refine me_thenv0 (M1 := M10) (me_runV (C := "FilterGuard$Num") (As := [.long r8, .long r9]) (rest := []) ⟨hx, hb, hml, hown, hts⟩ (c_Num_range l D ad ca N M2 M10 j6 r8 r9 eM10 hwf hj6 _) rfl (by show fg_nm y_Num_range 2; decide +kernel) u_1145 u_1146 u_1147 u_187 u_1148 ⟨Nat.le_of_ble_eq_true rfl, Nat.le_of_ble_eq_true rfl⟩ hX hz hK hP hD hwf hS hA hj6 (by decide) rfl rfl rfl hl.1 (Nat.le_of_ble_eq_true rfl) d_Reckoner_divide_64 ⟨Nat.le_of_ble_eq_true rfl, Nat.le_of_ble_eq_true rfl⟩) hP hD hK hS hA rfl rfl (fun H locs hw hP hD hS => ?_)
      obtain ⟨hwf, hk9⟩ := hw
      have hkp := hkp.tr hk9
      exact me_retv (me_kp M0) h hx hb hr hlocks hwf hkp hP hK hD hS d_Reckoner_divide_67
    have h := if_t ((lg_cmp_eq _ _).mp c5) h
    refine lv_aload_n hx hb d_Reckoner_divide_33 rfl (lv_at hl 1 rfl) ?_
    refine g_Reckoner_2 hx hb hts hown hK hP hwf hj0 (hts _ u_398) d_Reckoner_divide_34 ?_
    obtain ⟨j11, e12, h⟩ := bd_ob h
    have hj11 : j11 < N 11 := (hwf.2.1 8 j0 2 _ (kp_r hkb hkp e12) (by decide) hj0)
    refine me_opt (j := j11) (kp_r hkb hkp e12) ?_
    refine lv_lconst (v := 0) hx hb d_Reckoner_divide_37 (by decide) ?_
    obtain ⟨M13, eM13, h⟩ := bd_ob h
    refine me_thenv0 (M1 := M13) (me_runV (C := "FilterGuard$Num") (As := [.long 0]) (rest := []) ⟨hx, hb, hml, hown, hts⟩ (c_Num_exact l D ad ca N M2 M13 j11 (0 : Int64) eM13 hwf hj11 _) rfl (by show fg_nm y_Num_exact 1; decide +kernel) u_1161 u_1037 u_1038 u_187 u_1039 ⟨Nat.le_of_ble_eq_true rfl, Nat.le_of_ble_eq_true rfl⟩ hX hz hK hP hD hwf hS hA hj11 (by decide) rfl rfl rfl hl.1 (Nat.le_of_ble_eq_true rfl) d_Reckoner_divide_38 ⟨Nat.le_of_ble_eq_true rfl, Nat.le_of_ble_eq_true rfl⟩) hP hD hK hS hA rfl rfl (fun H locs hw hP hD hS => ?_)
    obtain ⟨hwf, hk9⟩ := hw
    have hkp := hkp.tr hk9
    refine lv_goto (tgt := 67) hx hb d_Reckoner_divide_41 (by decide) ?_
    exact me_retv (me_kp M0) h hx hb hr hlocks hwf hkp hP hK hD hS d_Reckoner_divide_67
  have h := if_t c4 h
  refine lv_aload_n hx hb d_Reckoner_divide_12 rfl (lv_at hl 1 rfl) ?_
  refine g_Reckoner_2 hx hb hts hown hK hP hwf hj0 (hts _ u_398) d_Reckoner_divide_13 ?_
  obtain ⟨j14, e15, h⟩ := bd_ob h
  have hj14 : j14 < N 11 := (hwf.2.1 8 j0 2 _ (kp_r hkb hkp e15) (by decide) hj0)
  refine me_opt (j := j14) (kp_r hkb hkp e15) ?_
  refine lv_lconst (v := 0) hx hb d_Reckoner_divide_16 (by decide) ?_
  refine lv_aload_n hx hb d_Reckoner_divide_17 rfl (lv_at hl 2 rfl) ?_
  refine g_Num_3 hx hb hts hown hK hP hwf hj1 (hts _ u_377) d_Reckoner_divide_18 ?_
  obtain ⟨M16, eM16, h⟩ := bd_ob h
  refine me_thenv0 (M1 := M16) (me_runV (C := "FilterGuard$Num") (As := [.long 0, .long (mL M2 11 j1 3)]) (rest := []) ⟨hx, hb, hml, hown, hts⟩ (c_Num_range l D ad ca N M2 M16 j14 (0 : Int64) (mL M2 11 j1 3) eM16 hwf hj14 _) rfl (by show fg_nm y_Num_range 2; decide +kernel) u_1145 u_1146 u_1147 u_187 u_1148 ⟨Nat.le_of_ble_eq_true rfl, Nat.le_of_ble_eq_true rfl⟩ hX hz hK hP hD hwf hS hA hj14 (by decide) rfl rfl rfl hl.1 (Nat.le_of_ble_eq_true rfl) d_Reckoner_divide_21 ⟨Nat.le_of_ble_eq_true rfl, Nat.le_of_ble_eq_true rfl⟩) hP hD hK hS hA rfl rfl (fun H locs hw hP hD hS => ?_)
  obtain ⟨hwf, hk9⟩ := hw
  have hkp := hkp.tr hk9
  refine lv_goto (tgt := 67) hx hb d_Reckoner_divide_24 (by decide) ?_
  exact me_retv (me_kp M0) h hx hb hr hlocks hwf hkp hP hK hD hS d_Reckoner_divide_67
theorem d_Reckoner_rest_0 : decode prog_9_method_11_code 0 = .ok (.aload_n 2, 1) := by decide +kernel
theorem d_Reckoner_rest_1 : decode prog_9_method_11_code 1 = .ok (.invokevirtual 45, 3) := by decide +kernel
theorem d_Reckoner_rest_4 : decode prog_9_method_11_code 4 = .ok (.ifCond .ne 18, 3) := by decide +kernel
theorem d_Reckoner_rest_22 : decode prog_9_method_11_code 22 = .ok (.aload_n 2, 1) := by decide +kernel
theorem d_Reckoner_rest_23 : decode prog_9_method_11_code 23 = .ok (.getfield 49, 3) := by decide +kernel
theorem d_Reckoner_rest_26 : decode prog_9_method_11_code 26 = .ok (.lconst 0, 1) := by decide +kernel
theorem d_Reckoner_rest_27 : decode prog_9_method_11_code 27 = .ok (.lcmp, 1) := by decide +kernel
theorem d_Reckoner_rest_28 : decode prog_9_method_11_code 28 = .ok (.ifCond .eq 17, 3) := by decide +kernel
theorem d_Reckoner_rest_45 : decode prog_9_method_11_code 45 = .ok (.aload_n 0, 1) := by decide +kernel
theorem d_Reckoner_rest_46 : decode prog_9_method_11_code 46 = .ok (.getfield 21, 3) := by decide +kernel
theorem d_Reckoner_rest_49 : decode prog_9_method_11_code 49 = .ok (.aload_n 1, 1) := by decide +kernel
theorem d_Reckoner_rest_50 : decode prog_9_method_11_code 50 = .ok (.invokevirtual 38, 3) := by decide +kernel
theorem u_1189 : Cond.methodLink "FilterGuard$Reckoner" 38 ⟨"FilterGuard$Num", "copy", "(LFilterGuard$Num;)V"⟩ ∈ fg_g := fg_in (List.mem_of_getElem? (i := 1189) (by decide +kernel)) rfl
theorem d_Reckoner_rest_53 : decode prog_9_method_11_code 53 = .ok (.goto 17, 3) := by decide +kernel
theorem d_Reckoner_rest_70 : decode prog_9_method_11_code 70 = .ok (.return_, 1) := by decide +kernel
theorem d_Reckoner_rest_31 : decode prog_9_method_11_code 31 = .ok (.aload_n 1, 1) := by decide +kernel
theorem d_Reckoner_rest_32 : decode prog_9_method_11_code 32 = .ok (.getfield 122, 3) := by decide +kernel
theorem d_Reckoner_rest_35 : decode prog_9_method_11_code 35 = .ok (.aload_n 2, 1) := by decide +kernel
theorem d_Reckoner_rest_36 : decode prog_9_method_11_code 36 = .ok (.getfield 49, 3) := by decide +kernel
theorem d_Reckoner_rest_39 : decode prog_9_method_11_code 39 = .ok (.invokestatic 134, 3) := by decide +kernel
theorem d_Reckoner_rest_42 : decode prog_9_method_11_code 42 = .ok (.ifCond .eq 14, 3) := by decide +kernel
theorem d_Reckoner_rest_56 : decode prog_9_method_11_code 56 = .ok (.aload_n 0, 1) := by decide +kernel
theorem d_Reckoner_rest_57 : decode prog_9_method_11_code 57 = .ok (.getfield 21, 3) := by decide +kernel
theorem d_Reckoner_rest_60 : decode prog_9_method_11_code 60 = .ok (.lconst 0, 1) := by decide +kernel
theorem d_Reckoner_rest_61 : decode prog_9_method_11_code 61 = .ok (.aload_n 2, 1) := by decide +kernel
theorem d_Reckoner_rest_62 : decode prog_9_method_11_code 62 = .ok (.getfield 49, 3) := by decide +kernel
theorem d_Reckoner_rest_65 : decode prog_9_method_11_code 65 = .ok (.lconst 1, 1) := by decide +kernel
theorem d_Reckoner_rest_66 : decode prog_9_method_11_code 66 = .ok (.lsub, 1) := by decide +kernel
theorem d_Reckoner_rest_67 : decode prog_9_method_11_code 67 = .ok (.invokevirtual 125, 3) := by decide +kernel
theorem d_Reckoner_rest_7 : decode prog_9_method_11_code 7 = .ok (.aload_n 0, 1) := by decide +kernel
theorem d_Reckoner_rest_8 : decode prog_9_method_11_code 8 = .ok (.getfield 21, 3) := by decide +kernel
theorem d_Reckoner_rest_11 : decode prog_9_method_11_code 11 = .ok (.lconst 0, 1) := by decide +kernel
theorem d_Reckoner_rest_12 : decode prog_9_method_11_code 12 = .ok (.aload_n 1, 1) := by decide +kernel
theorem d_Reckoner_rest_13 : decode prog_9_method_11_code 13 = .ok (.getfield 122, 3) := by decide +kernel
theorem d_Reckoner_rest_16 : decode prog_9_method_11_code 16 = .ok (.invokevirtual 125, 3) := by decide +kernel
theorem d_Reckoner_rest_19 : decode prog_9_method_11_code 19 = .ok (.goto 51, 3) := by decide +kernel
abbrev y_Reckoner_rest : MethodName := ⟨"FilterGuard$Reckoner", "rest", "(LFilterGuard$Num;LFilterGuard$Num;)V"⟩
def f_Reckoner_rest (M0 : me_M) (j0 : Nat) (j1 : Nat) (j2 : Nat) : Option me_M := b2 (f_Num_isExact0 M0 j2) (fun (M1 : me_M) (r2 : Int32) => (if r2 = 0 then bd (mR M0 8 j0 2) (fun (j16 : Nat) => bd (f_Num_range M1 j16 (0 : Int64) (mL M1 11 j1 3)) (fun (M18 : me_M) => some M18)) else (if (mL M1 11 j2 0) = 0 then bd (mR M0 8 j0 2) (fun (j5 : Nat) => bd (f_Num_copy M1 j5 j1) (fun (M7 : me_M) => some M7)) else bd (f_Num_isBelow (mL M1 11 j1 3) (mL M1 11 j2 0)) (fun (r8 : Int32) => (if r8 = 0 then bd (mR M0 8 j0 2) (fun (j10 : Nat) => bd (f_Num_range M1 j10 (0 : Int64) ((mL M1 11 j2 0) - 1)) (fun (M12 : me_M) => some M12)) else bd (mR M0 8 j0 2) (fun (j13 : Nat) => bd (f_Num_copy M1 j13 j1) (fun (M15 : me_M) => some M15)))))))
def rm_Reckoner_rest : Room := { frames := 2, cells := 0, slots := 0, locals := 44 }
abbrev q_Reckoner_rest (D : va_G) (ad : Nat → Nat → Nat) (ca : Nat → ClassId) (N : Nat → Nat) (M0 MZ : me_M) (A : Nat → Prop) : Array Value → Jvm.State → Outcome → Jvm.State → Prop := va_Qv (fun (_ : Unit) => me_wf N MZ ∧ me_kp M0 MZ) (fg_B D A (fun _ => me_W ad ca MZ) (fun _ => [])) A
set_option maxHeartbeats 4000000 in
set_option maxRecDepth 100000 in
theorem c_Reckoner_rest (l : Launch) (D : va_G) (ad : Nat → Nat → Nat) (ca : Nat → ClassId) (N : Nat → Nat) (M0 MZ : me_M) (j0 : Nat) (j1 : Nat) (j2 : Nat) (h : f_Reckoner_rest M0 j0 j1 j2 = (some MZ)) (hwf : me_wf N M0) (hj0 : j0 < N 8) (hj1 : j1 < N 11) (hj2 : j2 < N 11) (sz : Nat) : Met l y_Reckoner_rest (fg_w y_Reckoner_rest prog_9_method_11_code 3 none) rm_Reckoner_rest (va_Pc [.ref (ad 8 j0), .ref (ad 11 j1), .ref (ad 11 j2)] (fz_P D (me_T ca) (me_W ad ca M0) sz)) (q_Reckoner_rest D ad ca N M0 MZ (va_A (me_W ad ca M0) sz)) rm_Reckoner_rest.cells rm_Reckoner_rest.slots (va_A (me_W ad ca M0) sz) := by
  refine fz_enter (fun A => q_Reckoner_rest D ad ca N M0 MZ A) (by decide +kernel) (Nat.le_of_ble_eq_true rfl) ?_
  intro p e s m below meth c ls A hx hb hml hown hts hr hlocks hin hP hK hD hS hA hX hl hz
  have hl : lv_has ls 3 [(0, .ref (ad 8 j0)), (1, .ref (ad 11 j1)), (2, .ref (ad 11 j2))] := hl
  unfold f_Reckoner_rest at h
  have hkp : me_kp M0 M0 := me_kp.rf
  have hkb := hkp
  refine lv_aload_n hx hb d_Reckoner_rest_0 rfl (lv_at hl 2 rfl) ?_
  obtain ⟨M1, r2, eM1, h⟩ := b2_ob h
  refine me_theni0 (M1 := M1) (me_runV (C := "FilterGuard$Num") (As := []) (rest := []) ⟨hx, hb, hml, hown, hts⟩ (c_Num_isExact0 l D ad ca N M0 M1 r2 j2 eM1 hwf hj2 _) rfl (by show fg_nm y_Num_isExact0 0; decide +kernel) u_1157 u_1158 u_1159 u_187 u_1160 ⟨Nat.le_of_ble_eq_true rfl, Nat.le_of_ble_eq_true rfl⟩ hX hz hK hP hD hwf hS hA hj2 (by decide) rfl rfl rfl hl.1 (Nat.le_of_ble_eq_true rfl) d_Reckoner_rest_1 ⟨Nat.le_of_ble_eq_true rfl, Nat.le_of_ble_eq_true rfl⟩) hP hD hK hS hA rfl rfl (fun H locs hw hP hD hS => ?_)
  obtain ⟨hwf, hk9, zr2⟩ := hw
  have hkp := hkp.tr hk9
  refine lv_if_ne (tgt := 22) hx hb d_Reckoner_rest_4 (by decide) (fun c3 => ?_) (fun c3 => ?_)
  · have h := if_f c3 h
    refine lv_aload_n hx hb d_Reckoner_rest_22 rfl (lv_at hl 2 rfl) ?_
    refine g_Num_0 hx hb hts hown hK hP hwf hj2 (hts _ u_368) d_Reckoner_rest_23 ?_
    refine lv_lconst (v := 0) hx hb d_Reckoner_rest_26 (by decide) ?_
    refine W.lcmp hx hb d_Reckoner_rest_27 ?_
    refine lv_if_eq (tgt := 45) hx hb d_Reckoner_rest_28 (by decide) (fun c4 => ?_) (fun c4 => ?_)
    · have h := if_t ((lg_cmp_eq _ _).mp c4) h
      refine lv_aload_n hx hb d_Reckoner_rest_45 rfl (lv_at hl 0 rfl) ?_
      refine g_Reckoner_2 hx hb hts hown hK hP hwf hj0 (hts _ u_398) d_Reckoner_rest_46 ?_
      obtain ⟨j5, e6, h⟩ := bd_ob h
      have hj5 : j5 < N 11 := (hwf.2.1 8 j0 2 _ (kp_r hkb hkp e6) (by decide) hj0)
      refine me_opt (j := j5) (kp_r hkb hkp e6) ?_
      refine lv_aload_n hx hb d_Reckoner_rest_49 rfl (lv_at hl 1 rfl) ?_
      obtain ⟨M7, eM7, h⟩ := bd_ob h
      refine me_thenv0 (M1 := M7) (me_runV (C := "FilterGuard$Num") (As := [.ref (ad 11 j1)]) (rest := []) ⟨hx, hb, hml, hown, hts⟩ (c_Num_copy l D ad ca N M1 M7 j5 j1 eM7 hwf hj5 hj1 _) rfl (by show fg_nm y_Num_copy 1; decide +kernel) u_1189 u_1083 u_1084 u_187 u_1085 ⟨Nat.le_of_ble_eq_true rfl, Nat.le_of_ble_eq_true rfl⟩ hX hz hK hP hD hwf hS hA hj5 (by decide) rfl rfl rfl hl.1 (Nat.le_of_ble_eq_true rfl) d_Reckoner_rest_50 ⟨Nat.le_of_ble_eq_true rfl, Nat.le_of_ble_eq_true rfl⟩) hP hD hK hS hA rfl rfl (fun H locs hw hP hD hS => ?_)
      obtain ⟨hwf, hk9⟩ := hw
      have hkp := hkp.tr hk9
      refine lv_goto (tgt := 70) hx hb d_Reckoner_rest_53 (by decide) ?_
      exact me_retv (me_kp M0) h hx hb hr hlocks hwf hkp hP hK hD hS d_Reckoner_rest_70
    have h := if_f (fun z => c4 ((lg_cmp_eq _ _).mpr z)) h
    refine lv_aload_n hx hb d_Reckoner_rest_31 rfl (lv_at hl 1 rfl) ?_
    refine g_Num_3 hx hb hts hown hK hP hwf hj1 (hts _ u_377) d_Reckoner_rest_32 ?_
    refine lv_aload_n hx hb d_Reckoner_rest_35 rfl (lv_at hl 2 rfl) ?_
    refine g_Num_0 hx hb hts hown hK hP hwf hj2 (hts _ u_368) d_Reckoner_rest_36 ?_
    obtain ⟨r8, er8, h⟩ := bd_ob h
    refine me_pani' (r0 := r8) (fg_runS (wc := []) (tc := []) (A2 := A) (As := [.long (mL M1 11 j1 3), .long (mL M1 11 j2 0)]) (rest := []) ⟨hx, hb, hml, hown, hts⟩ (c_Num_isBelow l D r8 (mL M1 11 j1 3) (mL M1 11 j2 0) er8 _) (by show fg_nm y_Num_isBelow 2; decide +kernel) u_1144 u_1063 u_187 u_1064 ⟨Nat.le_of_ble_eq_true rfl, Nat.le_of_ble_eq_true rfl⟩ hX me_P0 (hK.sub (tys' := []) [] rfl) me_D0 rfl hl.1 (Nat.le_of_ble_eq_true rfl) d_Reckoner_rest_39 ⟨Nat.le_of_ble_eq_true rfl, Nat.le_of_ble_eq_true rfl⟩) hP hD hK hS hA rfl rfl (fun H locs hw hP hD hS => ?_)
    have zr8 := hw
    refine lv_if_eq (tgt := 56) hx hb d_Reckoner_rest_42 (by decide) (fun c9 => ?_) (fun c9 => ?_)
    · have h := if_t c9 h
      refine lv_aload_n hx hb d_Reckoner_rest_56 rfl (lv_at hl 0 rfl) ?_
      refine g_Reckoner_2 hx hb hts hown hK hP hwf hj0 (hts _ u_398) d_Reckoner_rest_57 ?_
      obtain ⟨j10, e11, h⟩ := bd_ob h
      have hj10 : j10 < N 11 := (hwf.2.1 8 j0 2 _ (kp_r hkb hkp e11) (by decide) hj0)
      refine me_opt (j := j10) (kp_r hkb hkp e11) ?_
      refine lv_lconst (v := 0) hx hb d_Reckoner_rest_60 (by decide) ?_
      refine lv_aload_n hx hb d_Reckoner_rest_61 rfl (lv_at hl 2 rfl) ?_
      refine g_Num_0 hx hb hts hown hK hP hwf hj2 (hts _ u_368) d_Reckoner_rest_62 ?_
      refine lv_lconst (v := 1) hx hb d_Reckoner_rest_65 (by decide) ?_
      refine lv_lsub hx hb d_Reckoner_rest_66 ?_
      obtain ⟨M12, eM12, h⟩ := bd_ob h
      refine me_thenv0 (M1 := M12) (me_runV (C := "FilterGuard$Num") (As := [.long 0, .long ((mL M1 11 j2 0) - 1)]) (rest := []) ⟨hx, hb, hml, hown, hts⟩ (c_Num_range l D ad ca N M1 M12 j10 (0 : Int64) ((mL M1 11 j2 0) - 1) eM12 hwf hj10 _) rfl (by show fg_nm y_Num_range 2; decide +kernel) u_1145 u_1146 u_1147 u_187 u_1148 ⟨Nat.le_of_ble_eq_true rfl, Nat.le_of_ble_eq_true rfl⟩ hX hz hK hP hD hwf hS hA hj10 (by decide) rfl rfl rfl hl.1 (Nat.le_of_ble_eq_true rfl) d_Reckoner_rest_67 ⟨Nat.le_of_ble_eq_true rfl, Nat.le_of_ble_eq_true rfl⟩) hP hD hK hS hA rfl rfl (fun H locs hw hP hD hS => ?_)
      obtain ⟨hwf, hk9⟩ := hw
      have hkp := hkp.tr hk9
      exact me_retv (me_kp M0) h hx hb hr hlocks hwf hkp hP hK hD hS d_Reckoner_rest_70
    have h := if_f c9 h
    refine lv_aload_n hx hb d_Reckoner_rest_45 rfl (lv_at hl 0 rfl) ?_
    refine g_Reckoner_2 hx hb hts hown hK hP hwf hj0 (hts _ u_398) d_Reckoner_rest_46 ?_
    obtain ⟨j13, e14, h⟩ := bd_ob h
    have hj13 : j13 < N 11 := (hwf.2.1 8 j0 2 _ (kp_r hkb hkp e14) (by decide) hj0)
    refine me_opt (j := j13) (kp_r hkb hkp e14) ?_
    refine lv_aload_n hx hb d_Reckoner_rest_49 rfl (lv_at hl 1 rfl) ?_
    obtain ⟨M15, eM15, h⟩ := bd_ob h
    refine me_thenv0 (M1 := M15) (me_runV (C := "FilterGuard$Num") (As := [.ref (ad 11 j1)]) (rest := []) ⟨hx, hb, hml, hown, hts⟩ (c_Num_copy l D ad ca N M1 M15 j13 j1 eM15 hwf hj13 hj1 _) rfl (by show fg_nm y_Num_copy 1; decide +kernel) u_1189 u_1083 u_1084 u_187 u_1085 ⟨Nat.le_of_ble_eq_true rfl, Nat.le_of_ble_eq_true rfl⟩ hX hz hK hP hD hwf hS hA hj13 (by decide) rfl rfl rfl hl.1 (Nat.le_of_ble_eq_true rfl) d_Reckoner_rest_50 ⟨Nat.le_of_ble_eq_true rfl, Nat.le_of_ble_eq_true rfl⟩) hP hD hK hS hA rfl rfl (fun H locs hw hP hD hS => ?_)
    obtain ⟨hwf, hk9⟩ := hw
    have hkp := hkp.tr hk9
    refine lv_goto (tgt := 70) hx hb d_Reckoner_rest_53 (by decide) ?_
    exact me_retv (me_kp M0) h hx hb hr hlocks hwf hkp hP hK hD hS d_Reckoner_rest_70
  have h := if_t c3 h
  refine lv_aload_n hx hb d_Reckoner_rest_7 rfl (lv_at hl 0 rfl) ?_
  refine g_Reckoner_2 hx hb hts hown hK hP hwf hj0 (hts _ u_398) d_Reckoner_rest_8 ?_
  obtain ⟨j16, e17, h⟩ := bd_ob h
  have hj16 : j16 < N 11 := (hwf.2.1 8 j0 2 _ (kp_r hkb hkp e17) (by decide) hj0)
  refine me_opt (j := j16) (kp_r hkb hkp e17) ?_
  refine lv_lconst (v := 0) hx hb d_Reckoner_rest_11 (by decide) ?_
  refine lv_aload_n hx hb d_Reckoner_rest_12 rfl (lv_at hl 1 rfl) ?_
  refine g_Num_3 hx hb hts hown hK hP hwf hj1 (hts _ u_377) d_Reckoner_rest_13 ?_
  obtain ⟨M18, eM18, h⟩ := bd_ob h
  refine me_thenv0 (M1 := M18) (me_runV (C := "FilterGuard$Num") (As := [.long 0, .long (mL M1 11 j1 3)]) (rest := []) ⟨hx, hb, hml, hown, hts⟩ (c_Num_range l D ad ca N M1 M18 j16 (0 : Int64) (mL M1 11 j1 3) eM18 hwf hj16 _) rfl (by show fg_nm y_Num_range 2; decide +kernel) u_1145 u_1146 u_1147 u_187 u_1148 ⟨Nat.le_of_ble_eq_true rfl, Nat.le_of_ble_eq_true rfl⟩ hX hz hK hP hD hwf hS hA hj16 (by decide) rfl rfl rfl hl.1 (Nat.le_of_ble_eq_true rfl) d_Reckoner_rest_16 ⟨Nat.le_of_ble_eq_true rfl, Nat.le_of_ble_eq_true rfl⟩) hP hD hK hS hA rfl rfl (fun H locs hw hP hD hS => ?_)
  obtain ⟨hwf, hk9⟩ := hw
  have hkp := hkp.tr hk9
  refine lv_goto (tgt := 70) hx hb d_Reckoner_rest_19 (by decide) ?_
  exact me_retv (me_kp M0) h hx hb hr hlocks hwf hkp hP hK hD hS d_Reckoner_rest_70
theorem d_Num_lowerGreatest_0 : decode prog_8_method_16_code 0 = .ok (.aload_n 0, 1) := by decide +kernel
theorem d_Num_lowerGreatest_1 : decode prog_8_method_16_code 1 = .ok (.getfield 21, 3) := by decide +kernel
theorem d_Num_lowerGreatest_4 : decode prog_8_method_16_code 4 = .ok (.ldc2_w 32, 3) := by decide +kernel
theorem d_Num_lowerGreatest_7 : decode prog_8_method_16_code 7 = .ok (.lxor, 1) := by decide +kernel
theorem d_Num_lowerGreatest_8 : decode prog_8_method_16_code 8 = .ok (.lload_n 1, 1) := by decide +kernel
theorem d_Num_lowerGreatest_9 : decode prog_8_method_16_code 9 = .ok (.ldc2_w 32, 3) := by decide +kernel
theorem d_Num_lowerGreatest_12 : decode prog_8_method_16_code 12 = .ok (.lxor, 1) := by decide +kernel
theorem d_Num_lowerGreatest_13 : decode prog_8_method_16_code 13 = .ok (.lcmp, 1) := by decide +kernel
theorem d_Num_lowerGreatest_14 : decode prog_8_method_16_code 14 = .ok (.ifCond .le 8, 3) := by decide +kernel
theorem d_Num_lowerGreatest_22 : decode prog_8_method_16_code 22 = .ok (.return_, 1) := by decide +kernel
theorem d_Num_lowerGreatest_17 : decode prog_8_method_16_code 17 = .ok (.aload_n 0, 1) := by decide +kernel
theorem d_Num_lowerGreatest_18 : decode prog_8_method_16_code 18 = .ok (.lload_n 1, 1) := by decide +kernel
theorem d_Num_lowerGreatest_19 : decode prog_8_method_16_code 19 = .ok (.putfield 21, 3) := by decide +kernel
abbrev y_Num_lowerGreatest : MethodName := ⟨"FilterGuard$Num", "lowerGreatest", "(J)V"⟩
def f_Num_lowerGreatest (M0 : me_M) (j0 : Nat) (x1 : Int64) : Option me_M := (if (x1 ^^^ (-9223372036854775808)) < ((mL M0 11 j0 3) ^^^ (-9223372036854775808)) then st (wL M0 11 j0 3 x1) (fun (M2 : me_M) => some M2) else some M0)
def rm_Num_lowerGreatest : Room := { frames := 1, cells := 0, slots := 0, locals := 20 }
abbrev q_Num_lowerGreatest (D : va_G) (ad : Nat → Nat → Nat) (ca : Nat → ClassId) (N : Nat → Nat) (M0 MZ : me_M) (A : Nat → Prop) : Array Value → Jvm.State → Outcome → Jvm.State → Prop := va_Qv (fun (_ : Unit) => me_wf N MZ ∧ me_kp M0 MZ) (fg_B D A (fun _ => me_W ad ca MZ) (fun _ => [])) A
set_option maxHeartbeats 4000000 in
set_option maxRecDepth 100000 in
theorem c_Num_lowerGreatest (l : Launch) (D : va_G) (ad : Nat → Nat → Nat) (ca : Nat → ClassId) (N : Nat → Nat) (M0 MZ : me_M) (j0 : Nat) (x1 : Int64) (h : f_Num_lowerGreatest M0 j0 x1 = (some MZ)) (hwf : me_wf N M0) (hj0 : j0 < N 11) (sz : Nat) : Met l y_Num_lowerGreatest (fg_w y_Num_lowerGreatest prog_8_method_16_code 3 none) rm_Num_lowerGreatest (va_Pc [.ref (ad 11 j0), .long x1] (fz_P D (me_T ca) (me_W ad ca M0) sz)) (q_Num_lowerGreatest D ad ca N M0 MZ (va_A (me_W ad ca M0) sz)) rm_Num_lowerGreatest.cells rm_Num_lowerGreatest.slots (va_A (me_W ad ca M0) sz) := by
  refine fz_enter (fun A => q_Num_lowerGreatest D ad ca N M0 MZ A) (by decide +kernel) (Nat.le_of_ble_eq_true rfl) ?_
  intro p e s m below meth c ls A hx hb hml hown hts hr hlocks hin hP hK hD hS hA hX hl hz
  have hl : lv_has ls 3 [(0, .ref (ad 11 j0)), (1, .long x1)] := hl
  unfold f_Num_lowerGreatest at h
  have hkp : me_kp M0 M0 := me_kp.rf
  have hkb := hkp
  refine lv_aload_n hx hb d_Num_lowerGreatest_0 rfl (lv_at hl 0 rfl) ?_
  refine g_Num_3 hx hb hts hown hK hP hwf hj0 (hts _ u_376) d_Num_lowerGreatest_1 ?_
  refine lv_ldc2 hx hb hown (hts _ u_1065) d_Num_lowerGreatest_4 ?_
  refine lv_lxor hx hb d_Num_lowerGreatest_7 ?_
  refine lv_lload_n hx hb d_Num_lowerGreatest_8 rfl (lv_at hl 1 rfl) ?_
  refine lv_ldc2 hx hb hown (hts _ u_1065) d_Num_lowerGreatest_9 ?_
  refine lv_lxor hx hb d_Num_lowerGreatest_12 ?_
  refine W.lcmp hx hb d_Num_lowerGreatest_13 ?_
  refine lv_if_le (tgt := 22) hx hb d_Num_lowerGreatest_14 (by decide) (fun c1 => ?_) (fun c1 => ?_)
  · have h := if_f (Int64.not_lt.mpr ((lg_cmp_le _ _).mp c1)) h
    exact me_retv (me_kp M0) h hx hb hr hlocks hwf hkp hP hK hD hS d_Num_lowerGreatest_22
  have h := if_t (Int64.not_le.mp (fun z => c1 ((lg_cmp_le _ _).mpr z))) h
  refine lv_aload_n hx hb d_Num_lowerGreatest_17 rfl (lv_at hl 0 rfl) ?_
  refine lv_lload_n hx hb d_Num_lowerGreatest_18 rfl (lv_at hl 1 rfl) ?_
  obtain ⟨M2, eM2, h⟩ := st_ob h
  refine p_Num_3 eM2 hx hb hts hown hK hP hD hwf hS hj0 (hts _ u_376) d_Num_lowerGreatest_19 (fun H locs hP hD hwf hS => ?_)
  have hkp := kp_L eM2 hkp
  exact me_retv (me_kp M0) h hx hb hr hlocks hwf hkp hP hK hD hS d_Num_lowerGreatest_22
theorem d_Reckoner_and_0 : decode prog_9_method_12_code 0 = .ok (.aload_n 1, 1) := by decide +kernel
theorem d_Reckoner_and_1 : decode prog_9_method_12_code 1 = .ok (.getfield 49, 3) := by decide +kernel
theorem d_Reckoner_and_4 : decode prog_9_method_12_code 4 = .ok (.aload_n 2, 1) := by decide +kernel
theorem d_Reckoner_and_5 : decode prog_9_method_12_code 5 = .ok (.getfield 49, 3) := by decide +kernel
theorem d_Reckoner_and_8 : decode prog_9_method_12_code 8 = .ok (.land, 1) := by decide +kernel
theorem d_Reckoner_and_9 : decode prog_9_method_12_code 9 = .ok (.lstore_n 3, 1) := by decide +kernel
theorem d_Reckoner_and_10 : decode prog_9_method_12_code 10 = .ok (.aload_n 0, 1) := by decide +kernel
theorem d_Reckoner_and_11 : decode prog_9_method_12_code 11 = .ok (.getfield 21, 3) := by decide +kernel
theorem d_Reckoner_and_14 : decode prog_9_method_12_code 14 = .ok (.lload_n 3, 1) := by decide +kernel
theorem d_Reckoner_and_15 : decode prog_9_method_12_code 15 = .ok (.aload_n 1, 1) := by decide +kernel
theorem d_Reckoner_and_16 : decode prog_9_method_12_code 16 = .ok (.getfield 49, 3) := by decide +kernel
theorem d_Reckoner_and_19 : decode prog_9_method_12_code 19 = .ok (.aload_n 1, 1) := by decide +kernel
theorem d_Reckoner_and_20 : decode prog_9_method_12_code 20 = .ok (.getfield 87, 3) := by decide +kernel
theorem d_Reckoner_and_23 : decode prog_9_method_12_code 23 = .ok (.lor, 1) := by decide +kernel
theorem d_Reckoner_and_24 : decode prog_9_method_12_code 24 = .ok (.aload_n 2, 1) := by decide +kernel
theorem d_Reckoner_and_25 : decode prog_9_method_12_code 25 = .ok (.getfield 49, 3) := by decide +kernel
theorem d_Reckoner_and_28 : decode prog_9_method_12_code 28 = .ok (.aload_n 2, 1) := by decide +kernel
theorem d_Reckoner_and_29 : decode prog_9_method_12_code 29 = .ok (.getfield 87, 3) := by decide +kernel
theorem d_Reckoner_and_32 : decode prog_9_method_12_code 32 = .ok (.lor, 1) := by decide +kernel
theorem d_Reckoner_and_33 : decode prog_9_method_12_code 33 = .ok (.land, 1) := by decide +kernel
theorem d_Reckoner_and_34 : decode prog_9_method_12_code 34 = .ok (.lload_n 3, 1) := by decide +kernel
theorem d_Reckoner_and_35 : decode prog_9_method_12_code 35 = .ok (.ldc2_w 90, 3) := by decide +kernel
theorem d_Reckoner_and_38 : decode prog_9_method_12_code 38 = .ok (.lxor, 1) := by decide +kernel
theorem d_Reckoner_and_39 : decode prog_9_method_12_code 39 = .ok (.land, 1) := by decide +kernel
theorem d_Reckoner_and_40 : decode prog_9_method_12_code 40 = .ok (.invokevirtual 92, 3) := by decide +kernel
theorem d_Reckoner_and_43 : decode prog_9_method_12_code 43 = .ok (.aload_n 0, 1) := by decide +kernel
theorem d_Reckoner_and_44 : decode prog_9_method_12_code 44 = .ok (.getfield 21, 3) := by decide +kernel
theorem d_Reckoner_and_47 : decode prog_9_method_12_code 47 = .ok (.aload_n 1, 1) := by decide +kernel
theorem d_Reckoner_and_48 : decode prog_9_method_12_code 48 = .ok (.getfield 122, 3) := by decide +kernel
theorem d_Reckoner_and_51 : decode prog_9_method_12_code 51 = .ok (.invokevirtual 146, 3) := by decide +kernel
theorem u_1194 : Cond.methodLink "FilterGuard$Reckoner" 146 ⟨"FilterGuard$Num", "lowerGreatest", "(J)V"⟩ ∈ fg_g := fg_in (List.mem_of_getElem? (i := 1194) (by decide +kernel)) rfl
theorem u_1197 : Cond.code ⟨"FilterGuard$Num", "lowerGreatest", "(J)V"⟩ prog_8_method_16_code 3 none ∈ fg_g := fg_in (List.mem_of_getElem? (i := 1197) (by decide +kernel)) rfl
theorem u_1195 : Cond.instanceMethod ⟨"FilterGuard$Num", "lowerGreatest", "(J)V"⟩ ∈ fg_g := fg_in (List.mem_of_getElem? (i := 1195) (by decide +kernel)) rfl
theorem u_1196 : Cond.selects "FilterGuard$Num" ⟨"FilterGuard$Num", "lowerGreatest", "(J)V"⟩ ⟨"FilterGuard$Num", "lowerGreatest", "(J)V"⟩ ∈ fg_g := fg_in (List.mem_of_getElem? (i := 1196) (by decide +kernel)) rfl
theorem d_Reckoner_and_54 : decode prog_9_method_12_code 54 = .ok (.aload_n 0, 1) := by decide +kernel
theorem d_Reckoner_and_55 : decode prog_9_method_12_code 55 = .ok (.getfield 21, 3) := by decide +kernel
theorem d_Reckoner_and_58 : decode prog_9_method_12_code 58 = .ok (.aload_n 2, 1) := by decide +kernel
theorem d_Reckoner_and_59 : decode prog_9_method_12_code 59 = .ok (.getfield 122, 3) := by decide +kernel
theorem d_Reckoner_and_62 : decode prog_9_method_12_code 62 = .ok (.invokevirtual 146, 3) := by decide +kernel
theorem d_Reckoner_and_65 : decode prog_9_method_12_code 65 = .ok (.return_, 1) := by decide +kernel
abbrev y_Reckoner_and : MethodName := ⟨"FilterGuard$Reckoner", "and", "(LFilterGuard$Num;LFilterGuard$Num;)V"⟩
def f_Reckoner_and (M0 : me_M) (j0 : Nat) (j1 : Nat) (j2 : Nat) : Option me_M := st ((mL M0 11 j1 0) &&& (mL M0 11 j2 0)) (fun (v1 : Int64) => bd (mR M0 8 j0 2) (fun (j3 : Nat) => st (((mL M0 11 j1 0) ||| (mL M0 11 j1 1)) &&& ((mL M0 11 j2 0) ||| (mL M0 11 j2 1))) (fun (v5 : Int64) => bd (f_Num_bits M0 j3 v1 (v5 &&& (v1 ^^^ (-1)))) (fun (M6 : me_M) => bd (f_Num_lowerGreatest M6 j3 (mL M6 11 j1 3)) (fun (M7 : me_M) => bd (f_Num_lowerGreatest M7 j3 (mL M7 11 j2 3)) (fun (M8 : me_M) => some M8))))))
def rm_Reckoner_and : Room := { frames := 2, cells := 0, slots := 0, locals := 44 }
abbrev q_Reckoner_and (D : va_G) (ad : Nat → Nat → Nat) (ca : Nat → ClassId) (N : Nat → Nat) (M0 MZ : me_M) (A : Nat → Prop) : Array Value → Jvm.State → Outcome → Jvm.State → Prop := va_Qv (fun (_ : Unit) => me_wf N MZ ∧ me_kp M0 MZ) (fg_B D A (fun _ => me_W ad ca MZ) (fun _ => [])) A
set_option maxHeartbeats 4000000 in
set_option maxRecDepth 100000 in
theorem c_Reckoner_and (l : Launch) (D : va_G) (ad : Nat → Nat → Nat) (ca : Nat → ClassId) (N : Nat → Nat) (M0 MZ : me_M) (j0 : Nat) (j1 : Nat) (j2 : Nat) (h : f_Reckoner_and M0 j0 j1 j2 = (some MZ)) (hwf : me_wf N M0) (hj0 : j0 < N 8) (hj1 : j1 < N 11) (hj2 : j2 < N 11) (sz : Nat) : Met l y_Reckoner_and (fg_w y_Reckoner_and prog_9_method_12_code 5 none) rm_Reckoner_and (va_Pc [.ref (ad 8 j0), .ref (ad 11 j1), .ref (ad 11 j2)] (fz_P D (me_T ca) (me_W ad ca M0) sz)) (q_Reckoner_and D ad ca N M0 MZ (va_A (me_W ad ca M0) sz)) rm_Reckoner_and.cells rm_Reckoner_and.slots (va_A (me_W ad ca M0) sz) := by
  refine fz_enter (fun A => q_Reckoner_and D ad ca N M0 MZ A) (by decide +kernel) (Nat.le_of_ble_eq_true rfl) ?_
  intro p e s m below meth c ls A hx hb hml hown hts hr hlocks hin hP hK hD hS hA hX hl hz
  have hl : lv_has ls 5 [(0, .ref (ad 8 j0)), (1, .ref (ad 11 j1)), (2, .ref (ad 11 j2))] := hl
  unfold f_Reckoner_and at h
  have hkp : me_kp M0 M0 := me_kp.rf
  have hkb := hkp
  refine lv_aload_n hx hb d_Reckoner_and_0 rfl (lv_at hl 1 rfl) ?_
  refine g_Num_0 hx hb hts hown hK hP hwf hj1 (hts _ u_368) d_Reckoner_and_1 ?_
  refine lv_aload_n hx hb d_Reckoner_and_4 rfl (lv_at hl 2 rfl) ?_
  refine g_Num_0 hx hb hts hown hK hP hwf hj2 (hts _ u_368) d_Reckoner_and_5 ?_
  refine lv_land hx hb d_Reckoner_and_8 ?_
  obtain ⟨v1, ev1, h⟩ := st_ob h
  refine fg_topl (y := v1) ev1.symm ?_
  refine lv_lstore_n (lv' := [(3, .long v1), (0, .ref (ad 8 j0)), (1, .ref (ad 11 j1)), (2, .ref (ad 11 j2))]) hx hb d_Reckoner_and_9 rfl hl (by decide) rfl (fun ls hl => ?_)
  refine lv_aload_n hx hb d_Reckoner_and_10 rfl (lv_at hl 1 rfl) ?_
  refine g_Reckoner_2 hx hb hts hown hK hP hwf hj0 (hts _ u_398) d_Reckoner_and_11 ?_
  obtain ⟨j3, e4, h⟩ := bd_ob h
  have hj3 : j3 < N 11 := (hwf.2.1 8 j0 2 _ e4 (by decide) hj0)
  refine me_opt (j := j3) e4 ?_
  refine lv_lload_n hx hb d_Reckoner_and_14 rfl (lv_at hl 0 rfl) ?_
  refine lv_aload_n hx hb d_Reckoner_and_15 rfl (lv_at hl 2 rfl) ?_
  refine g_Num_0 hx hb hts hown hK hP hwf hj1 (hts _ u_368) d_Reckoner_and_16 ?_
  refine lv_aload_n hx hb d_Reckoner_and_19 rfl (lv_at hl 2 rfl) ?_
  refine g_Num_1 hx hb hts hown hK hP hwf hj1 (hts _ u_372) d_Reckoner_and_20 ?_
  refine lv_lor hx hb d_Reckoner_and_23 ?_
  refine lv_aload_n hx hb d_Reckoner_and_24 rfl (lv_at hl 3 rfl) ?_
  refine g_Num_0 hx hb hts hown hK hP hwf hj2 (hts _ u_368) d_Reckoner_and_25 ?_
  refine lv_aload_n hx hb d_Reckoner_and_28 rfl (lv_at hl 3 rfl) ?_
  refine g_Num_1 hx hb hts hown hK hP hwf hj2 (hts _ u_372) d_Reckoner_and_29 ?_
  refine lv_lor hx hb d_Reckoner_and_32 ?_
  refine lv_land hx hb d_Reckoner_and_33 ?_
  obtain ⟨v5, ev5, h⟩ := st_ob h
  refine fg_topl (y := v5) ev5.symm ?_
  refine lv_lload_n hx hb d_Reckoner_and_34 rfl (lv_at hl 0 rfl) ?_
  refine lv_ldc2 hx hb hown (hts _ u_1139) d_Reckoner_and_35 ?_
  refine lv_lxor hx hb d_Reckoner_and_38 ?_
  refine lv_land hx hb d_Reckoner_and_39 ?_
  obtain ⟨M6, eM6, h⟩ := bd_ob h
  refine me_thenv0 (M1 := M6) (me_runV (C := "FilterGuard$Num") (As := [.long v1, .long (v5 &&& (v1 ^^^ (-1)))]) (rest := []) ⟨hx, hb, hml, hown, hts⟩ (c_Num_bits l D ad ca N M0 M6 j3 v1 (v5 &&& (v1 ^^^ (-1))) eM6 hwf hj3 _) rfl (by show fg_nm y_Num_bits 2; decide +kernel) u_1140 u_1141 u_1142 u_187 u_1143 ⟨Nat.le_of_ble_eq_true rfl, Nat.le_of_ble_eq_true rfl⟩ hX hz hK hP hD hwf hS hA hj3 (by decide) rfl rfl rfl hl.1 (Nat.le_of_ble_eq_true rfl) d_Reckoner_and_40 ⟨Nat.le_of_ble_eq_true rfl, Nat.le_of_ble_eq_true rfl⟩) hP hD hK hS hA rfl rfl (fun H locs hw hP hD hS => ?_)
  obtain ⟨hwf, hk9⟩ := hw
  have hkp := hkp.tr hk9
  refine lv_aload_n hx hb d_Reckoner_and_43 rfl (lv_at hl 1 rfl) ?_
  refine g_Reckoner_2 hx hb hts hown hK hP hwf hj0 (hts _ u_398) d_Reckoner_and_44 ?_
  refine me_opt (j := j3) (kp_r hkb hkp e4) ?_
  refine lv_aload_n hx hb d_Reckoner_and_47 rfl (lv_at hl 2 rfl) ?_
  refine g_Num_3 hx hb hts hown hK hP hwf hj1 (hts _ u_377) d_Reckoner_and_48 ?_
  obtain ⟨M7, eM7, h⟩ := bd_ob h
  refine me_thenv0 (M1 := M7) (me_runV (C := "FilterGuard$Num") (As := [.long (mL M6 11 j1 3)]) (rest := []) ⟨hx, hb, hml, hown, hts⟩ (c_Num_lowerGreatest l D ad ca N M6 M7 j3 (mL M6 11 j1 3) eM7 hwf hj3 _) rfl (by show fg_nm y_Num_lowerGreatest 1; decide +kernel) u_1194 u_1195 u_1196 u_187 u_1197 ⟨Nat.le_of_ble_eq_true rfl, Nat.le_of_ble_eq_true rfl⟩ hX hz hK hP hD hwf hS hA hj3 (by decide) rfl rfl rfl hl.1 (Nat.le_of_ble_eq_true rfl) d_Reckoner_and_51 ⟨Nat.le_of_ble_eq_true rfl, Nat.le_of_ble_eq_true rfl⟩) hP hD hK hS hA rfl rfl (fun H locs hw hP hD hS => ?_)
  obtain ⟨hwf, hk9⟩ := hw
  have hkp := hkp.tr hk9
  refine lv_aload_n hx hb d_Reckoner_and_54 rfl (lv_at hl 1 rfl) ?_
  refine g_Reckoner_2 hx hb hts hown hK hP hwf hj0 (hts _ u_398) d_Reckoner_and_55 ?_
  refine me_opt (j := j3) (kp_r hkb hkp e4) ?_
  refine lv_aload_n hx hb d_Reckoner_and_58 rfl (lv_at hl 3 rfl) ?_
  refine g_Num_3 hx hb hts hown hK hP hwf hj2 (hts _ u_377) d_Reckoner_and_59 ?_
  obtain ⟨M8, eM8, h⟩ := bd_ob h
  refine me_thenv0 (M1 := M8) (me_runV (C := "FilterGuard$Num") (As := [.long (mL M7 11 j2 3)]) (rest := []) ⟨hx, hb, hml, hown, hts⟩ (c_Num_lowerGreatest l D ad ca N M7 M8 j3 (mL M7 11 j2 3) eM8 hwf hj3 _) rfl (by show fg_nm y_Num_lowerGreatest 1; decide +kernel) u_1194 u_1195 u_1196 u_187 u_1197 ⟨Nat.le_of_ble_eq_true rfl, Nat.le_of_ble_eq_true rfl⟩ hX hz hK hP hD hwf hS hA hj3 (by decide) rfl rfl rfl hl.1 (Nat.le_of_ble_eq_true rfl) d_Reckoner_and_62 ⟨Nat.le_of_ble_eq_true rfl, Nat.le_of_ble_eq_true rfl⟩) hP hD hK hS hA rfl rfl (fun H locs hw hP hD hS => ?_)
  obtain ⟨hwf, hk9⟩ := hw
  have hkp := hkp.tr hk9
  exact me_retv (me_kp M0) h hx hb hr hlocks hwf hkp hP hK hD hS d_Reckoner_and_65
theorem d_Num_raiseLeast_0 : decode prog_8_method_15_code 0 = .ok (.aload_n 0, 1) := by decide +kernel
theorem d_Num_raiseLeast_1 : decode prog_8_method_15_code 1 = .ok (.getfield 18, 3) := by decide +kernel
theorem d_Num_raiseLeast_4 : decode prog_8_method_15_code 4 = .ok (.ldc2_w 32, 3) := by decide +kernel
theorem d_Num_raiseLeast_7 : decode prog_8_method_15_code 7 = .ok (.lxor, 1) := by decide +kernel
theorem d_Num_raiseLeast_8 : decode prog_8_method_15_code 8 = .ok (.lload_n 1, 1) := by decide +kernel
theorem d_Num_raiseLeast_9 : decode prog_8_method_15_code 9 = .ok (.ldc2_w 32, 3) := by decide +kernel
theorem d_Num_raiseLeast_12 : decode prog_8_method_15_code 12 = .ok (.lxor, 1) := by decide +kernel
theorem d_Num_raiseLeast_13 : decode prog_8_method_15_code 13 = .ok (.lcmp, 1) := by decide +kernel
theorem d_Num_raiseLeast_14 : decode prog_8_method_15_code 14 = .ok (.ifCond .ge 8, 3) := by decide +kernel
theorem d_Num_raiseLeast_22 : decode prog_8_method_15_code 22 = .ok (.return_, 1) := by decide +kernel
theorem d_Num_raiseLeast_17 : decode prog_8_method_15_code 17 = .ok (.aload_n 0, 1) := by decide +kernel
theorem d_Num_raiseLeast_18 : decode prog_8_method_15_code 18 = .ok (.lload_n 1, 1) := by decide +kernel
theorem d_Num_raiseLeast_19 : decode prog_8_method_15_code 19 = .ok (.putfield 18, 3) := by decide +kernel
abbrev y_Num_raiseLeast : MethodName := ⟨"FilterGuard$Num", "raiseLeast", "(J)V"⟩
def f_Num_raiseLeast (M0 : me_M) (j0 : Nat) (x1 : Int64) : Option me_M := (if ((mL M0 11 j0 2) ^^^ (-9223372036854775808)) < (x1 ^^^ (-9223372036854775808)) then st (wL M0 11 j0 2 x1) (fun (M2 : me_M) => some M2) else some M0)
def rm_Num_raiseLeast : Room := { frames := 1, cells := 0, slots := 0, locals := 20 }
abbrev q_Num_raiseLeast (D : va_G) (ad : Nat → Nat → Nat) (ca : Nat → ClassId) (N : Nat → Nat) (M0 MZ : me_M) (A : Nat → Prop) : Array Value → Jvm.State → Outcome → Jvm.State → Prop := va_Qv (fun (_ : Unit) => me_wf N MZ ∧ me_kp M0 MZ) (fg_B D A (fun _ => me_W ad ca MZ) (fun _ => [])) A
set_option maxHeartbeats 4000000 in
set_option maxRecDepth 100000 in
theorem c_Num_raiseLeast (l : Launch) (D : va_G) (ad : Nat → Nat → Nat) (ca : Nat → ClassId) (N : Nat → Nat) (M0 MZ : me_M) (j0 : Nat) (x1 : Int64) (h : f_Num_raiseLeast M0 j0 x1 = (some MZ)) (hwf : me_wf N M0) (hj0 : j0 < N 11) (sz : Nat) : Met l y_Num_raiseLeast (fg_w y_Num_raiseLeast prog_8_method_15_code 3 none) rm_Num_raiseLeast (va_Pc [.ref (ad 11 j0), .long x1] (fz_P D (me_T ca) (me_W ad ca M0) sz)) (q_Num_raiseLeast D ad ca N M0 MZ (va_A (me_W ad ca M0) sz)) rm_Num_raiseLeast.cells rm_Num_raiseLeast.slots (va_A (me_W ad ca M0) sz) := by
  refine fz_enter (fun A => q_Num_raiseLeast D ad ca N M0 MZ A) (by decide +kernel) (Nat.le_of_ble_eq_true rfl) ?_
  intro p e s m below meth c ls A hx hb hml hown hts hr hlocks hin hP hK hD hS hA hX hl hz
  have hl : lv_has ls 3 [(0, .ref (ad 11 j0)), (1, .long x1)] := hl
  unfold f_Num_raiseLeast at h
  have hkp : me_kp M0 M0 := me_kp.rf
  have hkb := hkp
  refine lv_aload_n hx hb d_Num_raiseLeast_0 rfl (lv_at hl 0 rfl) ?_
  refine g_Num_2 hx hb hts hown hK hP hwf hj0 (hts _ u_373) d_Num_raiseLeast_1 ?_
  refine lv_ldc2 hx hb hown (hts _ u_1065) d_Num_raiseLeast_4 ?_
  refine lv_lxor hx hb d_Num_raiseLeast_7 ?_
  refine lv_lload_n hx hb d_Num_raiseLeast_8 rfl (lv_at hl 1 rfl) ?_
  refine lv_ldc2 hx hb hown (hts _ u_1065) d_Num_raiseLeast_9 ?_
  refine lv_lxor hx hb d_Num_raiseLeast_12 ?_
  refine W.lcmp hx hb d_Num_raiseLeast_13 ?_
  refine lv_if_ge (tgt := 22) hx hb d_Num_raiseLeast_14 (by decide) (fun c1 => ?_) (fun c1 => ?_)
  · have h := if_f (Int64.not_lt.mpr ((lg_cmp_ge _ _).mp c1)) h
    exact me_retv (me_kp M0) h hx hb hr hlocks hwf hkp hP hK hD hS d_Num_raiseLeast_22
  have h := if_t (Int64.not_le.mp (fun z => c1 ((lg_cmp_ge _ _).mpr z))) h
  refine lv_aload_n hx hb d_Num_raiseLeast_17 rfl (lv_at hl 0 rfl) ?_
  refine lv_lload_n hx hb d_Num_raiseLeast_18 rfl (lv_at hl 1 rfl) ?_
  obtain ⟨M2, eM2, h⟩ := st_ob h
  refine p_Num_2 eM2 hx hb hts hown hK hP hD hwf hS hj0 (hts _ u_373) d_Num_raiseLeast_19 (fun H locs hP hD hwf hS => ?_)
  have hkp := kp_L eM2 hkp
  exact me_retv (me_kp M0) h hx hb hr hlocks hwf hkp hP hK hD hS d_Num_raiseLeast_22
theorem d_Num_isExact1_0 : decode prog_8_method_8_code 0 = .ok (.aload_n 0, 1) := by decide +kernel
theorem d_Num_isExact1_1 : decode prog_8_method_8_code 1 = .ok (.getfield 15, 3) := by decide +kernel
theorem d_Num_isExact1_4 : decode prog_8_method_8_code 4 = .ok (.lconst 0, 1) := by decide +kernel
theorem d_Num_isExact1_5 : decode prog_8_method_8_code 5 = .ok (.lcmp, 1) := by decide +kernel
theorem d_Num_isExact1_6 : decode prog_8_method_8_code 6 = .ok (.ifCond .ne 16, 3) := by decide +kernel
theorem d_Num_isExact1_22 : decode prog_8_method_8_code 22 = .ok (.iconst 0, 1) := by decide +kernel
theorem d_Num_isExact1_23 : decode prog_8_method_8_code 23 = .ok (.ireturn, 1) := by decide +kernel
theorem d_Num_isExact1_9 : decode prog_8_method_8_code 9 = .ok (.aload_n 0, 1) := by decide +kernel
theorem d_Num_isExact1_10 : decode prog_8_method_8_code 10 = .ok (.getfield 9, 3) := by decide +kernel
theorem d_Num_isExact1_13 : decode prog_8_method_8_code 13 = .ok (.lload_n 1, 1) := by decide +kernel
theorem d_Num_isExact1_14 : decode prog_8_method_8_code 14 = .ok (.lcmp, 1) := by decide +kernel
theorem d_Num_isExact1_15 : decode prog_8_method_8_code 15 = .ok (.ifCond .ne 7, 3) := by decide +kernel
theorem d_Num_isExact1_18 : decode prog_8_method_8_code 18 = .ok (.iconst 1, 1) := by decide +kernel
theorem d_Num_isExact1_19 : decode prog_8_method_8_code 19 = .ok (.goto 4, 3) := by decide +kernel
abbrev y_Num_isExact1 : MethodName := ⟨"FilterGuard$Num", "isExact", "(J)Z"⟩
def f_Num_isExact1 (M0 : me_M) (j0 : Nat) (x1 : Int64) : Option (me_M × Int32) := (if (mL M0 11 j0 1) = 0 then (if (mL M0 11 j0 0) = x1 then some (M0, (1 : Int32)) else some (M0, (0 : Int32))) else some (M0, (0 : Int32)))
def rm_Num_isExact1 : Room := { frames := 1, cells := 0, slots := 0, locals := 20 }
abbrev q_Num_isExact1 (D : va_G) (ad : Nat → Nat → Nat) (ca : Nat → ClassId) (N : Nat → Nat) (M0 MZ : me_M) (RZ : Int32) (A : Nat → Prop) : Array Value → Jvm.State → Outcome → Jvm.State → Prop := va_Qi (fun r (_ : Unit) => r = RZ ∧ me_wf N MZ ∧ me_kp M0 MZ ∧ (RZ = 1 ∨ RZ = 0)) (fg_B D A (fun _ => me_W ad ca MZ) (fun _ => [])) A
set_option maxHeartbeats 4000000 in
set_option maxRecDepth 100000 in
theorem c_Num_isExact1 (l : Launch) (D : va_G) (ad : Nat → Nat → Nat) (ca : Nat → ClassId) (N : Nat → Nat) (M0 MZ : me_M) (RZ : Int32) (j0 : Nat) (x1 : Int64) (h : f_Num_isExact1 M0 j0 x1 = (some (MZ, RZ))) (hwf : me_wf N M0) (hj0 : j0 < N 11) (sz : Nat) : Met l y_Num_isExact1 (fg_w y_Num_isExact1 prog_8_method_8_code 3 (some .boolean)) rm_Num_isExact1 (va_Pc [.ref (ad 11 j0), .long x1] (fz_P D (me_T ca) (me_W ad ca M0) sz)) (q_Num_isExact1 D ad ca N M0 MZ RZ (va_A (me_W ad ca M0) sz)) rm_Num_isExact1.cells rm_Num_isExact1.slots (va_A (me_W ad ca M0) sz) := by
  refine fz_enter (fun A => q_Num_isExact1 D ad ca N M0 MZ RZ A) (by decide +kernel) (Nat.le_of_ble_eq_true rfl) ?_
  intro p e s m below meth c ls A hx hb hml hown hts hr hlocks hin hP hK hD hS hA hX hl hz
  have hl : lv_has ls 3 [(0, .ref (ad 11 j0)), (1, .long x1)] := hl
  unfold f_Num_isExact1 at h
  have hkp : me_kp M0 M0 := me_kp.rf
  have hkb := hkp
  refine lv_aload_n hx hb d_Num_isExact1_0 rfl (lv_at hl 0 rfl) ?_
  refine g_Num_1 hx hb hts hown hK hP hwf hj0 (hts _ u_371) d_Num_isExact1_1 ?_
  refine lv_lconst (v := 0) hx hb d_Num_isExact1_4 (by decide) ?_
  refine W.lcmp hx hb d_Num_isExact1_5 ?_
  refine lv_if_ne (tgt := 22) hx hb d_Num_isExact1_6 (by decide) (fun c1 => ?_) (fun c1 => ?_)
  · have h := if_f (fun z => c1 ((lg_cmp_eq _ _).mpr z)) h
    refine lv_iconst (v := 0) hx hb d_Num_isExact1_22 (by decide) ?_
    exact me_retz (me_kp M0) h (by decide) hx hb hr hlocks hwf hkp hP hK hD hS d_Num_isExact1_23
  have h := if_t ((lg_cmp_eq _ _).mp c1) h
  refine lv_aload_n hx hb d_Num_isExact1_9 rfl (lv_at hl 0 rfl) ?_
  refine g_Num_0 hx hb hts hown hK hP hwf hj0 (hts _ u_367) d_Num_isExact1_10 ?_
  refine lv_lload_n hx hb d_Num_isExact1_13 rfl (lv_at hl 1 rfl) ?_
  refine W.lcmp hx hb d_Num_isExact1_14 ?_
  refine lv_if_ne (tgt := 22) hx hb d_Num_isExact1_15 (by decide) (fun c2 => ?_) (fun c2 => ?_)
  · have h := if_f (fun z => c2 ((lg_cmp_eq _ _).mpr z)) h
    refine lv_iconst (v := 0) hx hb d_Num_isExact1_22 (by decide) ?_
    exact me_retz (me_kp M0) h (by decide) hx hb hr hlocks hwf hkp hP hK hD hS d_Num_isExact1_23
  have h := if_t ((lg_cmp_eq _ _).mp c2) h
  refine lv_iconst (v := 1) hx hb d_Num_isExact1_18 (by decide) ?_
  refine lv_goto (tgt := 23) hx hb d_Num_isExact1_19 (by decide) ?_
  exact me_retz (me_kp M0) h (by decide) hx hb hr hlocks hwf hkp hP hK hD hS d_Num_isExact1_23
theorem d_Reckoner_swapped_5 : decode prog_9_method_3_code 5 = .ok (.iload 5, 2) := by decide +kernel
theorem d_Reckoner_swapped_7 : decode prog_9_method_3_code 7 = .ok (.iload_n 2, 1) := by decide +kernel
theorem d_Reckoner_swapped_8 : decode prog_9_method_3_code 8 = .ok (.if_icmp .ge 26, 3) := by decide +kernel
theorem d_Reckoner_swapped_34 : decode prog_9_method_3_code 34 = .ok (.lload_n 3, 1) := by decide +kernel
theorem d_Reckoner_swapped_35 : decode prog_9_method_3_code 35 = .ok (.lreturn, 1) := by decide +kernel
theorem d_Reckoner_swapped_11 : decode prog_9_method_3_code 11 = .ok (.lload_n 3, 1) := by decide +kernel
theorem d_Reckoner_swapped_12 : decode prog_9_method_3_code 12 = .ok (.bipush 8, 2) := by decide +kernel
theorem d_Reckoner_swapped_14 : decode prog_9_method_3_code 14 = .ok (.lshl, 1) := by decide +kernel
theorem d_Reckoner_swapped_15 : decode prog_9_method_3_code 15 = .ok (.lload_n 0, 1) := by decide +kernel
theorem d_Reckoner_swapped_16 : decode prog_9_method_3_code 16 = .ok (.bipush 8, 2) := by decide +kernel
theorem d_Reckoner_swapped_18 : decode prog_9_method_3_code 18 = .ok (.iload 5, 2) := by decide +kernel
theorem d_Reckoner_swapped_20 : decode prog_9_method_3_code 20 = .ok (.imul, 1) := by decide +kernel
theorem d_Reckoner_swapped_21 : decode prog_9_method_3_code 21 = .ok (.lushr, 1) := by decide +kernel
theorem d_Reckoner_swapped_22 : decode prog_9_method_3_code 22 = .ok (.ldc2_w 32, 3) := by decide +kernel
theorem u_1215 : Cond.constantLong "FilterGuard$Reckoner" 32 255 ∈ fg_g := fg_in (List.mem_of_getElem? (i := 1215) (by decide +kernel)) rfl
theorem d_Reckoner_swapped_25 : decode prog_9_method_3_code 25 = .ok (.land, 1) := by decide +kernel
theorem d_Reckoner_swapped_26 : decode prog_9_method_3_code 26 = .ok (.lor, 1) := by decide +kernel
theorem d_Reckoner_swapped_27 : decode prog_9_method_3_code 27 = .ok (.lstore_n 3, 1) := by decide +kernel
theorem d_Reckoner_swapped_28 : decode prog_9_method_3_code 28 = .ok (.iinc 5 1, 3) := by decide +kernel
theorem d_Reckoner_swapped_31 : decode prog_9_method_3_code 31 = .ok (.goto (-26), 3) := by decide +kernel
theorem d_Reckoner_swapped_0 : decode prog_9_method_3_code 0 = .ok (.lconst 0, 1) := by decide +kernel
theorem d_Reckoner_swapped_1 : decode prog_9_method_3_code 1 = .ok (.lstore_n 3, 1) := by decide +kernel
theorem d_Reckoner_swapped_2 : decode prog_9_method_3_code 2 = .ok (.iconst 0, 1) := by decide +kernel
theorem d_Reckoner_swapped_3 : decode prog_9_method_3_code 3 = .ok (.istore 5, 2) := by decide +kernel
abbrev y_Reckoner_swapped : MethodName := ⟨"FilterGuard$Reckoner", "swapped", "(JI)J"⟩
def f_Reckoner_swapped_l5 (x0 : Int64) (x2 : Int32) : Nat → Int64 → Int32 → Option Int64
  | 0, _, _ => none
  | fu + 1, y3, y5 => (if x2 ≤ y5 then some y3 else st ((jlshl y3 (8 : Int32)) ||| ((jlushr x0 (8 * y5)) &&& 255)) (fun (v2 : Int64) => f_Reckoner_swapped_l5 x0 x2 fu v2 (y5 + 1)))
def f_Reckoner_swapped (x0 : Int64) (x2 : Int32) : Option Int64 := f_Reckoner_swapped_l5 x0 x2 fuel (0 : Int64) (0 : Int32)
def rm_Reckoner_swapped : Room := { frames := 1, cells := 0, slots := 0, locals := 20 }
abbrev q_Reckoner_swapped (D : va_G) (RZ : Int64) (A : Nat → Prop) : Array Value → Jvm.State → Outcome → Jvm.State → Prop := va_Ql (fun r (_ : Unit) => r = RZ ∧ True) (fg_B D A (fun _ => []) (fun _ => [])) A
set_option maxHeartbeats 4000000 in
set_option maxRecDepth 100000 in
theorem c_Reckoner_swapped (l : Launch) (D : va_G) (RZ : Int64) (x0 : Int64) (x2 : Int32) (h : f_Reckoner_swapped x0 x2 = (some RZ)) (sz : Nat) : Met l y_Reckoner_swapped (fg_w y_Reckoner_swapped prog_9_method_3_code 6 (some .long)) rm_Reckoner_swapped (va_Pc [.long x0, .int x2] (fg_P D [] [] sz)) (q_Reckoner_swapped D RZ (va_A [] sz)) rm_Reckoner_swapped.cells rm_Reckoner_swapped.slots (va_A [] sz) := by
  refine fg_enter (fun A => q_Reckoner_swapped D RZ A) (by decide +kernel) (Nat.le_of_ble_eq_true rfl) ?_
  intro p e s m below meth c ls A hx hb hml hown hts hr hlocks hin hP hK hD hS hA hX hl
  have hl : lv_has ls 6 [(0, .long x0), (2, .int x2)] := hl
  unfold f_Reckoner_swapped at h
  have b_5 : ∀ (fu : Nat), ∀ (y3 : Int64) (y5 : Int32) (H : Heap) (locs : List Loc) (ls : Array Slot), f_Reckoner_swapped_l5 x0 x2 fu y3 y5 = (some RZ) → va_S A s.heap H locs → lv_has ls 6 [(0, .long x0), (2, .int x2), (3, .long y3), (5, .int y5)] → W p l e rm_Reckoner_swapped s m [.long x0, .int x2].toArray below meth c H locs 0 0 (MQ below (q_Reckoner_swapped D RZ A) [.long x0, .int x2].toArray s rm_Reckoner_swapped.cells rm_Reckoner_swapped.slots A) (F0 m 5 ls []) := by
    intro fu
    induction fu with
    | zero =>
      intro y3 y5 H locs ls h hS hl
      cases h
    | succ fu ih =>
      intro y3 y5 H locs ls h hS hl
      unfold f_Reckoner_swapped_l5 at h
      refine lv_iload hx hb d_Reckoner_swapped_5 (lv_at hl 3 rfl) ?_
      refine lv_iload_n hx hb d_Reckoner_swapped_7 rfl (lv_at hl 1 rfl) ?_
      refine lv_icmp_ge (tgt := 34) hx hb d_Reckoner_swapped_8 (by decide) (fun c1 => ?_) (fun c1 => ?_)
      · have h := if_t c1 h
        refine lv_lload_n hx hb d_Reckoner_swapped_34 rfl (lv_at hl 2 rfl) ?_
        exact me_pretl h hx hb hr hlocks hK hS d_Reckoner_swapped_35
      have h := if_f c1 h
      refine lv_lload_n hx hb d_Reckoner_swapped_11 rfl (lv_at hl 2 rfl) ?_
      refine lv_bipush (v := 8) hx hb d_Reckoner_swapped_12 (by decide) ?_
      refine lv_lshl (v := jlshl y3 (8 : Int32)) hx hb d_Reckoner_swapped_14 rfl ?_
      refine lv_lload_n hx hb d_Reckoner_swapped_15 rfl (lv_at hl 0 rfl) ?_
      refine lv_bipush (v := 8) hx hb d_Reckoner_swapped_16 (by decide) ?_
      refine lv_iload hx hb d_Reckoner_swapped_18 (lv_at hl 3 rfl) ?_
      refine lv_imul hx hb d_Reckoner_swapped_20 ?_
      refine lv_lushr (v := jlushr x0 (8 * y5)) hx hb d_Reckoner_swapped_21 rfl ?_
      refine lv_ldc2 hx hb hown (hts _ u_1215) d_Reckoner_swapped_22 ?_
      refine lv_land hx hb d_Reckoner_swapped_25 ?_
      refine lv_lor hx hb d_Reckoner_swapped_26 ?_
      obtain ⟨v2, ev2, h⟩ := st_ob h
      refine fg_topl (y := v2) ev2.symm ?_
      refine lv_lstore_n (lv' := [(3, .long v2), (0, .long x0), (2, .int x2), (5, .int y5)]) hx hb d_Reckoner_swapped_27 rfl hl (by decide) rfl (fun ls hl => ?_)
      refine lv_iinc (v := y5 + 1) (lv' := [(5, .int (y5 + 1)), (3, .long v2), (0, .long x0), (2, .int x2)]) hx hb d_Reckoner_swapped_28 hl (k := 3) rfl (by rfl) (by decide) rfl (fun ls hl => ?_)
      refine lv_goto (tgt := 5) hx hb d_Reckoner_swapped_31 (by decide) ?_
      exact ih v2 (y5 + 1) _ _ _ h hS (lv_sub hl [2, 3, 1, 0] rfl)
  refine lv_lconst (v := 0) hx hb d_Reckoner_swapped_0 (by decide) ?_
  refine lv_lstore_n (lv' := [(3, .long 0), (0, .long x0), (2, .int x2)]) hx hb d_Reckoner_swapped_1 rfl hl (by decide) rfl (fun ls hl => ?_)
  refine lv_iconst (v := 0) hx hb d_Reckoner_swapped_2 (by decide) ?_
  refine lv_istore (lv' := [(5, .int 0), (3, .long 0), (0, .long x0), (2, .int x2)]) hx hb d_Reckoner_swapped_3 hl (by decide) rfl (fun ls hl => ?_)
  exact b_5 _ (0 : Int64) (0 : Int32) _ _ _ h hS (lv_sub hl [2, 3, 1, 0] rfl)
