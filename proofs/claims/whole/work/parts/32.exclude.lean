abbrev y_Reckoner_exclude : MethodName := ⟨"FilterGuard$Reckoner", "exclude", "(LFilterGuard$Num;J)Z"⟩
theorem d_Reckoner_exclude_0 : decode prog_9_method_23_code 0 = .ok (.aload_n 1, 1) := by decide +kernel
theorem d_Reckoner_exclude_1 : decode prog_9_method_23_code 1 = .ok (.getfield 87, 3) := by decide +kernel
theorem d_Reckoner_exclude_4 : decode prog_9_method_23_code 4 = .ok (.lconst 0, 1) := by decide +kernel
theorem d_Reckoner_exclude_5 : decode prog_9_method_23_code 5 = .ok (.lcmp, 1) := by decide +kernel
theorem d_Reckoner_exclude_6 : decode prog_9_method_23_code 6 = .ok (.ifCond .ne 14, 3) := by decide +kernel
theorem d_Reckoner_exclude_20 : decode prog_9_method_23_code 20 = .ok (.aload_n 1, 1) := by decide +kernel
theorem d_Reckoner_exclude_21 : decode prog_9_method_23_code 21 = .ok (.dup, 1) := by decide +kernel
theorem d_Reckoner_exclude_22 : decode prog_9_method_23_code 22 = .ok (.getfield 96, 3) := by decide +kernel
theorem d_Reckoner_exclude_25 : decode prog_9_method_23_code 25 = .ok (.aload_n 1, 1) := by decide +kernel
theorem d_Reckoner_exclude_26 : decode prog_9_method_23_code 26 = .ok (.getfield 96, 3) := by decide +kernel
theorem d_Reckoner_exclude_29 : decode prog_9_method_23_code 29 = .ok (.lload_n 2, 1) := by decide +kernel
theorem d_Reckoner_exclude_30 : decode prog_9_method_23_code 30 = .ok (.lcmp, 1) := by decide +kernel
theorem d_Reckoner_exclude_31 : decode prog_9_method_23_code 31 = .ok (.ifCond .ne 7, 3) := by decide +kernel
theorem d_Reckoner_exclude_38 : decode prog_9_method_23_code 38 = .ok (.lconst 0, 1) := by decide +kernel
theorem d_Reckoner_exclude_39 : decode prog_9_method_23_code 39 = .ok (.ladd, 1) := by decide +kernel
theorem d_Reckoner_exclude_40 : decode prog_9_method_23_code 40 = .ok (.putfield 96, 3) := by decide +kernel
theorem d_Reckoner_exclude_43 : decode prog_9_method_23_code 43 = .ok (.aload_n 1, 1) := by decide +kernel
theorem d_Reckoner_exclude_44 : decode prog_9_method_23_code 44 = .ok (.dup, 1) := by decide +kernel
theorem d_Reckoner_exclude_45 : decode prog_9_method_23_code 45 = .ok (.getfield 122, 3) := by decide +kernel
theorem d_Reckoner_exclude_48 : decode prog_9_method_23_code 48 = .ok (.aload_n 1, 1) := by decide +kernel
theorem d_Reckoner_exclude_49 : decode prog_9_method_23_code 49 = .ok (.getfield 122, 3) := by decide +kernel
theorem d_Reckoner_exclude_52 : decode prog_9_method_23_code 52 = .ok (.lload_n 2, 1) := by decide +kernel
theorem d_Reckoner_exclude_53 : decode prog_9_method_23_code 53 = .ok (.lcmp, 1) := by decide +kernel
theorem d_Reckoner_exclude_54 : decode prog_9_method_23_code 54 = .ok (.ifCond .ne 7, 3) := by decide +kernel
theorem d_Reckoner_exclude_61 : decode prog_9_method_23_code 61 = .ok (.lconst 0, 1) := by decide +kernel
theorem d_Reckoner_exclude_62 : decode prog_9_method_23_code 62 = .ok (.lsub, 1) := by decide +kernel
theorem d_Reckoner_exclude_63 : decode prog_9_method_23_code 63 = .ok (.putfield 122, 3) := by decide +kernel
theorem d_Reckoner_exclude_66 : decode prog_9_method_23_code 66 = .ok (.aload_n 1, 1) := by decide +kernel
theorem d_Reckoner_exclude_67 : decode prog_9_method_23_code 67 = .ok (.dup, 1) := by decide +kernel
theorem d_Reckoner_exclude_68 : decode prog_9_method_23_code 68 = .ok (.getfield 128, 3) := by decide +kernel
theorem d_Reckoner_exclude_71 : decode prog_9_method_23_code 71 = .ok (.aload_n 1, 1) := by decide +kernel
theorem d_Reckoner_exclude_72 : decode prog_9_method_23_code 72 = .ok (.getfield 128, 3) := by decide +kernel
theorem d_Reckoner_exclude_75 : decode prog_9_method_23_code 75 = .ok (.lload_n 2, 1) := by decide +kernel
theorem d_Reckoner_exclude_76 : decode prog_9_method_23_code 76 = .ok (.lcmp, 1) := by decide +kernel
theorem d_Reckoner_exclude_77 : decode prog_9_method_23_code 77 = .ok (.ifCond .ne 7, 3) := by decide +kernel
theorem d_Reckoner_exclude_84 : decode prog_9_method_23_code 84 = .ok (.lconst 0, 1) := by decide +kernel
theorem d_Reckoner_exclude_85 : decode prog_9_method_23_code 85 = .ok (.ladd, 1) := by decide +kernel
theorem d_Reckoner_exclude_86 : decode prog_9_method_23_code 86 = .ok (.putfield 128, 3) := by decide +kernel
theorem d_Reckoner_exclude_89 : decode prog_9_method_23_code 89 = .ok (.aload_n 1, 1) := by decide +kernel
theorem d_Reckoner_exclude_90 : decode prog_9_method_23_code 90 = .ok (.dup, 1) := by decide +kernel
theorem d_Reckoner_exclude_91 : decode prog_9_method_23_code 91 = .ok (.getfield 131, 3) := by decide +kernel
theorem d_Reckoner_exclude_94 : decode prog_9_method_23_code 94 = .ok (.aload_n 1, 1) := by decide +kernel
theorem d_Reckoner_exclude_95 : decode prog_9_method_23_code 95 = .ok (.getfield 131, 3) := by decide +kernel
theorem d_Reckoner_exclude_98 : decode prog_9_method_23_code 98 = .ok (.lload_n 2, 1) := by decide +kernel
theorem d_Reckoner_exclude_99 : decode prog_9_method_23_code 99 = .ok (.lcmp, 1) := by decide +kernel
theorem d_Reckoner_exclude_100 : decode prog_9_method_23_code 100 = .ok (.ifCond .ne 7, 3) := by decide +kernel
theorem d_Reckoner_exclude_107 : decode prog_9_method_23_code 107 = .ok (.lconst 0, 1) := by decide +kernel
theorem d_Reckoner_exclude_108 : decode prog_9_method_23_code 108 = .ok (.lsub, 1) := by decide +kernel
theorem d_Reckoner_exclude_109 : decode prog_9_method_23_code 109 = .ok (.putfield 131, 3) := by decide +kernel
theorem d_Reckoner_exclude_112 : decode prog_9_method_23_code 112 = .ok (.iconst 1, 1) := by decide +kernel
theorem d_Reckoner_exclude_113 : decode prog_9_method_23_code 113 = .ok (.ireturn, 1) := by decide +kernel
theorem d_Reckoner_exclude_103 : decode prog_9_method_23_code 103 = .ok (.lconst 1, 1) := by decide +kernel
theorem d_Reckoner_exclude_104 : decode prog_9_method_23_code 104 = .ok (.goto 4, 3) := by decide +kernel
theorem d_Reckoner_exclude_80 : decode prog_9_method_23_code 80 = .ok (.lconst 1, 1) := by decide +kernel
theorem d_Reckoner_exclude_81 : decode prog_9_method_23_code 81 = .ok (.goto 4, 3) := by decide +kernel
theorem d_Reckoner_exclude_57 : decode prog_9_method_23_code 57 = .ok (.lconst 1, 1) := by decide +kernel
theorem d_Reckoner_exclude_58 : decode prog_9_method_23_code 58 = .ok (.goto 4, 3) := by decide +kernel
theorem d_Reckoner_exclude_34 : decode prog_9_method_23_code 34 = .ok (.lconst 1, 1) := by decide +kernel
theorem d_Reckoner_exclude_35 : decode prog_9_method_23_code 35 = .ok (.goto 4, 3) := by decide +kernel
theorem d_Reckoner_exclude_9 : decode prog_9_method_23_code 9 = .ok (.aload_n 1, 1) := by decide +kernel
theorem d_Reckoner_exclude_10 : decode prog_9_method_23_code 10 = .ok (.getfield 49, 3) := by decide +kernel
theorem d_Reckoner_exclude_13 : decode prog_9_method_23_code 13 = .ok (.lload_n 2, 1) := by decide +kernel
theorem d_Reckoner_exclude_14 : decode prog_9_method_23_code 14 = .ok (.lcmp, 1) := by decide +kernel
theorem d_Reckoner_exclude_15 : decode prog_9_method_23_code 15 = .ok (.ifCond .ne 5, 3) := by decide +kernel
theorem d_Reckoner_exclude_18 : decode prog_9_method_23_code 18 = .ok (.iconst 0, 1) := by decide +kernel
theorem d_Reckoner_exclude_19 : decode prog_9_method_23_code 19 = .ok (.ireturn, 1) := by decide +kernel
def rm_Reck_exclude : Room := { frames := 1, cells := 0, slots := 0, locals := 20 }
abbrev q_Reck_exclude (D : va_G) (h0 : Nat) (a1 : Nat) (a2 : Nat) (a3 : Nat) (a4 : Nat) (a5 : Nat) (h1 : Nat) (n1 : Int64) (n2 : Int64) (n3 : Int64) (n4 : Int64) (n5 : Int64) (n6 : Int64) (x1 : Int64) (A : Nat → Prop) : Array Value → Jvm.State → Outcome → Jvm.State → Prop := va_Qi (fun (r : Int32) (u : Int64 × Int64 × Int64 × Int64 × Int64 × Int64) => (r = 1 ∧ fn_exc n1 n2 n3 n4 n5 n6 x1 = some (u.1, u.2.1, u.2.2.1, u.2.2.2.1, u.2.2.2.2.1, u.2.2.2.2.2)) ∨ (r = 0 ∧ fn_exc n1 n2 n3 n4 n5 n6 x1 = none)) (fg_B D A (fun (u : Int64 × Int64 × Int64 × Int64 × Int64 × Int64) => [(h0, .inr (8, [.ref a1, .ref a2, .ref a3, .ref a4, .ref a5])), (h1, .inr (11, [.long u.1, .long u.2.1, .long u.2.2.1, .long u.2.2.2.1, .long u.2.2.2.2.1, .long u.2.2.2.2.2]))]) (fun (u : Int64 × Int64 × Int64 × Int64 × Int64 × Int64) => [])) A
set_option maxHeartbeats 4000000 in
set_option maxRecDepth 100000 in
theorem c_Reck_exclude (l : Launch) (D : va_G) (h0 : Nat) (a1 : Nat) (a2 : Nat) (a3 : Nat) (a4 : Nat) (a5 : Nat) (h1 : Nat) (n1 : Int64) (n2 : Int64) (n3 : Int64) (n4 : Int64) (n5 : Int64) (n6 : Int64) (x1 : Int64) (sz : Nat) : Met l y_Reckoner_exclude (fg_w y_Reckoner_exclude prog_9_method_23_code 4 (some .boolean)) rm_Reck_exclude (va_Pc [.ref h0, .ref h1, .long x1] (fg_P D [] [(h0, .inr (8, [.ref a1, .ref a2, .ref a3, .ref a4, .ref a5])), (h1, .inr (11, [.long n1, .long n2, .long n3, .long n4, .long n5, .long n6]))] sz)) (q_Reck_exclude D h0 a1 a2 a3 a4 a5 h1 n1 n2 n3 n4 n5 n6 x1 (va_A [(h0, .inr (8, [.ref a1, .ref a2, .ref a3, .ref a4, .ref a5])), (h1, .inr (11, [.long n1, .long n2, .long n3, .long n4, .long n5, .long n6]))] sz)) rm_Reck_exclude.cells rm_Reck_exclude.slots (va_A [(h0, .inr (8, [.ref a1, .ref a2, .ref a3, .ref a4, .ref a5])), (h1, .inr (11, [.long n1, .long n2, .long n3, .long n4, .long n5, .long n6]))] sz) := by
  refine fg_enter (fun A => q_Reck_exclude D h0 a1 a2 a3 a4 a5 h1 n1 n2 n3 n4 n5 n6 x1 A) (by decide +kernel) (Nat.le_of_ble_eq_true rfl) ?_
  intro p e s m below meth c ls A hx hb hml hown hts hr hlocks hin hP hK hD hS hA hX hl
  have hl : lv_has ls 4 [(0, .ref h0), (1, .ref h1), (2, .long x1)] := hl
  refine lv_aload_n hx hb d_Reckoner_exclude_0 rfl (lv_at hl 1 rfl) ?_
  refine va_get (D := D) (ci := 11) (v := .long n2) (C := "FilterGuard$Num") (T := F_Num) (N := 6) hx hb hts i_Num hown hK hP 1 rfl rfl 1 (by decide) (hts _ u_372) (fun _ h9 => h9) rfl d_Reckoner_exclude_1 ?_
  refine lv_lconst (v := 0) hx hb d_Reckoner_exclude_4 (by decide) ?_
  refine W.lcmp hx hb d_Reckoner_exclude_5 ?_
  refine lv_if_ne (tgt := 20) hx hb d_Reckoner_exclude_6 (by decide) (fun c_1 => ?_) (fun c_1 => ?_)
  · have gc_1 : ¬ n2 = 0 := fun z => c_1 ((lg_cmp_eq _ _).mpr z)
    refine lv_aload_n hx hb d_Reckoner_exclude_20 rfl (lv_at hl 1 rfl) ?_
    refine lv_dup hx hb d_Reckoner_exclude_21 rfl ?_
    refine va_get (D := D) (ci := 11) (v := .long n3) (C := "FilterGuard$Num") (T := F_Num) (N := 6) hx hb hts i_Num hown hK hP 1 rfl rfl 2 (by decide) (hts _ u_374) (fun _ h9 => h9) rfl d_Reckoner_exclude_22 ?_
    refine lv_aload_n hx hb d_Reckoner_exclude_25 rfl (lv_at hl 1 rfl) ?_
    refine va_get (D := D) (ci := 11) (v := .long n3) (C := "FilterGuard$Num") (T := F_Num) (N := 6) hx hb hts i_Num hown hK hP 1 rfl rfl 2 (by decide) (hts _ u_374) (fun _ h9 => h9) rfl d_Reckoner_exclude_26 ?_
    refine lv_lload_n hx hb d_Reckoner_exclude_29 rfl (lv_at hl 2 rfl) ?_
    refine W.lcmp hx hb d_Reckoner_exclude_30 ?_
    refine lv_if_ne (tgt := 38) hx hb d_Reckoner_exclude_31 (by decide) (fun c_2 => ?_) (fun c_2 => ?_)
    · have gc_2 : ¬ n3 = x1 := fun z => c_2 ((lg_cmp_eq _ _).mpr z)
      refine lv_lconst (v := 0) hx hb d_Reckoner_exclude_38 (by decide) ?_
      refine lv_ladd hx hb d_Reckoner_exclude_39 ?_
      refine va_put (D := D) (ci := 11) (v := .long (n3 + 0)) (ty := .long) (C := "FilterGuard$Num") (T := F_Num) (N := 6) hx hb hts i_Num t_Num t_Num_ok n_Num hown hK hP hD hS 1 rfl rfl 2 (by decide) (hts _ u_374) (fun _ h9 => h9) rfl (by decide +kernel) rfl rfl (Nat.le_of_ble_eq_true rfl) d_Reckoner_exclude_40 (fun H locs hP hD hS => ?_)
      have hP : va_P D classes [(h0, .inr (8, [.ref a1, .ref a2, .ref a3, .ref a4, .ref a5])), (h1, .inr (11, [.long n1, .long n2, .long (n3 + 0), .long n4, .long n5, .long n6]))] H := hP
      have hD : va_D A [(h0, .inr (8, [.ref a1, .ref a2, .ref a3, .ref a4, .ref a5])), (h1, .inr (11, [.long n1, .long n2, .long (n3 + 0), .long n4, .long n5, .long n6]))] := hD
      refine lv_aload_n hx hb d_Reckoner_exclude_43 rfl (lv_at hl 1 rfl) ?_
      refine lv_dup hx hb d_Reckoner_exclude_44 rfl ?_
      refine va_get (D := D) (ci := 11) (v := .long n4) (C := "FilterGuard$Num") (T := F_Num) (N := 6) hx hb hts i_Num hown hK hP 1 rfl rfl 3 (by decide) (hts _ u_377) (fun _ h9 => h9) rfl d_Reckoner_exclude_45 ?_
      refine lv_aload_n hx hb d_Reckoner_exclude_48 rfl (lv_at hl 1 rfl) ?_
      refine va_get (D := D) (ci := 11) (v := .long n4) (C := "FilterGuard$Num") (T := F_Num) (N := 6) hx hb hts i_Num hown hK hP 1 rfl rfl 3 (by decide) (hts _ u_377) (fun _ h9 => h9) rfl d_Reckoner_exclude_49 ?_
      refine lv_lload_n hx hb d_Reckoner_exclude_52 rfl (lv_at hl 2 rfl) ?_
      refine W.lcmp hx hb d_Reckoner_exclude_53 ?_
      refine lv_if_ne (tgt := 61) hx hb d_Reckoner_exclude_54 (by decide) (fun c_3 => ?_) (fun c_3 => ?_)
      · have gc_3 : ¬ n4 = x1 := fun z => c_3 ((lg_cmp_eq _ _).mpr z)
        refine lv_lconst (v := 0) hx hb d_Reckoner_exclude_61 (by decide) ?_
        refine lv_lsub hx hb d_Reckoner_exclude_62 ?_
        refine va_put (D := D) (ci := 11) (v := .long (n4 - 0)) (ty := .long) (C := "FilterGuard$Num") (T := F_Num) (N := 6) hx hb hts i_Num t_Num t_Num_ok n_Num hown hK hP hD hS 1 rfl rfl 3 (by decide) (hts _ u_377) (fun _ h9 => h9) rfl (by decide +kernel) rfl rfl (Nat.le_of_ble_eq_true rfl) d_Reckoner_exclude_63 (fun H locs hP hD hS => ?_)
        have hP : va_P D classes [(h0, .inr (8, [.ref a1, .ref a2, .ref a3, .ref a4, .ref a5])), (h1, .inr (11, [.long n1, .long n2, .long (n3 + 0), .long (n4 - 0), .long n5, .long n6]))] H := hP
        have hD : va_D A [(h0, .inr (8, [.ref a1, .ref a2, .ref a3, .ref a4, .ref a5])), (h1, .inr (11, [.long n1, .long n2, .long (n3 + 0), .long (n4 - 0), .long n5, .long n6]))] := hD
        refine lv_aload_n hx hb d_Reckoner_exclude_66 rfl (lv_at hl 1 rfl) ?_
        refine lv_dup hx hb d_Reckoner_exclude_67 rfl ?_
        refine va_get (D := D) (ci := 11) (v := .long n5) (C := "FilterGuard$Num") (T := F_Num) (N := 6) hx hb hts i_Num hown hK hP 1 rfl rfl 4 (by decide) (hts _ u_380) (fun _ h9 => h9) rfl d_Reckoner_exclude_68 ?_
        refine lv_aload_n hx hb d_Reckoner_exclude_71 rfl (lv_at hl 1 rfl) ?_
        refine va_get (D := D) (ci := 11) (v := .long n5) (C := "FilterGuard$Num") (T := F_Num) (N := 6) hx hb hts i_Num hown hK hP 1 rfl rfl 4 (by decide) (hts _ u_380) (fun _ h9 => h9) rfl d_Reckoner_exclude_72 ?_
        refine lv_lload_n hx hb d_Reckoner_exclude_75 rfl (lv_at hl 2 rfl) ?_
        refine W.lcmp hx hb d_Reckoner_exclude_76 ?_
        refine lv_if_ne (tgt := 84) hx hb d_Reckoner_exclude_77 (by decide) (fun c_4 => ?_) (fun c_4 => ?_)
        · have gc_4 : ¬ n5 = x1 := fun z => c_4 ((lg_cmp_eq _ _).mpr z)
          refine lv_lconst (v := 0) hx hb d_Reckoner_exclude_84 (by decide) ?_
          refine lv_ladd hx hb d_Reckoner_exclude_85 ?_
          refine va_put (D := D) (ci := 11) (v := .long (n5 + 0)) (ty := .long) (C := "FilterGuard$Num") (T := F_Num) (N := 6) hx hb hts i_Num t_Num t_Num_ok n_Num hown hK hP hD hS 1 rfl rfl 4 (by decide) (hts _ u_380) (fun _ h9 => h9) rfl (by decide +kernel) rfl rfl (Nat.le_of_ble_eq_true rfl) d_Reckoner_exclude_86 (fun H locs hP hD hS => ?_)
          have hP : va_P D classes [(h0, .inr (8, [.ref a1, .ref a2, .ref a3, .ref a4, .ref a5])), (h1, .inr (11, [.long n1, .long n2, .long (n3 + 0), .long (n4 - 0), .long (n5 + 0), .long n6]))] H := hP
          have hD : va_D A [(h0, .inr (8, [.ref a1, .ref a2, .ref a3, .ref a4, .ref a5])), (h1, .inr (11, [.long n1, .long n2, .long (n3 + 0), .long (n4 - 0), .long (n5 + 0), .long n6]))] := hD
          refine lv_aload_n hx hb d_Reckoner_exclude_89 rfl (lv_at hl 1 rfl) ?_
          refine lv_dup hx hb d_Reckoner_exclude_90 rfl ?_
          refine va_get (D := D) (ci := 11) (v := .long n6) (C := "FilterGuard$Num") (T := F_Num) (N := 6) hx hb hts i_Num hown hK hP 1 rfl rfl 5 (by decide) (hts _ u_382) (fun _ h9 => h9) rfl d_Reckoner_exclude_91 ?_
          refine lv_aload_n hx hb d_Reckoner_exclude_94 rfl (lv_at hl 1 rfl) ?_
          refine va_get (D := D) (ci := 11) (v := .long n6) (C := "FilterGuard$Num") (T := F_Num) (N := 6) hx hb hts i_Num hown hK hP 1 rfl rfl 5 (by decide) (hts _ u_382) (fun _ h9 => h9) rfl d_Reckoner_exclude_95 ?_
          refine lv_lload_n hx hb d_Reckoner_exclude_98 rfl (lv_at hl 2 rfl) ?_
          refine W.lcmp hx hb d_Reckoner_exclude_99 ?_
          refine lv_if_ne (tgt := 107) hx hb d_Reckoner_exclude_100 (by decide) (fun c_5 => ?_) (fun c_5 => ?_)
          · have gc_5 : ¬ n6 = x1 := fun z => c_5 ((lg_cmp_eq _ _).mpr z)
            refine lv_lconst (v := 0) hx hb d_Reckoner_exclude_107 (by decide) ?_
            refine lv_lsub hx hb d_Reckoner_exclude_108 ?_
            refine va_put (D := D) (ci := 11) (v := .long (n6 - 0)) (ty := .long) (C := "FilterGuard$Num") (T := F_Num) (N := 6) hx hb hts i_Num t_Num t_Num_ok n_Num hown hK hP hD hS 1 rfl rfl 5 (by decide) (hts _ u_382) (fun _ h9 => h9) rfl (by decide +kernel) rfl rfl (Nat.le_of_ble_eq_true rfl) d_Reckoner_exclude_109 (fun H locs hP hD hS => ?_)
            have hP : va_P D classes [(h0, .inr (8, [.ref a1, .ref a2, .ref a3, .ref a4, .ref a5])), (h1, .inr (11, [.long n1, .long n2, .long (n3 + 0), .long (n4 - 0), .long (n5 + 0), .long (n6 - 0)]))] H := hP
            have hD : va_D A [(h0, .inr (8, [.ref a1, .ref a2, .ref a3, .ref a4, .ref a5])), (h1, .inr (11, [.long n1, .long n2, .long (n3 + 0), .long (n4 - 0), .long (n5 + 0), .long (n6 - 0)]))] := hD
            refine lv_iconst (v := 1) hx hb d_Reckoner_exclude_112 (by decide) ?_
            exact fg_retz (n1, n2, n3 + 0, n4 - 0, n5 + 0, n6 - 0) hx hb hr hlocks rfl (Or.inl ⟨rfl, by unfold fn_exc; (repeat rw [if_neg gc_1]); (repeat rw [if_neg gc_2]); (repeat rw [if_neg gc_3]); (repeat rw [if_neg gc_4]); (repeat rw [if_neg gc_5]); first | done | rfl | contradiction⟩) (hP.sub (ws' := [(h0, .inr (8, [.ref a1, .ref a2, .ref a3, .ref a4, .ref a5])), (h1, .inr (11, [.long n1, .long n2, .long (n3 + 0), .long (n4 - 0), .long (n5 + 0), .long (n6 - 0)]))]) [0, 1] rfl) (hK.sub (tys' := []) [] rfl) (hD.sub (ws' := [(h0, .inr (8, [.ref a1, .ref a2, .ref a3, .ref a4, .ref a5])), (h1, .inr (11, [.long n1, .long n2, .long (n3 + 0), .long (n4 - 0), .long (n5 + 0), .long (n6 - 0)]))]) [0, 1] (by decide) rfl) hS (Nat.le_of_ble_eq_true rfl) (Nat.le_of_ble_eq_true rfl) d_Reckoner_exclude_113
          · have gc_5 : n6 = x1 := (lg_cmp_eq _ _).mp c_5
            refine lv_lconst (v := 1) hx hb d_Reckoner_exclude_103 (by decide) ?_
            refine lv_goto (tgt := 108) hx hb d_Reckoner_exclude_104 (by decide) ?_
            refine lv_lsub hx hb d_Reckoner_exclude_108 ?_
            refine va_put (D := D) (ci := 11) (v := .long (n6 - 1)) (ty := .long) (C := "FilterGuard$Num") (T := F_Num) (N := 6) hx hb hts i_Num t_Num t_Num_ok n_Num hown hK hP hD hS 1 rfl rfl 5 (by decide) (hts _ u_382) (fun _ h9 => h9) rfl (by decide +kernel) rfl rfl (Nat.le_of_ble_eq_true rfl) d_Reckoner_exclude_109 (fun H locs hP hD hS => ?_)
            have hP : va_P D classes [(h0, .inr (8, [.ref a1, .ref a2, .ref a3, .ref a4, .ref a5])), (h1, .inr (11, [.long n1, .long n2, .long (n3 + 0), .long (n4 - 0), .long (n5 + 0), .long (n6 - 1)]))] H := hP
            have hD : va_D A [(h0, .inr (8, [.ref a1, .ref a2, .ref a3, .ref a4, .ref a5])), (h1, .inr (11, [.long n1, .long n2, .long (n3 + 0), .long (n4 - 0), .long (n5 + 0), .long (n6 - 1)]))] := hD
            refine lv_iconst (v := 1) hx hb d_Reckoner_exclude_112 (by decide) ?_
            exact fg_retz (n1, n2, n3 + 0, n4 - 0, n5 + 0, n6 - 1) hx hb hr hlocks rfl (Or.inl ⟨rfl, by unfold fn_exc; (repeat rw [if_neg gc_1]); (repeat rw [if_neg gc_2]); (repeat rw [if_neg gc_3]); (repeat rw [if_neg gc_4]); (repeat rw [if_pos gc_5]); first | done | rfl | contradiction⟩) (hP.sub (ws' := [(h0, .inr (8, [.ref a1, .ref a2, .ref a3, .ref a4, .ref a5])), (h1, .inr (11, [.long n1, .long n2, .long (n3 + 0), .long (n4 - 0), .long (n5 + 0), .long (n6 - 1)]))]) [0, 1] rfl) (hK.sub (tys' := []) [] rfl) (hD.sub (ws' := [(h0, .inr (8, [.ref a1, .ref a2, .ref a3, .ref a4, .ref a5])), (h1, .inr (11, [.long n1, .long n2, .long (n3 + 0), .long (n4 - 0), .long (n5 + 0), .long (n6 - 1)]))]) [0, 1] (by decide) rfl) hS (Nat.le_of_ble_eq_true rfl) (Nat.le_of_ble_eq_true rfl) d_Reckoner_exclude_113
        · have gc_4 : n5 = x1 := (lg_cmp_eq _ _).mp c_4
          refine lv_lconst (v := 1) hx hb d_Reckoner_exclude_80 (by decide) ?_
          refine lv_goto (tgt := 85) hx hb d_Reckoner_exclude_81 (by decide) ?_
          refine lv_ladd hx hb d_Reckoner_exclude_85 ?_
          refine va_put (D := D) (ci := 11) (v := .long (n5 + 1)) (ty := .long) (C := "FilterGuard$Num") (T := F_Num) (N := 6) hx hb hts i_Num t_Num t_Num_ok n_Num hown hK hP hD hS 1 rfl rfl 4 (by decide) (hts _ u_380) (fun _ h9 => h9) rfl (by decide +kernel) rfl rfl (Nat.le_of_ble_eq_true rfl) d_Reckoner_exclude_86 (fun H locs hP hD hS => ?_)
          have hP : va_P D classes [(h0, .inr (8, [.ref a1, .ref a2, .ref a3, .ref a4, .ref a5])), (h1, .inr (11, [.long n1, .long n2, .long (n3 + 0), .long (n4 - 0), .long (n5 + 1), .long n6]))] H := hP
          have hD : va_D A [(h0, .inr (8, [.ref a1, .ref a2, .ref a3, .ref a4, .ref a5])), (h1, .inr (11, [.long n1, .long n2, .long (n3 + 0), .long (n4 - 0), .long (n5 + 1), .long n6]))] := hD
          refine lv_aload_n hx hb d_Reckoner_exclude_89 rfl (lv_at hl 1 rfl) ?_
          refine lv_dup hx hb d_Reckoner_exclude_90 rfl ?_
          refine va_get (D := D) (ci := 11) (v := .long n6) (C := "FilterGuard$Num") (T := F_Num) (N := 6) hx hb hts i_Num hown hK hP 1 rfl rfl 5 (by decide) (hts _ u_382) (fun _ h9 => h9) rfl d_Reckoner_exclude_91 ?_
          refine lv_aload_n hx hb d_Reckoner_exclude_94 rfl (lv_at hl 1 rfl) ?_
          refine va_get (D := D) (ci := 11) (v := .long n6) (C := "FilterGuard$Num") (T := F_Num) (N := 6) hx hb hts i_Num hown hK hP 1 rfl rfl 5 (by decide) (hts _ u_382) (fun _ h9 => h9) rfl d_Reckoner_exclude_95 ?_
          refine lv_lload_n hx hb d_Reckoner_exclude_98 rfl (lv_at hl 2 rfl) ?_
          refine W.lcmp hx hb d_Reckoner_exclude_99 ?_
          refine lv_if_ne (tgt := 107) hx hb d_Reckoner_exclude_100 (by decide) (fun c_6 => ?_) (fun c_6 => ?_)
          · have gc_6 : ¬ n6 = x1 := fun z => c_6 ((lg_cmp_eq _ _).mpr z)
            refine lv_lconst (v := 0) hx hb d_Reckoner_exclude_107 (by decide) ?_
            refine lv_lsub hx hb d_Reckoner_exclude_108 ?_
            refine va_put (D := D) (ci := 11) (v := .long (n6 - 0)) (ty := .long) (C := "FilterGuard$Num") (T := F_Num) (N := 6) hx hb hts i_Num t_Num t_Num_ok n_Num hown hK hP hD hS 1 rfl rfl 5 (by decide) (hts _ u_382) (fun _ h9 => h9) rfl (by decide +kernel) rfl rfl (Nat.le_of_ble_eq_true rfl) d_Reckoner_exclude_109 (fun H locs hP hD hS => ?_)
            have hP : va_P D classes [(h0, .inr (8, [.ref a1, .ref a2, .ref a3, .ref a4, .ref a5])), (h1, .inr (11, [.long n1, .long n2, .long (n3 + 0), .long (n4 - 0), .long (n5 + 1), .long (n6 - 0)]))] H := hP
            have hD : va_D A [(h0, .inr (8, [.ref a1, .ref a2, .ref a3, .ref a4, .ref a5])), (h1, .inr (11, [.long n1, .long n2, .long (n3 + 0), .long (n4 - 0), .long (n5 + 1), .long (n6 - 0)]))] := hD
            refine lv_iconst (v := 1) hx hb d_Reckoner_exclude_112 (by decide) ?_
            exact fg_retz (n1, n2, n3 + 0, n4 - 0, n5 + 1, n6 - 0) hx hb hr hlocks rfl (Or.inl ⟨rfl, by unfold fn_exc; (repeat rw [if_neg gc_1]); (repeat rw [if_neg gc_2]); (repeat rw [if_neg gc_3]); (repeat rw [if_pos gc_4]); (repeat rw [if_neg gc_6]); first | done | rfl | contradiction⟩) (hP.sub (ws' := [(h0, .inr (8, [.ref a1, .ref a2, .ref a3, .ref a4, .ref a5])), (h1, .inr (11, [.long n1, .long n2, .long (n3 + 0), .long (n4 - 0), .long (n5 + 1), .long (n6 - 0)]))]) [0, 1] rfl) (hK.sub (tys' := []) [] rfl) (hD.sub (ws' := [(h0, .inr (8, [.ref a1, .ref a2, .ref a3, .ref a4, .ref a5])), (h1, .inr (11, [.long n1, .long n2, .long (n3 + 0), .long (n4 - 0), .long (n5 + 1), .long (n6 - 0)]))]) [0, 1] (by decide) rfl) hS (Nat.le_of_ble_eq_true rfl) (Nat.le_of_ble_eq_true rfl) d_Reckoner_exclude_113
          · have gc_6 : n6 = x1 := (lg_cmp_eq _ _).mp c_6
            refine lv_lconst (v := 1) hx hb d_Reckoner_exclude_103 (by decide) ?_
            refine lv_goto (tgt := 108) hx hb d_Reckoner_exclude_104 (by decide) ?_
            refine lv_lsub hx hb d_Reckoner_exclude_108 ?_
            refine va_put (D := D) (ci := 11) (v := .long (n6 - 1)) (ty := .long) (C := "FilterGuard$Num") (T := F_Num) (N := 6) hx hb hts i_Num t_Num t_Num_ok n_Num hown hK hP hD hS 1 rfl rfl 5 (by decide) (hts _ u_382) (fun _ h9 => h9) rfl (by decide +kernel) rfl rfl (Nat.le_of_ble_eq_true rfl) d_Reckoner_exclude_109 (fun H locs hP hD hS => ?_)
            have hP : va_P D classes [(h0, .inr (8, [.ref a1, .ref a2, .ref a3, .ref a4, .ref a5])), (h1, .inr (11, [.long n1, .long n2, .long (n3 + 0), .long (n4 - 0), .long (n5 + 1), .long (n6 - 1)]))] H := hP
            have hD : va_D A [(h0, .inr (8, [.ref a1, .ref a2, .ref a3, .ref a4, .ref a5])), (h1, .inr (11, [.long n1, .long n2, .long (n3 + 0), .long (n4 - 0), .long (n5 + 1), .long (n6 - 1)]))] := hD
            refine lv_iconst (v := 1) hx hb d_Reckoner_exclude_112 (by decide) ?_
            exact fg_retz (n1, n2, n3 + 0, n4 - 0, n5 + 1, n6 - 1) hx hb hr hlocks rfl (Or.inl ⟨rfl, by unfold fn_exc; (repeat rw [if_neg gc_1]); (repeat rw [if_neg gc_2]); (repeat rw [if_neg gc_3]); (repeat rw [if_pos gc_4]); (repeat rw [if_pos gc_6]); first | done | rfl | contradiction⟩) (hP.sub (ws' := [(h0, .inr (8, [.ref a1, .ref a2, .ref a3, .ref a4, .ref a5])), (h1, .inr (11, [.long n1, .long n2, .long (n3 + 0), .long (n4 - 0), .long (n5 + 1), .long (n6 - 1)]))]) [0, 1] rfl) (hK.sub (tys' := []) [] rfl) (hD.sub (ws' := [(h0, .inr (8, [.ref a1, .ref a2, .ref a3, .ref a4, .ref a5])), (h1, .inr (11, [.long n1, .long n2, .long (n3 + 0), .long (n4 - 0), .long (n5 + 1), .long (n6 - 1)]))]) [0, 1] (by decide) rfl) hS (Nat.le_of_ble_eq_true rfl) (Nat.le_of_ble_eq_true rfl) d_Reckoner_exclude_113
      · have gc_3 : n4 = x1 := (lg_cmp_eq _ _).mp c_3
        refine lv_lconst (v := 1) hx hb d_Reckoner_exclude_57 (by decide) ?_
        refine lv_goto (tgt := 62) hx hb d_Reckoner_exclude_58 (by decide) ?_
        refine lv_lsub hx hb d_Reckoner_exclude_62 ?_
        refine va_put (D := D) (ci := 11) (v := .long (n4 - 1)) (ty := .long) (C := "FilterGuard$Num") (T := F_Num) (N := 6) hx hb hts i_Num t_Num t_Num_ok n_Num hown hK hP hD hS 1 rfl rfl 3 (by decide) (hts _ u_377) (fun _ h9 => h9) rfl (by decide +kernel) rfl rfl (Nat.le_of_ble_eq_true rfl) d_Reckoner_exclude_63 (fun H locs hP hD hS => ?_)
        have hP : va_P D classes [(h0, .inr (8, [.ref a1, .ref a2, .ref a3, .ref a4, .ref a5])), (h1, .inr (11, [.long n1, .long n2, .long (n3 + 0), .long (n4 - 1), .long n5, .long n6]))] H := hP
        have hD : va_D A [(h0, .inr (8, [.ref a1, .ref a2, .ref a3, .ref a4, .ref a5])), (h1, .inr (11, [.long n1, .long n2, .long (n3 + 0), .long (n4 - 1), .long n5, .long n6]))] := hD
        refine lv_aload_n hx hb d_Reckoner_exclude_66 rfl (lv_at hl 1 rfl) ?_
        refine lv_dup hx hb d_Reckoner_exclude_67 rfl ?_
        refine va_get (D := D) (ci := 11) (v := .long n5) (C := "FilterGuard$Num") (T := F_Num) (N := 6) hx hb hts i_Num hown hK hP 1 rfl rfl 4 (by decide) (hts _ u_380) (fun _ h9 => h9) rfl d_Reckoner_exclude_68 ?_
        refine lv_aload_n hx hb d_Reckoner_exclude_71 rfl (lv_at hl 1 rfl) ?_
        refine va_get (D := D) (ci := 11) (v := .long n5) (C := "FilterGuard$Num") (T := F_Num) (N := 6) hx hb hts i_Num hown hK hP 1 rfl rfl 4 (by decide) (hts _ u_380) (fun _ h9 => h9) rfl d_Reckoner_exclude_72 ?_
        refine lv_lload_n hx hb d_Reckoner_exclude_75 rfl (lv_at hl 2 rfl) ?_
        refine W.lcmp hx hb d_Reckoner_exclude_76 ?_
        refine lv_if_ne (tgt := 84) hx hb d_Reckoner_exclude_77 (by decide) (fun c_7 => ?_) (fun c_7 => ?_)
        · have gc_7 : ¬ n5 = x1 := fun z => c_7 ((lg_cmp_eq _ _).mpr z)
          refine lv_lconst (v := 0) hx hb d_Reckoner_exclude_84 (by decide) ?_
          refine lv_ladd hx hb d_Reckoner_exclude_85 ?_
          refine va_put (D := D) (ci := 11) (v := .long (n5 + 0)) (ty := .long) (C := "FilterGuard$Num") (T := F_Num) (N := 6) hx hb hts i_Num t_Num t_Num_ok n_Num hown hK hP hD hS 1 rfl rfl 4 (by decide) (hts _ u_380) (fun _ h9 => h9) rfl (by decide +kernel) rfl rfl (Nat.le_of_ble_eq_true rfl) d_Reckoner_exclude_86 (fun H locs hP hD hS => ?_)
          have hP : va_P D classes [(h0, .inr (8, [.ref a1, .ref a2, .ref a3, .ref a4, .ref a5])), (h1, .inr (11, [.long n1, .long n2, .long (n3 + 0), .long (n4 - 1), .long (n5 + 0), .long n6]))] H := hP
          have hD : va_D A [(h0, .inr (8, [.ref a1, .ref a2, .ref a3, .ref a4, .ref a5])), (h1, .inr (11, [.long n1, .long n2, .long (n3 + 0), .long (n4 - 1), .long (n5 + 0), .long n6]))] := hD
          refine lv_aload_n hx hb d_Reckoner_exclude_89 rfl (lv_at hl 1 rfl) ?_
          refine lv_dup hx hb d_Reckoner_exclude_90 rfl ?_
          refine va_get (D := D) (ci := 11) (v := .long n6) (C := "FilterGuard$Num") (T := F_Num) (N := 6) hx hb hts i_Num hown hK hP 1 rfl rfl 5 (by decide) (hts _ u_382) (fun _ h9 => h9) rfl d_Reckoner_exclude_91 ?_
          refine lv_aload_n hx hb d_Reckoner_exclude_94 rfl (lv_at hl 1 rfl) ?_
          refine va_get (D := D) (ci := 11) (v := .long n6) (C := "FilterGuard$Num") (T := F_Num) (N := 6) hx hb hts i_Num hown hK hP 1 rfl rfl 5 (by decide) (hts _ u_382) (fun _ h9 => h9) rfl d_Reckoner_exclude_95 ?_
          refine lv_lload_n hx hb d_Reckoner_exclude_98 rfl (lv_at hl 2 rfl) ?_
          refine W.lcmp hx hb d_Reckoner_exclude_99 ?_
          refine lv_if_ne (tgt := 107) hx hb d_Reckoner_exclude_100 (by decide) (fun c_8 => ?_) (fun c_8 => ?_)
          · have gc_8 : ¬ n6 = x1 := fun z => c_8 ((lg_cmp_eq _ _).mpr z)
            refine lv_lconst (v := 0) hx hb d_Reckoner_exclude_107 (by decide) ?_
            refine lv_lsub hx hb d_Reckoner_exclude_108 ?_
            refine va_put (D := D) (ci := 11) (v := .long (n6 - 0)) (ty := .long) (C := "FilterGuard$Num") (T := F_Num) (N := 6) hx hb hts i_Num t_Num t_Num_ok n_Num hown hK hP hD hS 1 rfl rfl 5 (by decide) (hts _ u_382) (fun _ h9 => h9) rfl (by decide +kernel) rfl rfl (Nat.le_of_ble_eq_true rfl) d_Reckoner_exclude_109 (fun H locs hP hD hS => ?_)
            have hP : va_P D classes [(h0, .inr (8, [.ref a1, .ref a2, .ref a3, .ref a4, .ref a5])), (h1, .inr (11, [.long n1, .long n2, .long (n3 + 0), .long (n4 - 1), .long (n5 + 0), .long (n6 - 0)]))] H := hP
            have hD : va_D A [(h0, .inr (8, [.ref a1, .ref a2, .ref a3, .ref a4, .ref a5])), (h1, .inr (11, [.long n1, .long n2, .long (n3 + 0), .long (n4 - 1), .long (n5 + 0), .long (n6 - 0)]))] := hD
            refine lv_iconst (v := 1) hx hb d_Reckoner_exclude_112 (by decide) ?_
            exact fg_retz (n1, n2, n3 + 0, n4 - 1, n5 + 0, n6 - 0) hx hb hr hlocks rfl (Or.inl ⟨rfl, by unfold fn_exc; (repeat rw [if_neg gc_1]); (repeat rw [if_neg gc_2]); (repeat rw [if_pos gc_3]); (repeat rw [if_neg gc_7]); (repeat rw [if_neg gc_8]); first | done | rfl | contradiction⟩) (hP.sub (ws' := [(h0, .inr (8, [.ref a1, .ref a2, .ref a3, .ref a4, .ref a5])), (h1, .inr (11, [.long n1, .long n2, .long (n3 + 0), .long (n4 - 1), .long (n5 + 0), .long (n6 - 0)]))]) [0, 1] rfl) (hK.sub (tys' := []) [] rfl) (hD.sub (ws' := [(h0, .inr (8, [.ref a1, .ref a2, .ref a3, .ref a4, .ref a5])), (h1, .inr (11, [.long n1, .long n2, .long (n3 + 0), .long (n4 - 1), .long (n5 + 0), .long (n6 - 0)]))]) [0, 1] (by decide) rfl) hS (Nat.le_of_ble_eq_true rfl) (Nat.le_of_ble_eq_true rfl) d_Reckoner_exclude_113
          · have gc_8 : n6 = x1 := (lg_cmp_eq _ _).mp c_8
            refine lv_lconst (v := 1) hx hb d_Reckoner_exclude_103 (by decide) ?_
            refine lv_goto (tgt := 108) hx hb d_Reckoner_exclude_104 (by decide) ?_
            refine lv_lsub hx hb d_Reckoner_exclude_108 ?_
            refine va_put (D := D) (ci := 11) (v := .long (n6 - 1)) (ty := .long) (C := "FilterGuard$Num") (T := F_Num) (N := 6) hx hb hts i_Num t_Num t_Num_ok n_Num hown hK hP hD hS 1 rfl rfl 5 (by decide) (hts _ u_382) (fun _ h9 => h9) rfl (by decide +kernel) rfl rfl (Nat.le_of_ble_eq_true rfl) d_Reckoner_exclude_109 (fun H locs hP hD hS => ?_)
            have hP : va_P D classes [(h0, .inr (8, [.ref a1, .ref a2, .ref a3, .ref a4, .ref a5])), (h1, .inr (11, [.long n1, .long n2, .long (n3 + 0), .long (n4 - 1), .long (n5 + 0), .long (n6 - 1)]))] H := hP
            have hD : va_D A [(h0, .inr (8, [.ref a1, .ref a2, .ref a3, .ref a4, .ref a5])), (h1, .inr (11, [.long n1, .long n2, .long (n3 + 0), .long (n4 - 1), .long (n5 + 0), .long (n6 - 1)]))] := hD
            refine lv_iconst (v := 1) hx hb d_Reckoner_exclude_112 (by decide) ?_
            exact fg_retz (n1, n2, n3 + 0, n4 - 1, n5 + 0, n6 - 1) hx hb hr hlocks rfl (Or.inl ⟨rfl, by unfold fn_exc; (repeat rw [if_neg gc_1]); (repeat rw [if_neg gc_2]); (repeat rw [if_pos gc_3]); (repeat rw [if_neg gc_7]); (repeat rw [if_pos gc_8]); first | done | rfl | contradiction⟩) (hP.sub (ws' := [(h0, .inr (8, [.ref a1, .ref a2, .ref a3, .ref a4, .ref a5])), (h1, .inr (11, [.long n1, .long n2, .long (n3 + 0), .long (n4 - 1), .long (n5 + 0), .long (n6 - 1)]))]) [0, 1] rfl) (hK.sub (tys' := []) [] rfl) (hD.sub (ws' := [(h0, .inr (8, [.ref a1, .ref a2, .ref a3, .ref a4, .ref a5])), (h1, .inr (11, [.long n1, .long n2, .long (n3 + 0), .long (n4 - 1), .long (n5 + 0), .long (n6 - 1)]))]) [0, 1] (by decide) rfl) hS (Nat.le_of_ble_eq_true rfl) (Nat.le_of_ble_eq_true rfl) d_Reckoner_exclude_113
        · have gc_7 : n5 = x1 := (lg_cmp_eq _ _).mp c_7
          refine lv_lconst (v := 1) hx hb d_Reckoner_exclude_80 (by decide) ?_
          refine lv_goto (tgt := 85) hx hb d_Reckoner_exclude_81 (by decide) ?_
          refine lv_ladd hx hb d_Reckoner_exclude_85 ?_
          refine va_put (D := D) (ci := 11) (v := .long (n5 + 1)) (ty := .long) (C := "FilterGuard$Num") (T := F_Num) (N := 6) hx hb hts i_Num t_Num t_Num_ok n_Num hown hK hP hD hS 1 rfl rfl 4 (by decide) (hts _ u_380) (fun _ h9 => h9) rfl (by decide +kernel) rfl rfl (Nat.le_of_ble_eq_true rfl) d_Reckoner_exclude_86 (fun H locs hP hD hS => ?_)
          have hP : va_P D classes [(h0, .inr (8, [.ref a1, .ref a2, .ref a3, .ref a4, .ref a5])), (h1, .inr (11, [.long n1, .long n2, .long (n3 + 0), .long (n4 - 1), .long (n5 + 1), .long n6]))] H := hP
          have hD : va_D A [(h0, .inr (8, [.ref a1, .ref a2, .ref a3, .ref a4, .ref a5])), (h1, .inr (11, [.long n1, .long n2, .long (n3 + 0), .long (n4 - 1), .long (n5 + 1), .long n6]))] := hD
          refine lv_aload_n hx hb d_Reckoner_exclude_89 rfl (lv_at hl 1 rfl) ?_
          refine lv_dup hx hb d_Reckoner_exclude_90 rfl ?_
          refine va_get (D := D) (ci := 11) (v := .long n6) (C := "FilterGuard$Num") (T := F_Num) (N := 6) hx hb hts i_Num hown hK hP 1 rfl rfl 5 (by decide) (hts _ u_382) (fun _ h9 => h9) rfl d_Reckoner_exclude_91 ?_
          refine lv_aload_n hx hb d_Reckoner_exclude_94 rfl (lv_at hl 1 rfl) ?_
          refine va_get (D := D) (ci := 11) (v := .long n6) (C := "FilterGuard$Num") (T := F_Num) (N := 6) hx hb hts i_Num hown hK hP 1 rfl rfl 5 (by decide) (hts _ u_382) (fun _ h9 => h9) rfl d_Reckoner_exclude_95 ?_
          refine lv_lload_n hx hb d_Reckoner_exclude_98 rfl (lv_at hl 2 rfl) ?_
          refine W.lcmp hx hb d_Reckoner_exclude_99 ?_
          refine lv_if_ne (tgt := 107) hx hb d_Reckoner_exclude_100 (by decide) (fun c_9 => ?_) (fun c_9 => ?_)
          · have gc_9 : ¬ n6 = x1 := fun z => c_9 ((lg_cmp_eq _ _).mpr z)
            refine lv_lconst (v := 0) hx hb d_Reckoner_exclude_107 (by decide) ?_
            refine lv_lsub hx hb d_Reckoner_exclude_108 ?_
            refine va_put (D := D) (ci := 11) (v := .long (n6 - 0)) (ty := .long) (C := "FilterGuard$Num") (T := F_Num) (N := 6) hx hb hts i_Num t_Num t_Num_ok n_Num hown hK hP hD hS 1 rfl rfl 5 (by decide) (hts _ u_382) (fun _ h9 => h9) rfl (by decide +kernel) rfl rfl (Nat.le_of_ble_eq_true rfl) d_Reckoner_exclude_109 (fun H locs hP hD hS => ?_)
            have hP : va_P D classes [(h0, .inr (8, [.ref a1, .ref a2, .ref a3, .ref a4, .ref a5])), (h1, .inr (11, [.long n1, .long n2, .long (n3 + 0), .long (n4 - 1), .long (n5 + 1), .long (n6 - 0)]))] H := hP
            have hD : va_D A [(h0, .inr (8, [.ref a1, .ref a2, .ref a3, .ref a4, .ref a5])), (h1, .inr (11, [.long n1, .long n2, .long (n3 + 0), .long (n4 - 1), .long (n5 + 1), .long (n6 - 0)]))] := hD
            refine lv_iconst (v := 1) hx hb d_Reckoner_exclude_112 (by decide) ?_
            exact fg_retz (n1, n2, n3 + 0, n4 - 1, n5 + 1, n6 - 0) hx hb hr hlocks rfl (Or.inl ⟨rfl, by unfold fn_exc; (repeat rw [if_neg gc_1]); (repeat rw [if_neg gc_2]); (repeat rw [if_pos gc_3]); (repeat rw [if_pos gc_7]); (repeat rw [if_neg gc_9]); first | done | rfl | contradiction⟩) (hP.sub (ws' := [(h0, .inr (8, [.ref a1, .ref a2, .ref a3, .ref a4, .ref a5])), (h1, .inr (11, [.long n1, .long n2, .long (n3 + 0), .long (n4 - 1), .long (n5 + 1), .long (n6 - 0)]))]) [0, 1] rfl) (hK.sub (tys' := []) [] rfl) (hD.sub (ws' := [(h0, .inr (8, [.ref a1, .ref a2, .ref a3, .ref a4, .ref a5])), (h1, .inr (11, [.long n1, .long n2, .long (n3 + 0), .long (n4 - 1), .long (n5 + 1), .long (n6 - 0)]))]) [0, 1] (by decide) rfl) hS (Nat.le_of_ble_eq_true rfl) (Nat.le_of_ble_eq_true rfl) d_Reckoner_exclude_113
          · have gc_9 : n6 = x1 := (lg_cmp_eq _ _).mp c_9
            refine lv_lconst (v := 1) hx hb d_Reckoner_exclude_103 (by decide) ?_
            refine lv_goto (tgt := 108) hx hb d_Reckoner_exclude_104 (by decide) ?_
            refine lv_lsub hx hb d_Reckoner_exclude_108 ?_
            refine va_put (D := D) (ci := 11) (v := .long (n6 - 1)) (ty := .long) (C := "FilterGuard$Num") (T := F_Num) (N := 6) hx hb hts i_Num t_Num t_Num_ok n_Num hown hK hP hD hS 1 rfl rfl 5 (by decide) (hts _ u_382) (fun _ h9 => h9) rfl (by decide +kernel) rfl rfl (Nat.le_of_ble_eq_true rfl) d_Reckoner_exclude_109 (fun H locs hP hD hS => ?_)
            have hP : va_P D classes [(h0, .inr (8, [.ref a1, .ref a2, .ref a3, .ref a4, .ref a5])), (h1, .inr (11, [.long n1, .long n2, .long (n3 + 0), .long (n4 - 1), .long (n5 + 1), .long (n6 - 1)]))] H := hP
            have hD : va_D A [(h0, .inr (8, [.ref a1, .ref a2, .ref a3, .ref a4, .ref a5])), (h1, .inr (11, [.long n1, .long n2, .long (n3 + 0), .long (n4 - 1), .long (n5 + 1), .long (n6 - 1)]))] := hD
            refine lv_iconst (v := 1) hx hb d_Reckoner_exclude_112 (by decide) ?_
            exact fg_retz (n1, n2, n3 + 0, n4 - 1, n5 + 1, n6 - 1) hx hb hr hlocks rfl (Or.inl ⟨rfl, by unfold fn_exc; (repeat rw [if_neg gc_1]); (repeat rw [if_neg gc_2]); (repeat rw [if_pos gc_3]); (repeat rw [if_pos gc_7]); (repeat rw [if_pos gc_9]); first | done | rfl | contradiction⟩) (hP.sub (ws' := [(h0, .inr (8, [.ref a1, .ref a2, .ref a3, .ref a4, .ref a5])), (h1, .inr (11, [.long n1, .long n2, .long (n3 + 0), .long (n4 - 1), .long (n5 + 1), .long (n6 - 1)]))]) [0, 1] rfl) (hK.sub (tys' := []) [] rfl) (hD.sub (ws' := [(h0, .inr (8, [.ref a1, .ref a2, .ref a3, .ref a4, .ref a5])), (h1, .inr (11, [.long n1, .long n2, .long (n3 + 0), .long (n4 - 1), .long (n5 + 1), .long (n6 - 1)]))]) [0, 1] (by decide) rfl) hS (Nat.le_of_ble_eq_true rfl) (Nat.le_of_ble_eq_true rfl) d_Reckoner_exclude_113
    · have gc_2 : n3 = x1 := (lg_cmp_eq _ _).mp c_2
      refine lv_lconst (v := 1) hx hb d_Reckoner_exclude_34 (by decide) ?_
      refine lv_goto (tgt := 39) hx hb d_Reckoner_exclude_35 (by decide) ?_
      refine lv_ladd hx hb d_Reckoner_exclude_39 ?_
      refine va_put (D := D) (ci := 11) (v := .long (n3 + 1)) (ty := .long) (C := "FilterGuard$Num") (T := F_Num) (N := 6) hx hb hts i_Num t_Num t_Num_ok n_Num hown hK hP hD hS 1 rfl rfl 2 (by decide) (hts _ u_374) (fun _ h9 => h9) rfl (by decide +kernel) rfl rfl (Nat.le_of_ble_eq_true rfl) d_Reckoner_exclude_40 (fun H locs hP hD hS => ?_)
      have hP : va_P D classes [(h0, .inr (8, [.ref a1, .ref a2, .ref a3, .ref a4, .ref a5])), (h1, .inr (11, [.long n1, .long n2, .long (n3 + 1), .long n4, .long n5, .long n6]))] H := hP
      have hD : va_D A [(h0, .inr (8, [.ref a1, .ref a2, .ref a3, .ref a4, .ref a5])), (h1, .inr (11, [.long n1, .long n2, .long (n3 + 1), .long n4, .long n5, .long n6]))] := hD
      refine lv_aload_n hx hb d_Reckoner_exclude_43 rfl (lv_at hl 1 rfl) ?_
      refine lv_dup hx hb d_Reckoner_exclude_44 rfl ?_
      refine va_get (D := D) (ci := 11) (v := .long n4) (C := "FilterGuard$Num") (T := F_Num) (N := 6) hx hb hts i_Num hown hK hP 1 rfl rfl 3 (by decide) (hts _ u_377) (fun _ h9 => h9) rfl d_Reckoner_exclude_45 ?_
      refine lv_aload_n hx hb d_Reckoner_exclude_48 rfl (lv_at hl 1 rfl) ?_
      refine va_get (D := D) (ci := 11) (v := .long n4) (C := "FilterGuard$Num") (T := F_Num) (N := 6) hx hb hts i_Num hown hK hP 1 rfl rfl 3 (by decide) (hts _ u_377) (fun _ h9 => h9) rfl d_Reckoner_exclude_49 ?_
      refine lv_lload_n hx hb d_Reckoner_exclude_52 rfl (lv_at hl 2 rfl) ?_
      refine W.lcmp hx hb d_Reckoner_exclude_53 ?_
      refine lv_if_ne (tgt := 61) hx hb d_Reckoner_exclude_54 (by decide) (fun c_10 => ?_) (fun c_10 => ?_)
      · have gc_10 : ¬ n4 = x1 := fun z => c_10 ((lg_cmp_eq _ _).mpr z)
        refine lv_lconst (v := 0) hx hb d_Reckoner_exclude_61 (by decide) ?_
        refine lv_lsub hx hb d_Reckoner_exclude_62 ?_
        refine va_put (D := D) (ci := 11) (v := .long (n4 - 0)) (ty := .long) (C := "FilterGuard$Num") (T := F_Num) (N := 6) hx hb hts i_Num t_Num t_Num_ok n_Num hown hK hP hD hS 1 rfl rfl 3 (by decide) (hts _ u_377) (fun _ h9 => h9) rfl (by decide +kernel) rfl rfl (Nat.le_of_ble_eq_true rfl) d_Reckoner_exclude_63 (fun H locs hP hD hS => ?_)
        have hP : va_P D classes [(h0, .inr (8, [.ref a1, .ref a2, .ref a3, .ref a4, .ref a5])), (h1, .inr (11, [.long n1, .long n2, .long (n3 + 1), .long (n4 - 0), .long n5, .long n6]))] H := hP
        have hD : va_D A [(h0, .inr (8, [.ref a1, .ref a2, .ref a3, .ref a4, .ref a5])), (h1, .inr (11, [.long n1, .long n2, .long (n3 + 1), .long (n4 - 0), .long n5, .long n6]))] := hD
        refine lv_aload_n hx hb d_Reckoner_exclude_66 rfl (lv_at hl 1 rfl) ?_
        refine lv_dup hx hb d_Reckoner_exclude_67 rfl ?_
        refine va_get (D := D) (ci := 11) (v := .long n5) (C := "FilterGuard$Num") (T := F_Num) (N := 6) hx hb hts i_Num hown hK hP 1 rfl rfl 4 (by decide) (hts _ u_380) (fun _ h9 => h9) rfl d_Reckoner_exclude_68 ?_
        refine lv_aload_n hx hb d_Reckoner_exclude_71 rfl (lv_at hl 1 rfl) ?_
        refine va_get (D := D) (ci := 11) (v := .long n5) (C := "FilterGuard$Num") (T := F_Num) (N := 6) hx hb hts i_Num hown hK hP 1 rfl rfl 4 (by decide) (hts _ u_380) (fun _ h9 => h9) rfl d_Reckoner_exclude_72 ?_
        refine lv_lload_n hx hb d_Reckoner_exclude_75 rfl (lv_at hl 2 rfl) ?_
        refine W.lcmp hx hb d_Reckoner_exclude_76 ?_
        refine lv_if_ne (tgt := 84) hx hb d_Reckoner_exclude_77 (by decide) (fun c_11 => ?_) (fun c_11 => ?_)
        · have gc_11 : ¬ n5 = x1 := fun z => c_11 ((lg_cmp_eq _ _).mpr z)
          refine lv_lconst (v := 0) hx hb d_Reckoner_exclude_84 (by decide) ?_
          refine lv_ladd hx hb d_Reckoner_exclude_85 ?_
          refine va_put (D := D) (ci := 11) (v := .long (n5 + 0)) (ty := .long) (C := "FilterGuard$Num") (T := F_Num) (N := 6) hx hb hts i_Num t_Num t_Num_ok n_Num hown hK hP hD hS 1 rfl rfl 4 (by decide) (hts _ u_380) (fun _ h9 => h9) rfl (by decide +kernel) rfl rfl (Nat.le_of_ble_eq_true rfl) d_Reckoner_exclude_86 (fun H locs hP hD hS => ?_)
          have hP : va_P D classes [(h0, .inr (8, [.ref a1, .ref a2, .ref a3, .ref a4, .ref a5])), (h1, .inr (11, [.long n1, .long n2, .long (n3 + 1), .long (n4 - 0), .long (n5 + 0), .long n6]))] H := hP
          have hD : va_D A [(h0, .inr (8, [.ref a1, .ref a2, .ref a3, .ref a4, .ref a5])), (h1, .inr (11, [.long n1, .long n2, .long (n3 + 1), .long (n4 - 0), .long (n5 + 0), .long n6]))] := hD
          refine lv_aload_n hx hb d_Reckoner_exclude_89 rfl (lv_at hl 1 rfl) ?_
          refine lv_dup hx hb d_Reckoner_exclude_90 rfl ?_
          refine va_get (D := D) (ci := 11) (v := .long n6) (C := "FilterGuard$Num") (T := F_Num) (N := 6) hx hb hts i_Num hown hK hP 1 rfl rfl 5 (by decide) (hts _ u_382) (fun _ h9 => h9) rfl d_Reckoner_exclude_91 ?_
          refine lv_aload_n hx hb d_Reckoner_exclude_94 rfl (lv_at hl 1 rfl) ?_
          refine va_get (D := D) (ci := 11) (v := .long n6) (C := "FilterGuard$Num") (T := F_Num) (N := 6) hx hb hts i_Num hown hK hP 1 rfl rfl 5 (by decide) (hts _ u_382) (fun _ h9 => h9) rfl d_Reckoner_exclude_95 ?_
          refine lv_lload_n hx hb d_Reckoner_exclude_98 rfl (lv_at hl 2 rfl) ?_
          refine W.lcmp hx hb d_Reckoner_exclude_99 ?_
          refine lv_if_ne (tgt := 107) hx hb d_Reckoner_exclude_100 (by decide) (fun c_12 => ?_) (fun c_12 => ?_)
          · have gc_12 : ¬ n6 = x1 := fun z => c_12 ((lg_cmp_eq _ _).mpr z)
            refine lv_lconst (v := 0) hx hb d_Reckoner_exclude_107 (by decide) ?_
            refine lv_lsub hx hb d_Reckoner_exclude_108 ?_
            refine va_put (D := D) (ci := 11) (v := .long (n6 - 0)) (ty := .long) (C := "FilterGuard$Num") (T := F_Num) (N := 6) hx hb hts i_Num t_Num t_Num_ok n_Num hown hK hP hD hS 1 rfl rfl 5 (by decide) (hts _ u_382) (fun _ h9 => h9) rfl (by decide +kernel) rfl rfl (Nat.le_of_ble_eq_true rfl) d_Reckoner_exclude_109 (fun H locs hP hD hS => ?_)
            have hP : va_P D classes [(h0, .inr (8, [.ref a1, .ref a2, .ref a3, .ref a4, .ref a5])), (h1, .inr (11, [.long n1, .long n2, .long (n3 + 1), .long (n4 - 0), .long (n5 + 0), .long (n6 - 0)]))] H := hP
            have hD : va_D A [(h0, .inr (8, [.ref a1, .ref a2, .ref a3, .ref a4, .ref a5])), (h1, .inr (11, [.long n1, .long n2, .long (n3 + 1), .long (n4 - 0), .long (n5 + 0), .long (n6 - 0)]))] := hD
            refine lv_iconst (v := 1) hx hb d_Reckoner_exclude_112 (by decide) ?_
            exact fg_retz (n1, n2, n3 + 1, n4 - 0, n5 + 0, n6 - 0) hx hb hr hlocks rfl (Or.inl ⟨rfl, by unfold fn_exc; (repeat rw [if_neg gc_1]); (repeat rw [if_pos gc_2]); (repeat rw [if_neg gc_10]); (repeat rw [if_neg gc_11]); (repeat rw [if_neg gc_12]); first | done | rfl | contradiction⟩) (hP.sub (ws' := [(h0, .inr (8, [.ref a1, .ref a2, .ref a3, .ref a4, .ref a5])), (h1, .inr (11, [.long n1, .long n2, .long (n3 + 1), .long (n4 - 0), .long (n5 + 0), .long (n6 - 0)]))]) [0, 1] rfl) (hK.sub (tys' := []) [] rfl) (hD.sub (ws' := [(h0, .inr (8, [.ref a1, .ref a2, .ref a3, .ref a4, .ref a5])), (h1, .inr (11, [.long n1, .long n2, .long (n3 + 1), .long (n4 - 0), .long (n5 + 0), .long (n6 - 0)]))]) [0, 1] (by decide) rfl) hS (Nat.le_of_ble_eq_true rfl) (Nat.le_of_ble_eq_true rfl) d_Reckoner_exclude_113
          · have gc_12 : n6 = x1 := (lg_cmp_eq _ _).mp c_12
            refine lv_lconst (v := 1) hx hb d_Reckoner_exclude_103 (by decide) ?_
            refine lv_goto (tgt := 108) hx hb d_Reckoner_exclude_104 (by decide) ?_
            refine lv_lsub hx hb d_Reckoner_exclude_108 ?_
            refine va_put (D := D) (ci := 11) (v := .long (n6 - 1)) (ty := .long) (C := "FilterGuard$Num") (T := F_Num) (N := 6) hx hb hts i_Num t_Num t_Num_ok n_Num hown hK hP hD hS 1 rfl rfl 5 (by decide) (hts _ u_382) (fun _ h9 => h9) rfl (by decide +kernel) rfl rfl (Nat.le_of_ble_eq_true rfl) d_Reckoner_exclude_109 (fun H locs hP hD hS => ?_)
            have hP : va_P D classes [(h0, .inr (8, [.ref a1, .ref a2, .ref a3, .ref a4, .ref a5])), (h1, .inr (11, [.long n1, .long n2, .long (n3 + 1), .long (n4 - 0), .long (n5 + 0), .long (n6 - 1)]))] H := hP
            have hD : va_D A [(h0, .inr (8, [.ref a1, .ref a2, .ref a3, .ref a4, .ref a5])), (h1, .inr (11, [.long n1, .long n2, .long (n3 + 1), .long (n4 - 0), .long (n5 + 0), .long (n6 - 1)]))] := hD
            refine lv_iconst (v := 1) hx hb d_Reckoner_exclude_112 (by decide) ?_
            exact fg_retz (n1, n2, n3 + 1, n4 - 0, n5 + 0, n6 - 1) hx hb hr hlocks rfl (Or.inl ⟨rfl, by unfold fn_exc; (repeat rw [if_neg gc_1]); (repeat rw [if_pos gc_2]); (repeat rw [if_neg gc_10]); (repeat rw [if_neg gc_11]); (repeat rw [if_pos gc_12]); first | done | rfl | contradiction⟩) (hP.sub (ws' := [(h0, .inr (8, [.ref a1, .ref a2, .ref a3, .ref a4, .ref a5])), (h1, .inr (11, [.long n1, .long n2, .long (n3 + 1), .long (n4 - 0), .long (n5 + 0), .long (n6 - 1)]))]) [0, 1] rfl) (hK.sub (tys' := []) [] rfl) (hD.sub (ws' := [(h0, .inr (8, [.ref a1, .ref a2, .ref a3, .ref a4, .ref a5])), (h1, .inr (11, [.long n1, .long n2, .long (n3 + 1), .long (n4 - 0), .long (n5 + 0), .long (n6 - 1)]))]) [0, 1] (by decide) rfl) hS (Nat.le_of_ble_eq_true rfl) (Nat.le_of_ble_eq_true rfl) d_Reckoner_exclude_113
        · have gc_11 : n5 = x1 := (lg_cmp_eq _ _).mp c_11
          refine lv_lconst (v := 1) hx hb d_Reckoner_exclude_80 (by decide) ?_
          refine lv_goto (tgt := 85) hx hb d_Reckoner_exclude_81 (by decide) ?_
          refine lv_ladd hx hb d_Reckoner_exclude_85 ?_
          refine va_put (D := D) (ci := 11) (v := .long (n5 + 1)) (ty := .long) (C := "FilterGuard$Num") (T := F_Num) (N := 6) hx hb hts i_Num t_Num t_Num_ok n_Num hown hK hP hD hS 1 rfl rfl 4 (by decide) (hts _ u_380) (fun _ h9 => h9) rfl (by decide +kernel) rfl rfl (Nat.le_of_ble_eq_true rfl) d_Reckoner_exclude_86 (fun H locs hP hD hS => ?_)
          have hP : va_P D classes [(h0, .inr (8, [.ref a1, .ref a2, .ref a3, .ref a4, .ref a5])), (h1, .inr (11, [.long n1, .long n2, .long (n3 + 1), .long (n4 - 0), .long (n5 + 1), .long n6]))] H := hP
          have hD : va_D A [(h0, .inr (8, [.ref a1, .ref a2, .ref a3, .ref a4, .ref a5])), (h1, .inr (11, [.long n1, .long n2, .long (n3 + 1), .long (n4 - 0), .long (n5 + 1), .long n6]))] := hD
          refine lv_aload_n hx hb d_Reckoner_exclude_89 rfl (lv_at hl 1 rfl) ?_
          refine lv_dup hx hb d_Reckoner_exclude_90 rfl ?_
          refine va_get (D := D) (ci := 11) (v := .long n6) (C := "FilterGuard$Num") (T := F_Num) (N := 6) hx hb hts i_Num hown hK hP 1 rfl rfl 5 (by decide) (hts _ u_382) (fun _ h9 => h9) rfl d_Reckoner_exclude_91 ?_
          refine lv_aload_n hx hb d_Reckoner_exclude_94 rfl (lv_at hl 1 rfl) ?_
          refine va_get (D := D) (ci := 11) (v := .long n6) (C := "FilterGuard$Num") (T := F_Num) (N := 6) hx hb hts i_Num hown hK hP 1 rfl rfl 5 (by decide) (hts _ u_382) (fun _ h9 => h9) rfl d_Reckoner_exclude_95 ?_
          refine lv_lload_n hx hb d_Reckoner_exclude_98 rfl (lv_at hl 2 rfl) ?_
          refine W.lcmp hx hb d_Reckoner_exclude_99 ?_
          refine lv_if_ne (tgt := 107) hx hb d_Reckoner_exclude_100 (by decide) (fun c_13 => ?_) (fun c_13 => ?_)
          · have gc_13 : ¬ n6 = x1 := fun z => c_13 ((lg_cmp_eq _ _).mpr z)
            refine lv_lconst (v := 0) hx hb d_Reckoner_exclude_107 (by decide) ?_
            refine lv_lsub hx hb d_Reckoner_exclude_108 ?_
            refine va_put (D := D) (ci := 11) (v := .long (n6 - 0)) (ty := .long) (C := "FilterGuard$Num") (T := F_Num) (N := 6) hx hb hts i_Num t_Num t_Num_ok n_Num hown hK hP hD hS 1 rfl rfl 5 (by decide) (hts _ u_382) (fun _ h9 => h9) rfl (by decide +kernel) rfl rfl (Nat.le_of_ble_eq_true rfl) d_Reckoner_exclude_109 (fun H locs hP hD hS => ?_)
            have hP : va_P D classes [(h0, .inr (8, [.ref a1, .ref a2, .ref a3, .ref a4, .ref a5])), (h1, .inr (11, [.long n1, .long n2, .long (n3 + 1), .long (n4 - 0), .long (n5 + 1), .long (n6 - 0)]))] H := hP
            have hD : va_D A [(h0, .inr (8, [.ref a1, .ref a2, .ref a3, .ref a4, .ref a5])), (h1, .inr (11, [.long n1, .long n2, .long (n3 + 1), .long (n4 - 0), .long (n5 + 1), .long (n6 - 0)]))] := hD
            refine lv_iconst (v := 1) hx hb d_Reckoner_exclude_112 (by decide) ?_
            exact fg_retz (n1, n2, n3 + 1, n4 - 0, n5 + 1, n6 - 0) hx hb hr hlocks rfl (Or.inl ⟨rfl, by unfold fn_exc; (repeat rw [if_neg gc_1]); (repeat rw [if_pos gc_2]); (repeat rw [if_neg gc_10]); (repeat rw [if_pos gc_11]); (repeat rw [if_neg gc_13]); first | done | rfl | contradiction⟩) (hP.sub (ws' := [(h0, .inr (8, [.ref a1, .ref a2, .ref a3, .ref a4, .ref a5])), (h1, .inr (11, [.long n1, .long n2, .long (n3 + 1), .long (n4 - 0), .long (n5 + 1), .long (n6 - 0)]))]) [0, 1] rfl) (hK.sub (tys' := []) [] rfl) (hD.sub (ws' := [(h0, .inr (8, [.ref a1, .ref a2, .ref a3, .ref a4, .ref a5])), (h1, .inr (11, [.long n1, .long n2, .long (n3 + 1), .long (n4 - 0), .long (n5 + 1), .long (n6 - 0)]))]) [0, 1] (by decide) rfl) hS (Nat.le_of_ble_eq_true rfl) (Nat.le_of_ble_eq_true rfl) d_Reckoner_exclude_113
          · have gc_13 : n6 = x1 := (lg_cmp_eq _ _).mp c_13
            refine lv_lconst (v := 1) hx hb d_Reckoner_exclude_103 (by decide) ?_
            refine lv_goto (tgt := 108) hx hb d_Reckoner_exclude_104 (by decide) ?_
            refine lv_lsub hx hb d_Reckoner_exclude_108 ?_
            refine va_put (D := D) (ci := 11) (v := .long (n6 - 1)) (ty := .long) (C := "FilterGuard$Num") (T := F_Num) (N := 6) hx hb hts i_Num t_Num t_Num_ok n_Num hown hK hP hD hS 1 rfl rfl 5 (by decide) (hts _ u_382) (fun _ h9 => h9) rfl (by decide +kernel) rfl rfl (Nat.le_of_ble_eq_true rfl) d_Reckoner_exclude_109 (fun H locs hP hD hS => ?_)
            have hP : va_P D classes [(h0, .inr (8, [.ref a1, .ref a2, .ref a3, .ref a4, .ref a5])), (h1, .inr (11, [.long n1, .long n2, .long (n3 + 1), .long (n4 - 0), .long (n5 + 1), .long (n6 - 1)]))] H := hP
            have hD : va_D A [(h0, .inr (8, [.ref a1, .ref a2, .ref a3, .ref a4, .ref a5])), (h1, .inr (11, [.long n1, .long n2, .long (n3 + 1), .long (n4 - 0), .long (n5 + 1), .long (n6 - 1)]))] := hD
            refine lv_iconst (v := 1) hx hb d_Reckoner_exclude_112 (by decide) ?_
            exact fg_retz (n1, n2, n3 + 1, n4 - 0, n5 + 1, n6 - 1) hx hb hr hlocks rfl (Or.inl ⟨rfl, by unfold fn_exc; (repeat rw [if_neg gc_1]); (repeat rw [if_pos gc_2]); (repeat rw [if_neg gc_10]); (repeat rw [if_pos gc_11]); (repeat rw [if_pos gc_13]); first | done | rfl | contradiction⟩) (hP.sub (ws' := [(h0, .inr (8, [.ref a1, .ref a2, .ref a3, .ref a4, .ref a5])), (h1, .inr (11, [.long n1, .long n2, .long (n3 + 1), .long (n4 - 0), .long (n5 + 1), .long (n6 - 1)]))]) [0, 1] rfl) (hK.sub (tys' := []) [] rfl) (hD.sub (ws' := [(h0, .inr (8, [.ref a1, .ref a2, .ref a3, .ref a4, .ref a5])), (h1, .inr (11, [.long n1, .long n2, .long (n3 + 1), .long (n4 - 0), .long (n5 + 1), .long (n6 - 1)]))]) [0, 1] (by decide) rfl) hS (Nat.le_of_ble_eq_true rfl) (Nat.le_of_ble_eq_true rfl) d_Reckoner_exclude_113
      · have gc_10 : n4 = x1 := (lg_cmp_eq _ _).mp c_10
        refine lv_lconst (v := 1) hx hb d_Reckoner_exclude_57 (by decide) ?_
        refine lv_goto (tgt := 62) hx hb d_Reckoner_exclude_58 (by decide) ?_
        refine lv_lsub hx hb d_Reckoner_exclude_62 ?_
        refine va_put (D := D) (ci := 11) (v := .long (n4 - 1)) (ty := .long) (C := "FilterGuard$Num") (T := F_Num) (N := 6) hx hb hts i_Num t_Num t_Num_ok n_Num hown hK hP hD hS 1 rfl rfl 3 (by decide) (hts _ u_377) (fun _ h9 => h9) rfl (by decide +kernel) rfl rfl (Nat.le_of_ble_eq_true rfl) d_Reckoner_exclude_63 (fun H locs hP hD hS => ?_)
        have hP : va_P D classes [(h0, .inr (8, [.ref a1, .ref a2, .ref a3, .ref a4, .ref a5])), (h1, .inr (11, [.long n1, .long n2, .long (n3 + 1), .long (n4 - 1), .long n5, .long n6]))] H := hP
        have hD : va_D A [(h0, .inr (8, [.ref a1, .ref a2, .ref a3, .ref a4, .ref a5])), (h1, .inr (11, [.long n1, .long n2, .long (n3 + 1), .long (n4 - 1), .long n5, .long n6]))] := hD
        refine lv_aload_n hx hb d_Reckoner_exclude_66 rfl (lv_at hl 1 rfl) ?_
        refine lv_dup hx hb d_Reckoner_exclude_67 rfl ?_
        refine va_get (D := D) (ci := 11) (v := .long n5) (C := "FilterGuard$Num") (T := F_Num) (N := 6) hx hb hts i_Num hown hK hP 1 rfl rfl 4 (by decide) (hts _ u_380) (fun _ h9 => h9) rfl d_Reckoner_exclude_68 ?_
        refine lv_aload_n hx hb d_Reckoner_exclude_71 rfl (lv_at hl 1 rfl) ?_
        refine va_get (D := D) (ci := 11) (v := .long n5) (C := "FilterGuard$Num") (T := F_Num) (N := 6) hx hb hts i_Num hown hK hP 1 rfl rfl 4 (by decide) (hts _ u_380) (fun _ h9 => h9) rfl d_Reckoner_exclude_72 ?_
        refine lv_lload_n hx hb d_Reckoner_exclude_75 rfl (lv_at hl 2 rfl) ?_
        refine W.lcmp hx hb d_Reckoner_exclude_76 ?_
        refine lv_if_ne (tgt := 84) hx hb d_Reckoner_exclude_77 (by decide) (fun c_14 => ?_) (fun c_14 => ?_)
        · have gc_14 : ¬ n5 = x1 := fun z => c_14 ((lg_cmp_eq _ _).mpr z)
          refine lv_lconst (v := 0) hx hb d_Reckoner_exclude_84 (by decide) ?_
          refine lv_ladd hx hb d_Reckoner_exclude_85 ?_
          refine va_put (D := D) (ci := 11) (v := .long (n5 + 0)) (ty := .long) (C := "FilterGuard$Num") (T := F_Num) (N := 6) hx hb hts i_Num t_Num t_Num_ok n_Num hown hK hP hD hS 1 rfl rfl 4 (by decide) (hts _ u_380) (fun _ h9 => h9) rfl (by decide +kernel) rfl rfl (Nat.le_of_ble_eq_true rfl) d_Reckoner_exclude_86 (fun H locs hP hD hS => ?_)
          have hP : va_P D classes [(h0, .inr (8, [.ref a1, .ref a2, .ref a3, .ref a4, .ref a5])), (h1, .inr (11, [.long n1, .long n2, .long (n3 + 1), .long (n4 - 1), .long (n5 + 0), .long n6]))] H := hP
          have hD : va_D A [(h0, .inr (8, [.ref a1, .ref a2, .ref a3, .ref a4, .ref a5])), (h1, .inr (11, [.long n1, .long n2, .long (n3 + 1), .long (n4 - 1), .long (n5 + 0), .long n6]))] := hD
          refine lv_aload_n hx hb d_Reckoner_exclude_89 rfl (lv_at hl 1 rfl) ?_
          refine lv_dup hx hb d_Reckoner_exclude_90 rfl ?_
          refine va_get (D := D) (ci := 11) (v := .long n6) (C := "FilterGuard$Num") (T := F_Num) (N := 6) hx hb hts i_Num hown hK hP 1 rfl rfl 5 (by decide) (hts _ u_382) (fun _ h9 => h9) rfl d_Reckoner_exclude_91 ?_
          refine lv_aload_n hx hb d_Reckoner_exclude_94 rfl (lv_at hl 1 rfl) ?_
          refine va_get (D := D) (ci := 11) (v := .long n6) (C := "FilterGuard$Num") (T := F_Num) (N := 6) hx hb hts i_Num hown hK hP 1 rfl rfl 5 (by decide) (hts _ u_382) (fun _ h9 => h9) rfl d_Reckoner_exclude_95 ?_
          refine lv_lload_n hx hb d_Reckoner_exclude_98 rfl (lv_at hl 2 rfl) ?_
          refine W.lcmp hx hb d_Reckoner_exclude_99 ?_
          refine lv_if_ne (tgt := 107) hx hb d_Reckoner_exclude_100 (by decide) (fun c_15 => ?_) (fun c_15 => ?_)
          · have gc_15 : ¬ n6 = x1 := fun z => c_15 ((lg_cmp_eq _ _).mpr z)
            refine lv_lconst (v := 0) hx hb d_Reckoner_exclude_107 (by decide) ?_
            refine lv_lsub hx hb d_Reckoner_exclude_108 ?_
            refine va_put (D := D) (ci := 11) (v := .long (n6 - 0)) (ty := .long) (C := "FilterGuard$Num") (T := F_Num) (N := 6) hx hb hts i_Num t_Num t_Num_ok n_Num hown hK hP hD hS 1 rfl rfl 5 (by decide) (hts _ u_382) (fun _ h9 => h9) rfl (by decide +kernel) rfl rfl (Nat.le_of_ble_eq_true rfl) d_Reckoner_exclude_109 (fun H locs hP hD hS => ?_)
            have hP : va_P D classes [(h0, .inr (8, [.ref a1, .ref a2, .ref a3, .ref a4, .ref a5])), (h1, .inr (11, [.long n1, .long n2, .long (n3 + 1), .long (n4 - 1), .long (n5 + 0), .long (n6 - 0)]))] H := hP
            have hD : va_D A [(h0, .inr (8, [.ref a1, .ref a2, .ref a3, .ref a4, .ref a5])), (h1, .inr (11, [.long n1, .long n2, .long (n3 + 1), .long (n4 - 1), .long (n5 + 0), .long (n6 - 0)]))] := hD
            refine lv_iconst (v := 1) hx hb d_Reckoner_exclude_112 (by decide) ?_
            exact fg_retz (n1, n2, n3 + 1, n4 - 1, n5 + 0, n6 - 0) hx hb hr hlocks rfl (Or.inl ⟨rfl, by unfold fn_exc; (repeat rw [if_neg gc_1]); (repeat rw [if_pos gc_2]); (repeat rw [if_pos gc_10]); (repeat rw [if_neg gc_14]); (repeat rw [if_neg gc_15]); first | done | rfl | contradiction⟩) (hP.sub (ws' := [(h0, .inr (8, [.ref a1, .ref a2, .ref a3, .ref a4, .ref a5])), (h1, .inr (11, [.long n1, .long n2, .long (n3 + 1), .long (n4 - 1), .long (n5 + 0), .long (n6 - 0)]))]) [0, 1] rfl) (hK.sub (tys' := []) [] rfl) (hD.sub (ws' := [(h0, .inr (8, [.ref a1, .ref a2, .ref a3, .ref a4, .ref a5])), (h1, .inr (11, [.long n1, .long n2, .long (n3 + 1), .long (n4 - 1), .long (n5 + 0), .long (n6 - 0)]))]) [0, 1] (by decide) rfl) hS (Nat.le_of_ble_eq_true rfl) (Nat.le_of_ble_eq_true rfl) d_Reckoner_exclude_113
          · have gc_15 : n6 = x1 := (lg_cmp_eq _ _).mp c_15
            refine lv_lconst (v := 1) hx hb d_Reckoner_exclude_103 (by decide) ?_
            refine lv_goto (tgt := 108) hx hb d_Reckoner_exclude_104 (by decide) ?_
            refine lv_lsub hx hb d_Reckoner_exclude_108 ?_
            refine va_put (D := D) (ci := 11) (v := .long (n6 - 1)) (ty := .long) (C := "FilterGuard$Num") (T := F_Num) (N := 6) hx hb hts i_Num t_Num t_Num_ok n_Num hown hK hP hD hS 1 rfl rfl 5 (by decide) (hts _ u_382) (fun _ h9 => h9) rfl (by decide +kernel) rfl rfl (Nat.le_of_ble_eq_true rfl) d_Reckoner_exclude_109 (fun H locs hP hD hS => ?_)
            have hP : va_P D classes [(h0, .inr (8, [.ref a1, .ref a2, .ref a3, .ref a4, .ref a5])), (h1, .inr (11, [.long n1, .long n2, .long (n3 + 1), .long (n4 - 1), .long (n5 + 0), .long (n6 - 1)]))] H := hP
            have hD : va_D A [(h0, .inr (8, [.ref a1, .ref a2, .ref a3, .ref a4, .ref a5])), (h1, .inr (11, [.long n1, .long n2, .long (n3 + 1), .long (n4 - 1), .long (n5 + 0), .long (n6 - 1)]))] := hD
            refine lv_iconst (v := 1) hx hb d_Reckoner_exclude_112 (by decide) ?_
            exact fg_retz (n1, n2, n3 + 1, n4 - 1, n5 + 0, n6 - 1) hx hb hr hlocks rfl (Or.inl ⟨rfl, by unfold fn_exc; (repeat rw [if_neg gc_1]); (repeat rw [if_pos gc_2]); (repeat rw [if_pos gc_10]); (repeat rw [if_neg gc_14]); (repeat rw [if_pos gc_15]); first | done | rfl | contradiction⟩) (hP.sub (ws' := [(h0, .inr (8, [.ref a1, .ref a2, .ref a3, .ref a4, .ref a5])), (h1, .inr (11, [.long n1, .long n2, .long (n3 + 1), .long (n4 - 1), .long (n5 + 0), .long (n6 - 1)]))]) [0, 1] rfl) (hK.sub (tys' := []) [] rfl) (hD.sub (ws' := [(h0, .inr (8, [.ref a1, .ref a2, .ref a3, .ref a4, .ref a5])), (h1, .inr (11, [.long n1, .long n2, .long (n3 + 1), .long (n4 - 1), .long (n5 + 0), .long (n6 - 1)]))]) [0, 1] (by decide) rfl) hS (Nat.le_of_ble_eq_true rfl) (Nat.le_of_ble_eq_true rfl) d_Reckoner_exclude_113
        · have gc_14 : n5 = x1 := (lg_cmp_eq _ _).mp c_14
          refine lv_lconst (v := 1) hx hb d_Reckoner_exclude_80 (by decide) ?_
          refine lv_goto (tgt := 85) hx hb d_Reckoner_exclude_81 (by decide) ?_
          refine lv_ladd hx hb d_Reckoner_exclude_85 ?_
          refine va_put (D := D) (ci := 11) (v := .long (n5 + 1)) (ty := .long) (C := "FilterGuard$Num") (T := F_Num) (N := 6) hx hb hts i_Num t_Num t_Num_ok n_Num hown hK hP hD hS 1 rfl rfl 4 (by decide) (hts _ u_380) (fun _ h9 => h9) rfl (by decide +kernel) rfl rfl (Nat.le_of_ble_eq_true rfl) d_Reckoner_exclude_86 (fun H locs hP hD hS => ?_)
          have hP : va_P D classes [(h0, .inr (8, [.ref a1, .ref a2, .ref a3, .ref a4, .ref a5])), (h1, .inr (11, [.long n1, .long n2, .long (n3 + 1), .long (n4 - 1), .long (n5 + 1), .long n6]))] H := hP
          have hD : va_D A [(h0, .inr (8, [.ref a1, .ref a2, .ref a3, .ref a4, .ref a5])), (h1, .inr (11, [.long n1, .long n2, .long (n3 + 1), .long (n4 - 1), .long (n5 + 1), .long n6]))] := hD
          refine lv_aload_n hx hb d_Reckoner_exclude_89 rfl (lv_at hl 1 rfl) ?_
          refine lv_dup hx hb d_Reckoner_exclude_90 rfl ?_
          refine va_get (D := D) (ci := 11) (v := .long n6) (C := "FilterGuard$Num") (T := F_Num) (N := 6) hx hb hts i_Num hown hK hP 1 rfl rfl 5 (by decide) (hts _ u_382) (fun _ h9 => h9) rfl d_Reckoner_exclude_91 ?_
          refine lv_aload_n hx hb d_Reckoner_exclude_94 rfl (lv_at hl 1 rfl) ?_
          refine va_get (D := D) (ci := 11) (v := .long n6) (C := "FilterGuard$Num") (T := F_Num) (N := 6) hx hb hts i_Num hown hK hP 1 rfl rfl 5 (by decide) (hts _ u_382) (fun _ h9 => h9) rfl d_Reckoner_exclude_95 ?_
          refine lv_lload_n hx hb d_Reckoner_exclude_98 rfl (lv_at hl 2 rfl) ?_
          refine W.lcmp hx hb d_Reckoner_exclude_99 ?_
          refine lv_if_ne (tgt := 107) hx hb d_Reckoner_exclude_100 (by decide) (fun c_16 => ?_) (fun c_16 => ?_)
          · have gc_16 : ¬ n6 = x1 := fun z => c_16 ((lg_cmp_eq _ _).mpr z)
            refine lv_lconst (v := 0) hx hb d_Reckoner_exclude_107 (by decide) ?_
            refine lv_lsub hx hb d_Reckoner_exclude_108 ?_
            refine va_put (D := D) (ci := 11) (v := .long (n6 - 0)) (ty := .long) (C := "FilterGuard$Num") (T := F_Num) (N := 6) hx hb hts i_Num t_Num t_Num_ok n_Num hown hK hP hD hS 1 rfl rfl 5 (by decide) (hts _ u_382) (fun _ h9 => h9) rfl (by decide +kernel) rfl rfl (Nat.le_of_ble_eq_true rfl) d_Reckoner_exclude_109 (fun H locs hP hD hS => ?_)
            have hP : va_P D classes [(h0, .inr (8, [.ref a1, .ref a2, .ref a3, .ref a4, .ref a5])), (h1, .inr (11, [.long n1, .long n2, .long (n3 + 1), .long (n4 - 1), .long (n5 + 1), .long (n6 - 0)]))] H := hP
            have hD : va_D A [(h0, .inr (8, [.ref a1, .ref a2, .ref a3, .ref a4, .ref a5])), (h1, .inr (11, [.long n1, .long n2, .long (n3 + 1), .long (n4 - 1), .long (n5 + 1), .long (n6 - 0)]))] := hD
            refine lv_iconst (v := 1) hx hb d_Reckoner_exclude_112 (by decide) ?_
            exact fg_retz (n1, n2, n3 + 1, n4 - 1, n5 + 1, n6 - 0) hx hb hr hlocks rfl (Or.inl ⟨rfl, by unfold fn_exc; (repeat rw [if_neg gc_1]); (repeat rw [if_pos gc_2]); (repeat rw [if_pos gc_10]); (repeat rw [if_pos gc_14]); (repeat rw [if_neg gc_16]); first | done | rfl | contradiction⟩) (hP.sub (ws' := [(h0, .inr (8, [.ref a1, .ref a2, .ref a3, .ref a4, .ref a5])), (h1, .inr (11, [.long n1, .long n2, .long (n3 + 1), .long (n4 - 1), .long (n5 + 1), .long (n6 - 0)]))]) [0, 1] rfl) (hK.sub (tys' := []) [] rfl) (hD.sub (ws' := [(h0, .inr (8, [.ref a1, .ref a2, .ref a3, .ref a4, .ref a5])), (h1, .inr (11, [.long n1, .long n2, .long (n3 + 1), .long (n4 - 1), .long (n5 + 1), .long (n6 - 0)]))]) [0, 1] (by decide) rfl) hS (Nat.le_of_ble_eq_true rfl) (Nat.le_of_ble_eq_true rfl) d_Reckoner_exclude_113
          · have gc_16 : n6 = x1 := (lg_cmp_eq _ _).mp c_16
            refine lv_lconst (v := 1) hx hb d_Reckoner_exclude_103 (by decide) ?_
            refine lv_goto (tgt := 108) hx hb d_Reckoner_exclude_104 (by decide) ?_
            refine lv_lsub hx hb d_Reckoner_exclude_108 ?_
            refine va_put (D := D) (ci := 11) (v := .long (n6 - 1)) (ty := .long) (C := "FilterGuard$Num") (T := F_Num) (N := 6) hx hb hts i_Num t_Num t_Num_ok n_Num hown hK hP hD hS 1 rfl rfl 5 (by decide) (hts _ u_382) (fun _ h9 => h9) rfl (by decide +kernel) rfl rfl (Nat.le_of_ble_eq_true rfl) d_Reckoner_exclude_109 (fun H locs hP hD hS => ?_)
            have hP : va_P D classes [(h0, .inr (8, [.ref a1, .ref a2, .ref a3, .ref a4, .ref a5])), (h1, .inr (11, [.long n1, .long n2, .long (n3 + 1), .long (n4 - 1), .long (n5 + 1), .long (n6 - 1)]))] H := hP
            have hD : va_D A [(h0, .inr (8, [.ref a1, .ref a2, .ref a3, .ref a4, .ref a5])), (h1, .inr (11, [.long n1, .long n2, .long (n3 + 1), .long (n4 - 1), .long (n5 + 1), .long (n6 - 1)]))] := hD
            refine lv_iconst (v := 1) hx hb d_Reckoner_exclude_112 (by decide) ?_
            exact fg_retz (n1, n2, n3 + 1, n4 - 1, n5 + 1, n6 - 1) hx hb hr hlocks rfl (Or.inl ⟨rfl, by unfold fn_exc; (repeat rw [if_neg gc_1]); (repeat rw [if_pos gc_2]); (repeat rw [if_pos gc_10]); (repeat rw [if_pos gc_14]); (repeat rw [if_pos gc_16]); first | done | rfl | contradiction⟩) (hP.sub (ws' := [(h0, .inr (8, [.ref a1, .ref a2, .ref a3, .ref a4, .ref a5])), (h1, .inr (11, [.long n1, .long n2, .long (n3 + 1), .long (n4 - 1), .long (n5 + 1), .long (n6 - 1)]))]) [0, 1] rfl) (hK.sub (tys' := []) [] rfl) (hD.sub (ws' := [(h0, .inr (8, [.ref a1, .ref a2, .ref a3, .ref a4, .ref a5])), (h1, .inr (11, [.long n1, .long n2, .long (n3 + 1), .long (n4 - 1), .long (n5 + 1), .long (n6 - 1)]))]) [0, 1] (by decide) rfl) hS (Nat.le_of_ble_eq_true rfl) (Nat.le_of_ble_eq_true rfl) d_Reckoner_exclude_113
  · have gc_1 : n2 = 0 := (lg_cmp_eq _ _).mp c_1
    refine lv_aload_n hx hb d_Reckoner_exclude_9 rfl (lv_at hl 1 rfl) ?_
    refine va_get (D := D) (ci := 11) (v := .long n1) (C := "FilterGuard$Num") (T := F_Num) (N := 6) hx hb hts i_Num hown hK hP 1 rfl rfl 0 (by decide) (hts _ u_368) (fun _ h9 => h9) rfl d_Reckoner_exclude_10 ?_
    refine lv_lload_n hx hb d_Reckoner_exclude_13 rfl (lv_at hl 2 rfl) ?_
    refine W.lcmp hx hb d_Reckoner_exclude_14 ?_
    refine lv_if_ne (tgt := 20) hx hb d_Reckoner_exclude_15 (by decide) (fun c_17 => ?_) (fun c_17 => ?_)
    · have gc_17 : ¬ n1 = x1 := fun z => c_17 ((lg_cmp_eq _ _).mpr z)
      refine lv_aload_n hx hb d_Reckoner_exclude_20 rfl (lv_at hl 1 rfl) ?_
      refine lv_dup hx hb d_Reckoner_exclude_21 rfl ?_
      refine va_get (D := D) (ci := 11) (v := .long n3) (C := "FilterGuard$Num") (T := F_Num) (N := 6) hx hb hts i_Num hown hK hP 1 rfl rfl 2 (by decide) (hts _ u_374) (fun _ h9 => h9) rfl d_Reckoner_exclude_22 ?_
      refine lv_aload_n hx hb d_Reckoner_exclude_25 rfl (lv_at hl 1 rfl) ?_
      refine va_get (D := D) (ci := 11) (v := .long n3) (C := "FilterGuard$Num") (T := F_Num) (N := 6) hx hb hts i_Num hown hK hP 1 rfl rfl 2 (by decide) (hts _ u_374) (fun _ h9 => h9) rfl d_Reckoner_exclude_26 ?_
      refine lv_lload_n hx hb d_Reckoner_exclude_29 rfl (lv_at hl 2 rfl) ?_
      refine W.lcmp hx hb d_Reckoner_exclude_30 ?_
      refine lv_if_ne (tgt := 38) hx hb d_Reckoner_exclude_31 (by decide) (fun c_18 => ?_) (fun c_18 => ?_)
      · have gc_18 : ¬ n3 = x1 := fun z => c_18 ((lg_cmp_eq _ _).mpr z)
        refine lv_lconst (v := 0) hx hb d_Reckoner_exclude_38 (by decide) ?_
        refine lv_ladd hx hb d_Reckoner_exclude_39 ?_
        refine va_put (D := D) (ci := 11) (v := .long (n3 + 0)) (ty := .long) (C := "FilterGuard$Num") (T := F_Num) (N := 6) hx hb hts i_Num t_Num t_Num_ok n_Num hown hK hP hD hS 1 rfl rfl 2 (by decide) (hts _ u_374) (fun _ h9 => h9) rfl (by decide +kernel) rfl rfl (Nat.le_of_ble_eq_true rfl) d_Reckoner_exclude_40 (fun H locs hP hD hS => ?_)
        have hP : va_P D classes [(h0, .inr (8, [.ref a1, .ref a2, .ref a3, .ref a4, .ref a5])), (h1, .inr (11, [.long n1, .long n2, .long (n3 + 0), .long n4, .long n5, .long n6]))] H := hP
        have hD : va_D A [(h0, .inr (8, [.ref a1, .ref a2, .ref a3, .ref a4, .ref a5])), (h1, .inr (11, [.long n1, .long n2, .long (n3 + 0), .long n4, .long n5, .long n6]))] := hD
        refine lv_aload_n hx hb d_Reckoner_exclude_43 rfl (lv_at hl 1 rfl) ?_
        refine lv_dup hx hb d_Reckoner_exclude_44 rfl ?_
        refine va_get (D := D) (ci := 11) (v := .long n4) (C := "FilterGuard$Num") (T := F_Num) (N := 6) hx hb hts i_Num hown hK hP 1 rfl rfl 3 (by decide) (hts _ u_377) (fun _ h9 => h9) rfl d_Reckoner_exclude_45 ?_
        refine lv_aload_n hx hb d_Reckoner_exclude_48 rfl (lv_at hl 1 rfl) ?_
        refine va_get (D := D) (ci := 11) (v := .long n4) (C := "FilterGuard$Num") (T := F_Num) (N := 6) hx hb hts i_Num hown hK hP 1 rfl rfl 3 (by decide) (hts _ u_377) (fun _ h9 => h9) rfl d_Reckoner_exclude_49 ?_
        refine lv_lload_n hx hb d_Reckoner_exclude_52 rfl (lv_at hl 2 rfl) ?_
        refine W.lcmp hx hb d_Reckoner_exclude_53 ?_
        refine lv_if_ne (tgt := 61) hx hb d_Reckoner_exclude_54 (by decide) (fun c_19 => ?_) (fun c_19 => ?_)
        · have gc_19 : ¬ n4 = x1 := fun z => c_19 ((lg_cmp_eq _ _).mpr z)
          refine lv_lconst (v := 0) hx hb d_Reckoner_exclude_61 (by decide) ?_
          refine lv_lsub hx hb d_Reckoner_exclude_62 ?_
          refine va_put (D := D) (ci := 11) (v := .long (n4 - 0)) (ty := .long) (C := "FilterGuard$Num") (T := F_Num) (N := 6) hx hb hts i_Num t_Num t_Num_ok n_Num hown hK hP hD hS 1 rfl rfl 3 (by decide) (hts _ u_377) (fun _ h9 => h9) rfl (by decide +kernel) rfl rfl (Nat.le_of_ble_eq_true rfl) d_Reckoner_exclude_63 (fun H locs hP hD hS => ?_)
          have hP : va_P D classes [(h0, .inr (8, [.ref a1, .ref a2, .ref a3, .ref a4, .ref a5])), (h1, .inr (11, [.long n1, .long n2, .long (n3 + 0), .long (n4 - 0), .long n5, .long n6]))] H := hP
          have hD : va_D A [(h0, .inr (8, [.ref a1, .ref a2, .ref a3, .ref a4, .ref a5])), (h1, .inr (11, [.long n1, .long n2, .long (n3 + 0), .long (n4 - 0), .long n5, .long n6]))] := hD
          refine lv_aload_n hx hb d_Reckoner_exclude_66 rfl (lv_at hl 1 rfl) ?_
          refine lv_dup hx hb d_Reckoner_exclude_67 rfl ?_
          refine va_get (D := D) (ci := 11) (v := .long n5) (C := "FilterGuard$Num") (T := F_Num) (N := 6) hx hb hts i_Num hown hK hP 1 rfl rfl 4 (by decide) (hts _ u_380) (fun _ h9 => h9) rfl d_Reckoner_exclude_68 ?_
          refine lv_aload_n hx hb d_Reckoner_exclude_71 rfl (lv_at hl 1 rfl) ?_
          refine va_get (D := D) (ci := 11) (v := .long n5) (C := "FilterGuard$Num") (T := F_Num) (N := 6) hx hb hts i_Num hown hK hP 1 rfl rfl 4 (by decide) (hts _ u_380) (fun _ h9 => h9) rfl d_Reckoner_exclude_72 ?_
          refine lv_lload_n hx hb d_Reckoner_exclude_75 rfl (lv_at hl 2 rfl) ?_
          refine W.lcmp hx hb d_Reckoner_exclude_76 ?_
          refine lv_if_ne (tgt := 84) hx hb d_Reckoner_exclude_77 (by decide) (fun c_20 => ?_) (fun c_20 => ?_)
          · have gc_20 : ¬ n5 = x1 := fun z => c_20 ((lg_cmp_eq _ _).mpr z)
            refine lv_lconst (v := 0) hx hb d_Reckoner_exclude_84 (by decide) ?_
            refine lv_ladd hx hb d_Reckoner_exclude_85 ?_
            refine va_put (D := D) (ci := 11) (v := .long (n5 + 0)) (ty := .long) (C := "FilterGuard$Num") (T := F_Num) (N := 6) hx hb hts i_Num t_Num t_Num_ok n_Num hown hK hP hD hS 1 rfl rfl 4 (by decide) (hts _ u_380) (fun _ h9 => h9) rfl (by decide +kernel) rfl rfl (Nat.le_of_ble_eq_true rfl) d_Reckoner_exclude_86 (fun H locs hP hD hS => ?_)
            have hP : va_P D classes [(h0, .inr (8, [.ref a1, .ref a2, .ref a3, .ref a4, .ref a5])), (h1, .inr (11, [.long n1, .long n2, .long (n3 + 0), .long (n4 - 0), .long (n5 + 0), .long n6]))] H := hP
            have hD : va_D A [(h0, .inr (8, [.ref a1, .ref a2, .ref a3, .ref a4, .ref a5])), (h1, .inr (11, [.long n1, .long n2, .long (n3 + 0), .long (n4 - 0), .long (n5 + 0), .long n6]))] := hD
            refine lv_aload_n hx hb d_Reckoner_exclude_89 rfl (lv_at hl 1 rfl) ?_
            refine lv_dup hx hb d_Reckoner_exclude_90 rfl ?_
            refine va_get (D := D) (ci := 11) (v := .long n6) (C := "FilterGuard$Num") (T := F_Num) (N := 6) hx hb hts i_Num hown hK hP 1 rfl rfl 5 (by decide) (hts _ u_382) (fun _ h9 => h9) rfl d_Reckoner_exclude_91 ?_
            refine lv_aload_n hx hb d_Reckoner_exclude_94 rfl (lv_at hl 1 rfl) ?_
            refine va_get (D := D) (ci := 11) (v := .long n6) (C := "FilterGuard$Num") (T := F_Num) (N := 6) hx hb hts i_Num hown hK hP 1 rfl rfl 5 (by decide) (hts _ u_382) (fun _ h9 => h9) rfl d_Reckoner_exclude_95 ?_
            refine lv_lload_n hx hb d_Reckoner_exclude_98 rfl (lv_at hl 2 rfl) ?_
            refine W.lcmp hx hb d_Reckoner_exclude_99 ?_
            refine lv_if_ne (tgt := 107) hx hb d_Reckoner_exclude_100 (by decide) (fun c_21 => ?_) (fun c_21 => ?_)
            · have gc_21 : ¬ n6 = x1 := fun z => c_21 ((lg_cmp_eq _ _).mpr z)
              refine lv_lconst (v := 0) hx hb d_Reckoner_exclude_107 (by decide) ?_
              refine lv_lsub hx hb d_Reckoner_exclude_108 ?_
              refine va_put (D := D) (ci := 11) (v := .long (n6 - 0)) (ty := .long) (C := "FilterGuard$Num") (T := F_Num) (N := 6) hx hb hts i_Num t_Num t_Num_ok n_Num hown hK hP hD hS 1 rfl rfl 5 (by decide) (hts _ u_382) (fun _ h9 => h9) rfl (by decide +kernel) rfl rfl (Nat.le_of_ble_eq_true rfl) d_Reckoner_exclude_109 (fun H locs hP hD hS => ?_)
              have hP : va_P D classes [(h0, .inr (8, [.ref a1, .ref a2, .ref a3, .ref a4, .ref a5])), (h1, .inr (11, [.long n1, .long n2, .long (n3 + 0), .long (n4 - 0), .long (n5 + 0), .long (n6 - 0)]))] H := hP
              have hD : va_D A [(h0, .inr (8, [.ref a1, .ref a2, .ref a3, .ref a4, .ref a5])), (h1, .inr (11, [.long n1, .long n2, .long (n3 + 0), .long (n4 - 0), .long (n5 + 0), .long (n6 - 0)]))] := hD
              refine lv_iconst (v := 1) hx hb d_Reckoner_exclude_112 (by decide) ?_
              exact fg_retz (n1, n2, n3 + 0, n4 - 0, n5 + 0, n6 - 0) hx hb hr hlocks rfl (Or.inl ⟨rfl, by unfold fn_exc; (repeat rw [if_pos gc_1]); (repeat rw [if_neg gc_17]); (repeat rw [if_neg gc_18]); (repeat rw [if_neg gc_19]); (repeat rw [if_neg gc_20]); (repeat rw [if_neg gc_21]); first | done | rfl | contradiction⟩) (hP.sub (ws' := [(h0, .inr (8, [.ref a1, .ref a2, .ref a3, .ref a4, .ref a5])), (h1, .inr (11, [.long n1, .long n2, .long (n3 + 0), .long (n4 - 0), .long (n5 + 0), .long (n6 - 0)]))]) [0, 1] rfl) (hK.sub (tys' := []) [] rfl) (hD.sub (ws' := [(h0, .inr (8, [.ref a1, .ref a2, .ref a3, .ref a4, .ref a5])), (h1, .inr (11, [.long n1, .long n2, .long (n3 + 0), .long (n4 - 0), .long (n5 + 0), .long (n6 - 0)]))]) [0, 1] (by decide) rfl) hS (Nat.le_of_ble_eq_true rfl) (Nat.le_of_ble_eq_true rfl) d_Reckoner_exclude_113
            · have gc_21 : n6 = x1 := (lg_cmp_eq _ _).mp c_21
              refine lv_lconst (v := 1) hx hb d_Reckoner_exclude_103 (by decide) ?_
              refine lv_goto (tgt := 108) hx hb d_Reckoner_exclude_104 (by decide) ?_
              refine lv_lsub hx hb d_Reckoner_exclude_108 ?_
              refine va_put (D := D) (ci := 11) (v := .long (n6 - 1)) (ty := .long) (C := "FilterGuard$Num") (T := F_Num) (N := 6) hx hb hts i_Num t_Num t_Num_ok n_Num hown hK hP hD hS 1 rfl rfl 5 (by decide) (hts _ u_382) (fun _ h9 => h9) rfl (by decide +kernel) rfl rfl (Nat.le_of_ble_eq_true rfl) d_Reckoner_exclude_109 (fun H locs hP hD hS => ?_)
              have hP : va_P D classes [(h0, .inr (8, [.ref a1, .ref a2, .ref a3, .ref a4, .ref a5])), (h1, .inr (11, [.long n1, .long n2, .long (n3 + 0), .long (n4 - 0), .long (n5 + 0), .long (n6 - 1)]))] H := hP
              have hD : va_D A [(h0, .inr (8, [.ref a1, .ref a2, .ref a3, .ref a4, .ref a5])), (h1, .inr (11, [.long n1, .long n2, .long (n3 + 0), .long (n4 - 0), .long (n5 + 0), .long (n6 - 1)]))] := hD
              refine lv_iconst (v := 1) hx hb d_Reckoner_exclude_112 (by decide) ?_
              exact fg_retz (n1, n2, n3 + 0, n4 - 0, n5 + 0, n6 - 1) hx hb hr hlocks rfl (Or.inl ⟨rfl, by unfold fn_exc; (repeat rw [if_pos gc_1]); (repeat rw [if_neg gc_17]); (repeat rw [if_neg gc_18]); (repeat rw [if_neg gc_19]); (repeat rw [if_neg gc_20]); (repeat rw [if_pos gc_21]); first | done | rfl | contradiction⟩) (hP.sub (ws' := [(h0, .inr (8, [.ref a1, .ref a2, .ref a3, .ref a4, .ref a5])), (h1, .inr (11, [.long n1, .long n2, .long (n3 + 0), .long (n4 - 0), .long (n5 + 0), .long (n6 - 1)]))]) [0, 1] rfl) (hK.sub (tys' := []) [] rfl) (hD.sub (ws' := [(h0, .inr (8, [.ref a1, .ref a2, .ref a3, .ref a4, .ref a5])), (h1, .inr (11, [.long n1, .long n2, .long (n3 + 0), .long (n4 - 0), .long (n5 + 0), .long (n6 - 1)]))]) [0, 1] (by decide) rfl) hS (Nat.le_of_ble_eq_true rfl) (Nat.le_of_ble_eq_true rfl) d_Reckoner_exclude_113
          · have gc_20 : n5 = x1 := (lg_cmp_eq _ _).mp c_20
            refine lv_lconst (v := 1) hx hb d_Reckoner_exclude_80 (by decide) ?_
            refine lv_goto (tgt := 85) hx hb d_Reckoner_exclude_81 (by decide) ?_
            refine lv_ladd hx hb d_Reckoner_exclude_85 ?_
            refine va_put (D := D) (ci := 11) (v := .long (n5 + 1)) (ty := .long) (C := "FilterGuard$Num") (T := F_Num) (N := 6) hx hb hts i_Num t_Num t_Num_ok n_Num hown hK hP hD hS 1 rfl rfl 4 (by decide) (hts _ u_380) (fun _ h9 => h9) rfl (by decide +kernel) rfl rfl (Nat.le_of_ble_eq_true rfl) d_Reckoner_exclude_86 (fun H locs hP hD hS => ?_)
            have hP : va_P D classes [(h0, .inr (8, [.ref a1, .ref a2, .ref a3, .ref a4, .ref a5])), (h1, .inr (11, [.long n1, .long n2, .long (n3 + 0), .long (n4 - 0), .long (n5 + 1), .long n6]))] H := hP
            have hD : va_D A [(h0, .inr (8, [.ref a1, .ref a2, .ref a3, .ref a4, .ref a5])), (h1, .inr (11, [.long n1, .long n2, .long (n3 + 0), .long (n4 - 0), .long (n5 + 1), .long n6]))] := hD
            refine lv_aload_n hx hb d_Reckoner_exclude_89 rfl (lv_at hl 1 rfl) ?_
            refine lv_dup hx hb d_Reckoner_exclude_90 rfl ?_
            refine va_get (D := D) (ci := 11) (v := .long n6) (C := "FilterGuard$Num") (T := F_Num) (N := 6) hx hb hts i_Num hown hK hP 1 rfl rfl 5 (by decide) (hts _ u_382) (fun _ h9 => h9) rfl d_Reckoner_exclude_91 ?_
            refine lv_aload_n hx hb d_Reckoner_exclude_94 rfl (lv_at hl 1 rfl) ?_
            refine va_get (D := D) (ci := 11) (v := .long n6) (C := "FilterGuard$Num") (T := F_Num) (N := 6) hx hb hts i_Num hown hK hP 1 rfl rfl 5 (by decide) (hts _ u_382) (fun _ h9 => h9) rfl d_Reckoner_exclude_95 ?_
            refine lv_lload_n hx hb d_Reckoner_exclude_98 rfl (lv_at hl 2 rfl) ?_
            refine W.lcmp hx hb d_Reckoner_exclude_99 ?_
            refine lv_if_ne (tgt := 107) hx hb d_Reckoner_exclude_100 (by decide) (fun c_22 => ?_) (fun c_22 => ?_)
            · have gc_22 : ¬ n6 = x1 := fun z => c_22 ((lg_cmp_eq _ _).mpr z)
              refine lv_lconst (v := 0) hx hb d_Reckoner_exclude_107 (by decide) ?_
              refine lv_lsub hx hb d_Reckoner_exclude_108 ?_
              refine va_put (D := D) (ci := 11) (v := .long (n6 - 0)) (ty := .long) (C := "FilterGuard$Num") (T := F_Num) (N := 6) hx hb hts i_Num t_Num t_Num_ok n_Num hown hK hP hD hS 1 rfl rfl 5 (by decide) (hts _ u_382) (fun _ h9 => h9) rfl (by decide +kernel) rfl rfl (Nat.le_of_ble_eq_true rfl) d_Reckoner_exclude_109 (fun H locs hP hD hS => ?_)
              have hP : va_P D classes [(h0, .inr (8, [.ref a1, .ref a2, .ref a3, .ref a4, .ref a5])), (h1, .inr (11, [.long n1, .long n2, .long (n3 + 0), .long (n4 - 0), .long (n5 + 1), .long (n6 - 0)]))] H := hP
              have hD : va_D A [(h0, .inr (8, [.ref a1, .ref a2, .ref a3, .ref a4, .ref a5])), (h1, .inr (11, [.long n1, .long n2, .long (n3 + 0), .long (n4 - 0), .long (n5 + 1), .long (n6 - 0)]))] := hD
              refine lv_iconst (v := 1) hx hb d_Reckoner_exclude_112 (by decide) ?_
              exact fg_retz (n1, n2, n3 + 0, n4 - 0, n5 + 1, n6 - 0) hx hb hr hlocks rfl (Or.inl ⟨rfl, by unfold fn_exc; (repeat rw [if_pos gc_1]); (repeat rw [if_neg gc_17]); (repeat rw [if_neg gc_18]); (repeat rw [if_neg gc_19]); (repeat rw [if_pos gc_20]); (repeat rw [if_neg gc_22]); first | done | rfl | contradiction⟩) (hP.sub (ws' := [(h0, .inr (8, [.ref a1, .ref a2, .ref a3, .ref a4, .ref a5])), (h1, .inr (11, [.long n1, .long n2, .long (n3 + 0), .long (n4 - 0), .long (n5 + 1), .long (n6 - 0)]))]) [0, 1] rfl) (hK.sub (tys' := []) [] rfl) (hD.sub (ws' := [(h0, .inr (8, [.ref a1, .ref a2, .ref a3, .ref a4, .ref a5])), (h1, .inr (11, [.long n1, .long n2, .long (n3 + 0), .long (n4 - 0), .long (n5 + 1), .long (n6 - 0)]))]) [0, 1] (by decide) rfl) hS (Nat.le_of_ble_eq_true rfl) (Nat.le_of_ble_eq_true rfl) d_Reckoner_exclude_113
            · have gc_22 : n6 = x1 := (lg_cmp_eq _ _).mp c_22
              refine lv_lconst (v := 1) hx hb d_Reckoner_exclude_103 (by decide) ?_
              refine lv_goto (tgt := 108) hx hb d_Reckoner_exclude_104 (by decide) ?_
              refine lv_lsub hx hb d_Reckoner_exclude_108 ?_
              refine va_put (D := D) (ci := 11) (v := .long (n6 - 1)) (ty := .long) (C := "FilterGuard$Num") (T := F_Num) (N := 6) hx hb hts i_Num t_Num t_Num_ok n_Num hown hK hP hD hS 1 rfl rfl 5 (by decide) (hts _ u_382) (fun _ h9 => h9) rfl (by decide +kernel) rfl rfl (Nat.le_of_ble_eq_true rfl) d_Reckoner_exclude_109 (fun H locs hP hD hS => ?_)
              have hP : va_P D classes [(h0, .inr (8, [.ref a1, .ref a2, .ref a3, .ref a4, .ref a5])), (h1, .inr (11, [.long n1, .long n2, .long (n3 + 0), .long (n4 - 0), .long (n5 + 1), .long (n6 - 1)]))] H := hP
              have hD : va_D A [(h0, .inr (8, [.ref a1, .ref a2, .ref a3, .ref a4, .ref a5])), (h1, .inr (11, [.long n1, .long n2, .long (n3 + 0), .long (n4 - 0), .long (n5 + 1), .long (n6 - 1)]))] := hD
              refine lv_iconst (v := 1) hx hb d_Reckoner_exclude_112 (by decide) ?_
              exact fg_retz (n1, n2, n3 + 0, n4 - 0, n5 + 1, n6 - 1) hx hb hr hlocks rfl (Or.inl ⟨rfl, by unfold fn_exc; (repeat rw [if_pos gc_1]); (repeat rw [if_neg gc_17]); (repeat rw [if_neg gc_18]); (repeat rw [if_neg gc_19]); (repeat rw [if_pos gc_20]); (repeat rw [if_pos gc_22]); first | done | rfl | contradiction⟩) (hP.sub (ws' := [(h0, .inr (8, [.ref a1, .ref a2, .ref a3, .ref a4, .ref a5])), (h1, .inr (11, [.long n1, .long n2, .long (n3 + 0), .long (n4 - 0), .long (n5 + 1), .long (n6 - 1)]))]) [0, 1] rfl) (hK.sub (tys' := []) [] rfl) (hD.sub (ws' := [(h0, .inr (8, [.ref a1, .ref a2, .ref a3, .ref a4, .ref a5])), (h1, .inr (11, [.long n1, .long n2, .long (n3 + 0), .long (n4 - 0), .long (n5 + 1), .long (n6 - 1)]))]) [0, 1] (by decide) rfl) hS (Nat.le_of_ble_eq_true rfl) (Nat.le_of_ble_eq_true rfl) d_Reckoner_exclude_113
        · have gc_19 : n4 = x1 := (lg_cmp_eq _ _).mp c_19
          refine lv_lconst (v := 1) hx hb d_Reckoner_exclude_57 (by decide) ?_
          refine lv_goto (tgt := 62) hx hb d_Reckoner_exclude_58 (by decide) ?_
          refine lv_lsub hx hb d_Reckoner_exclude_62 ?_
          refine va_put (D := D) (ci := 11) (v := .long (n4 - 1)) (ty := .long) (C := "FilterGuard$Num") (T := F_Num) (N := 6) hx hb hts i_Num t_Num t_Num_ok n_Num hown hK hP hD hS 1 rfl rfl 3 (by decide) (hts _ u_377) (fun _ h9 => h9) rfl (by decide +kernel) rfl rfl (Nat.le_of_ble_eq_true rfl) d_Reckoner_exclude_63 (fun H locs hP hD hS => ?_)
          have hP : va_P D classes [(h0, .inr (8, [.ref a1, .ref a2, .ref a3, .ref a4, .ref a5])), (h1, .inr (11, [.long n1, .long n2, .long (n3 + 0), .long (n4 - 1), .long n5, .long n6]))] H := hP
          have hD : va_D A [(h0, .inr (8, [.ref a1, .ref a2, .ref a3, .ref a4, .ref a5])), (h1, .inr (11, [.long n1, .long n2, .long (n3 + 0), .long (n4 - 1), .long n5, .long n6]))] := hD
          refine lv_aload_n hx hb d_Reckoner_exclude_66 rfl (lv_at hl 1 rfl) ?_
          refine lv_dup hx hb d_Reckoner_exclude_67 rfl ?_
          refine va_get (D := D) (ci := 11) (v := .long n5) (C := "FilterGuard$Num") (T := F_Num) (N := 6) hx hb hts i_Num hown hK hP 1 rfl rfl 4 (by decide) (hts _ u_380) (fun _ h9 => h9) rfl d_Reckoner_exclude_68 ?_
          refine lv_aload_n hx hb d_Reckoner_exclude_71 rfl (lv_at hl 1 rfl) ?_
          refine va_get (D := D) (ci := 11) (v := .long n5) (C := "FilterGuard$Num") (T := F_Num) (N := 6) hx hb hts i_Num hown hK hP 1 rfl rfl 4 (by decide) (hts _ u_380) (fun _ h9 => h9) rfl d_Reckoner_exclude_72 ?_
          refine lv_lload_n hx hb d_Reckoner_exclude_75 rfl (lv_at hl 2 rfl) ?_
          refine W.lcmp hx hb d_Reckoner_exclude_76 ?_
          refine lv_if_ne (tgt := 84) hx hb d_Reckoner_exclude_77 (by decide) (fun c_23 => ?_) (fun c_23 => ?_)
          · have gc_23 : ¬ n5 = x1 := fun z => c_23 ((lg_cmp_eq _ _).mpr z)
            refine lv_lconst (v := 0) hx hb d_Reckoner_exclude_84 (by decide) ?_
            refine lv_ladd hx hb d_Reckoner_exclude_85 ?_
            refine va_put (D := D) (ci := 11) (v := .long (n5 + 0)) (ty := .long) (C := "FilterGuard$Num") (T := F_Num) (N := 6) hx hb hts i_Num t_Num t_Num_ok n_Num hown hK hP hD hS 1 rfl rfl 4 (by decide) (hts _ u_380) (fun _ h9 => h9) rfl (by decide +kernel) rfl rfl (Nat.le_of_ble_eq_true rfl) d_Reckoner_exclude_86 (fun H locs hP hD hS => ?_)
            have hP : va_P D classes [(h0, .inr (8, [.ref a1, .ref a2, .ref a3, .ref a4, .ref a5])), (h1, .inr (11, [.long n1, .long n2, .long (n3 + 0), .long (n4 - 1), .long (n5 + 0), .long n6]))] H := hP
            have hD : va_D A [(h0, .inr (8, [.ref a1, .ref a2, .ref a3, .ref a4, .ref a5])), (h1, .inr (11, [.long n1, .long n2, .long (n3 + 0), .long (n4 - 1), .long (n5 + 0), .long n6]))] := hD
            refine lv_aload_n hx hb d_Reckoner_exclude_89 rfl (lv_at hl 1 rfl) ?_
            refine lv_dup hx hb d_Reckoner_exclude_90 rfl ?_
            refine va_get (D := D) (ci := 11) (v := .long n6) (C := "FilterGuard$Num") (T := F_Num) (N := 6) hx hb hts i_Num hown hK hP 1 rfl rfl 5 (by decide) (hts _ u_382) (fun _ h9 => h9) rfl d_Reckoner_exclude_91 ?_
            refine lv_aload_n hx hb d_Reckoner_exclude_94 rfl (lv_at hl 1 rfl) ?_
            refine va_get (D := D) (ci := 11) (v := .long n6) (C := "FilterGuard$Num") (T := F_Num) (N := 6) hx hb hts i_Num hown hK hP 1 rfl rfl 5 (by decide) (hts _ u_382) (fun _ h9 => h9) rfl d_Reckoner_exclude_95 ?_
            refine lv_lload_n hx hb d_Reckoner_exclude_98 rfl (lv_at hl 2 rfl) ?_
            refine W.lcmp hx hb d_Reckoner_exclude_99 ?_
            refine lv_if_ne (tgt := 107) hx hb d_Reckoner_exclude_100 (by decide) (fun c_24 => ?_) (fun c_24 => ?_)
            · have gc_24 : ¬ n6 = x1 := fun z => c_24 ((lg_cmp_eq _ _).mpr z)
              refine lv_lconst (v := 0) hx hb d_Reckoner_exclude_107 (by decide) ?_
              refine lv_lsub hx hb d_Reckoner_exclude_108 ?_
              refine va_put (D := D) (ci := 11) (v := .long (n6 - 0)) (ty := .long) (C := "FilterGuard$Num") (T := F_Num) (N := 6) hx hb hts i_Num t_Num t_Num_ok n_Num hown hK hP hD hS 1 rfl rfl 5 (by decide) (hts _ u_382) (fun _ h9 => h9) rfl (by decide +kernel) rfl rfl (Nat.le_of_ble_eq_true rfl) d_Reckoner_exclude_109 (fun H locs hP hD hS => ?_)
              have hP : va_P D classes [(h0, .inr (8, [.ref a1, .ref a2, .ref a3, .ref a4, .ref a5])), (h1, .inr (11, [.long n1, .long n2, .long (n3 + 0), .long (n4 - 1), .long (n5 + 0), .long (n6 - 0)]))] H := hP
              have hD : va_D A [(h0, .inr (8, [.ref a1, .ref a2, .ref a3, .ref a4, .ref a5])), (h1, .inr (11, [.long n1, .long n2, .long (n3 + 0), .long (n4 - 1), .long (n5 + 0), .long (n6 - 0)]))] := hD
              refine lv_iconst (v := 1) hx hb d_Reckoner_exclude_112 (by decide) ?_
              exact fg_retz (n1, n2, n3 + 0, n4 - 1, n5 + 0, n6 - 0) hx hb hr hlocks rfl (Or.inl ⟨rfl, by unfold fn_exc; (repeat rw [if_pos gc_1]); (repeat rw [if_neg gc_17]); (repeat rw [if_neg gc_18]); (repeat rw [if_pos gc_19]); (repeat rw [if_neg gc_23]); (repeat rw [if_neg gc_24]); first | done | rfl | contradiction⟩) (hP.sub (ws' := [(h0, .inr (8, [.ref a1, .ref a2, .ref a3, .ref a4, .ref a5])), (h1, .inr (11, [.long n1, .long n2, .long (n3 + 0), .long (n4 - 1), .long (n5 + 0), .long (n6 - 0)]))]) [0, 1] rfl) (hK.sub (tys' := []) [] rfl) (hD.sub (ws' := [(h0, .inr (8, [.ref a1, .ref a2, .ref a3, .ref a4, .ref a5])), (h1, .inr (11, [.long n1, .long n2, .long (n3 + 0), .long (n4 - 1), .long (n5 + 0), .long (n6 - 0)]))]) [0, 1] (by decide) rfl) hS (Nat.le_of_ble_eq_true rfl) (Nat.le_of_ble_eq_true rfl) d_Reckoner_exclude_113
            · have gc_24 : n6 = x1 := (lg_cmp_eq _ _).mp c_24
              refine lv_lconst (v := 1) hx hb d_Reckoner_exclude_103 (by decide) ?_
              refine lv_goto (tgt := 108) hx hb d_Reckoner_exclude_104 (by decide) ?_
              refine lv_lsub hx hb d_Reckoner_exclude_108 ?_
              refine va_put (D := D) (ci := 11) (v := .long (n6 - 1)) (ty := .long) (C := "FilterGuard$Num") (T := F_Num) (N := 6) hx hb hts i_Num t_Num t_Num_ok n_Num hown hK hP hD hS 1 rfl rfl 5 (by decide) (hts _ u_382) (fun _ h9 => h9) rfl (by decide +kernel) rfl rfl (Nat.le_of_ble_eq_true rfl) d_Reckoner_exclude_109 (fun H locs hP hD hS => ?_)
              have hP : va_P D classes [(h0, .inr (8, [.ref a1, .ref a2, .ref a3, .ref a4, .ref a5])), (h1, .inr (11, [.long n1, .long n2, .long (n3 + 0), .long (n4 - 1), .long (n5 + 0), .long (n6 - 1)]))] H := hP
              have hD : va_D A [(h0, .inr (8, [.ref a1, .ref a2, .ref a3, .ref a4, .ref a5])), (h1, .inr (11, [.long n1, .long n2, .long (n3 + 0), .long (n4 - 1), .long (n5 + 0), .long (n6 - 1)]))] := hD
              refine lv_iconst (v := 1) hx hb d_Reckoner_exclude_112 (by decide) ?_
              exact fg_retz (n1, n2, n3 + 0, n4 - 1, n5 + 0, n6 - 1) hx hb hr hlocks rfl (Or.inl ⟨rfl, by unfold fn_exc; (repeat rw [if_pos gc_1]); (repeat rw [if_neg gc_17]); (repeat rw [if_neg gc_18]); (repeat rw [if_pos gc_19]); (repeat rw [if_neg gc_23]); (repeat rw [if_pos gc_24]); first | done | rfl | contradiction⟩) (hP.sub (ws' := [(h0, .inr (8, [.ref a1, .ref a2, .ref a3, .ref a4, .ref a5])), (h1, .inr (11, [.long n1, .long n2, .long (n3 + 0), .long (n4 - 1), .long (n5 + 0), .long (n6 - 1)]))]) [0, 1] rfl) (hK.sub (tys' := []) [] rfl) (hD.sub (ws' := [(h0, .inr (8, [.ref a1, .ref a2, .ref a3, .ref a4, .ref a5])), (h1, .inr (11, [.long n1, .long n2, .long (n3 + 0), .long (n4 - 1), .long (n5 + 0), .long (n6 - 1)]))]) [0, 1] (by decide) rfl) hS (Nat.le_of_ble_eq_true rfl) (Nat.le_of_ble_eq_true rfl) d_Reckoner_exclude_113
          · have gc_23 : n5 = x1 := (lg_cmp_eq _ _).mp c_23
            refine lv_lconst (v := 1) hx hb d_Reckoner_exclude_80 (by decide) ?_
            refine lv_goto (tgt := 85) hx hb d_Reckoner_exclude_81 (by decide) ?_
            refine lv_ladd hx hb d_Reckoner_exclude_85 ?_
            refine va_put (D := D) (ci := 11) (v := .long (n5 + 1)) (ty := .long) (C := "FilterGuard$Num") (T := F_Num) (N := 6) hx hb hts i_Num t_Num t_Num_ok n_Num hown hK hP hD hS 1 rfl rfl 4 (by decide) (hts _ u_380) (fun _ h9 => h9) rfl (by decide +kernel) rfl rfl (Nat.le_of_ble_eq_true rfl) d_Reckoner_exclude_86 (fun H locs hP hD hS => ?_)
            have hP : va_P D classes [(h0, .inr (8, [.ref a1, .ref a2, .ref a3, .ref a4, .ref a5])), (h1, .inr (11, [.long n1, .long n2, .long (n3 + 0), .long (n4 - 1), .long (n5 + 1), .long n6]))] H := hP
            have hD : va_D A [(h0, .inr (8, [.ref a1, .ref a2, .ref a3, .ref a4, .ref a5])), (h1, .inr (11, [.long n1, .long n2, .long (n3 + 0), .long (n4 - 1), .long (n5 + 1), .long n6]))] := hD
            refine lv_aload_n hx hb d_Reckoner_exclude_89 rfl (lv_at hl 1 rfl) ?_
            refine lv_dup hx hb d_Reckoner_exclude_90 rfl ?_
            refine va_get (D := D) (ci := 11) (v := .long n6) (C := "FilterGuard$Num") (T := F_Num) (N := 6) hx hb hts i_Num hown hK hP 1 rfl rfl 5 (by decide) (hts _ u_382) (fun _ h9 => h9) rfl d_Reckoner_exclude_91 ?_
            refine lv_aload_n hx hb d_Reckoner_exclude_94 rfl (lv_at hl 1 rfl) ?_
            refine va_get (D := D) (ci := 11) (v := .long n6) (C := "FilterGuard$Num") (T := F_Num) (N := 6) hx hb hts i_Num hown hK hP 1 rfl rfl 5 (by decide) (hts _ u_382) (fun _ h9 => h9) rfl d_Reckoner_exclude_95 ?_
            refine lv_lload_n hx hb d_Reckoner_exclude_98 rfl (lv_at hl 2 rfl) ?_
            refine W.lcmp hx hb d_Reckoner_exclude_99 ?_
            refine lv_if_ne (tgt := 107) hx hb d_Reckoner_exclude_100 (by decide) (fun c_25 => ?_) (fun c_25 => ?_)
            · have gc_25 : ¬ n6 = x1 := fun z => c_25 ((lg_cmp_eq _ _).mpr z)
              refine lv_lconst (v := 0) hx hb d_Reckoner_exclude_107 (by decide) ?_
              refine lv_lsub hx hb d_Reckoner_exclude_108 ?_
              refine va_put (D := D) (ci := 11) (v := .long (n6 - 0)) (ty := .long) (C := "FilterGuard$Num") (T := F_Num) (N := 6) hx hb hts i_Num t_Num t_Num_ok n_Num hown hK hP hD hS 1 rfl rfl 5 (by decide) (hts _ u_382) (fun _ h9 => h9) rfl (by decide +kernel) rfl rfl (Nat.le_of_ble_eq_true rfl) d_Reckoner_exclude_109 (fun H locs hP hD hS => ?_)
              have hP : va_P D classes [(h0, .inr (8, [.ref a1, .ref a2, .ref a3, .ref a4, .ref a5])), (h1, .inr (11, [.long n1, .long n2, .long (n3 + 0), .long (n4 - 1), .long (n5 + 1), .long (n6 - 0)]))] H := hP
              have hD : va_D A [(h0, .inr (8, [.ref a1, .ref a2, .ref a3, .ref a4, .ref a5])), (h1, .inr (11, [.long n1, .long n2, .long (n3 + 0), .long (n4 - 1), .long (n5 + 1), .long (n6 - 0)]))] := hD
              refine lv_iconst (v := 1) hx hb d_Reckoner_exclude_112 (by decide) ?_
              exact fg_retz (n1, n2, n3 + 0, n4 - 1, n5 + 1, n6 - 0) hx hb hr hlocks rfl (Or.inl ⟨rfl, by unfold fn_exc; (repeat rw [if_pos gc_1]); (repeat rw [if_neg gc_17]); (repeat rw [if_neg gc_18]); (repeat rw [if_pos gc_19]); (repeat rw [if_pos gc_23]); (repeat rw [if_neg gc_25]); first | done | rfl | contradiction⟩) (hP.sub (ws' := [(h0, .inr (8, [.ref a1, .ref a2, .ref a3, .ref a4, .ref a5])), (h1, .inr (11, [.long n1, .long n2, .long (n3 + 0), .long (n4 - 1), .long (n5 + 1), .long (n6 - 0)]))]) [0, 1] rfl) (hK.sub (tys' := []) [] rfl) (hD.sub (ws' := [(h0, .inr (8, [.ref a1, .ref a2, .ref a3, .ref a4, .ref a5])), (h1, .inr (11, [.long n1, .long n2, .long (n3 + 0), .long (n4 - 1), .long (n5 + 1), .long (n6 - 0)]))]) [0, 1] (by decide) rfl) hS (Nat.le_of_ble_eq_true rfl) (Nat.le_of_ble_eq_true rfl) d_Reckoner_exclude_113
            · have gc_25 : n6 = x1 := (lg_cmp_eq _ _).mp c_25
              refine lv_lconst (v := 1) hx hb d_Reckoner_exclude_103 (by decide) ?_
              refine lv_goto (tgt := 108) hx hb d_Reckoner_exclude_104 (by decide) ?_
              refine lv_lsub hx hb d_Reckoner_exclude_108 ?_
              refine va_put (D := D) (ci := 11) (v := .long (n6 - 1)) (ty := .long) (C := "FilterGuard$Num") (T := F_Num) (N := 6) hx hb hts i_Num t_Num t_Num_ok n_Num hown hK hP hD hS 1 rfl rfl 5 (by decide) (hts _ u_382) (fun _ h9 => h9) rfl (by decide +kernel) rfl rfl (Nat.le_of_ble_eq_true rfl) d_Reckoner_exclude_109 (fun H locs hP hD hS => ?_)
              have hP : va_P D classes [(h0, .inr (8, [.ref a1, .ref a2, .ref a3, .ref a4, .ref a5])), (h1, .inr (11, [.long n1, .long n2, .long (n3 + 0), .long (n4 - 1), .long (n5 + 1), .long (n6 - 1)]))] H := hP
              have hD : va_D A [(h0, .inr (8, [.ref a1, .ref a2, .ref a3, .ref a4, .ref a5])), (h1, .inr (11, [.long n1, .long n2, .long (n3 + 0), .long (n4 - 1), .long (n5 + 1), .long (n6 - 1)]))] := hD
              refine lv_iconst (v := 1) hx hb d_Reckoner_exclude_112 (by decide) ?_
              exact fg_retz (n1, n2, n3 + 0, n4 - 1, n5 + 1, n6 - 1) hx hb hr hlocks rfl (Or.inl ⟨rfl, by unfold fn_exc; (repeat rw [if_pos gc_1]); (repeat rw [if_neg gc_17]); (repeat rw [if_neg gc_18]); (repeat rw [if_pos gc_19]); (repeat rw [if_pos gc_23]); (repeat rw [if_pos gc_25]); first | done | rfl | contradiction⟩) (hP.sub (ws' := [(h0, .inr (8, [.ref a1, .ref a2, .ref a3, .ref a4, .ref a5])), (h1, .inr (11, [.long n1, .long n2, .long (n3 + 0), .long (n4 - 1), .long (n5 + 1), .long (n6 - 1)]))]) [0, 1] rfl) (hK.sub (tys' := []) [] rfl) (hD.sub (ws' := [(h0, .inr (8, [.ref a1, .ref a2, .ref a3, .ref a4, .ref a5])), (h1, .inr (11, [.long n1, .long n2, .long (n3 + 0), .long (n4 - 1), .long (n5 + 1), .long (n6 - 1)]))]) [0, 1] (by decide) rfl) hS (Nat.le_of_ble_eq_true rfl) (Nat.le_of_ble_eq_true rfl) d_Reckoner_exclude_113
      · have gc_18 : n3 = x1 := (lg_cmp_eq _ _).mp c_18
        refine lv_lconst (v := 1) hx hb d_Reckoner_exclude_34 (by decide) ?_
        refine lv_goto (tgt := 39) hx hb d_Reckoner_exclude_35 (by decide) ?_
        refine lv_ladd hx hb d_Reckoner_exclude_39 ?_
        refine va_put (D := D) (ci := 11) (v := .long (n3 + 1)) (ty := .long) (C := "FilterGuard$Num") (T := F_Num) (N := 6) hx hb hts i_Num t_Num t_Num_ok n_Num hown hK hP hD hS 1 rfl rfl 2 (by decide) (hts _ u_374) (fun _ h9 => h9) rfl (by decide +kernel) rfl rfl (Nat.le_of_ble_eq_true rfl) d_Reckoner_exclude_40 (fun H locs hP hD hS => ?_)
        have hP : va_P D classes [(h0, .inr (8, [.ref a1, .ref a2, .ref a3, .ref a4, .ref a5])), (h1, .inr (11, [.long n1, .long n2, .long (n3 + 1), .long n4, .long n5, .long n6]))] H := hP
        have hD : va_D A [(h0, .inr (8, [.ref a1, .ref a2, .ref a3, .ref a4, .ref a5])), (h1, .inr (11, [.long n1, .long n2, .long (n3 + 1), .long n4, .long n5, .long n6]))] := hD
        refine lv_aload_n hx hb d_Reckoner_exclude_43 rfl (lv_at hl 1 rfl) ?_
        refine lv_dup hx hb d_Reckoner_exclude_44 rfl ?_
        refine va_get (D := D) (ci := 11) (v := .long n4) (C := "FilterGuard$Num") (T := F_Num) (N := 6) hx hb hts i_Num hown hK hP 1 rfl rfl 3 (by decide) (hts _ u_377) (fun _ h9 => h9) rfl d_Reckoner_exclude_45 ?_
        refine lv_aload_n hx hb d_Reckoner_exclude_48 rfl (lv_at hl 1 rfl) ?_
        refine va_get (D := D) (ci := 11) (v := .long n4) (C := "FilterGuard$Num") (T := F_Num) (N := 6) hx hb hts i_Num hown hK hP 1 rfl rfl 3 (by decide) (hts _ u_377) (fun _ h9 => h9) rfl d_Reckoner_exclude_49 ?_
        refine lv_lload_n hx hb d_Reckoner_exclude_52 rfl (lv_at hl 2 rfl) ?_
        refine W.lcmp hx hb d_Reckoner_exclude_53 ?_
        refine lv_if_ne (tgt := 61) hx hb d_Reckoner_exclude_54 (by decide) (fun c_26 => ?_) (fun c_26 => ?_)
        · have gc_26 : ¬ n4 = x1 := fun z => c_26 ((lg_cmp_eq _ _).mpr z)
          refine lv_lconst (v := 0) hx hb d_Reckoner_exclude_61 (by decide) ?_
          refine lv_lsub hx hb d_Reckoner_exclude_62 ?_
          refine va_put (D := D) (ci := 11) (v := .long (n4 - 0)) (ty := .long) (C := "FilterGuard$Num") (T := F_Num) (N := 6) hx hb hts i_Num t_Num t_Num_ok n_Num hown hK hP hD hS 1 rfl rfl 3 (by decide) (hts _ u_377) (fun _ h9 => h9) rfl (by decide +kernel) rfl rfl (Nat.le_of_ble_eq_true rfl) d_Reckoner_exclude_63 (fun H locs hP hD hS => ?_)
          have hP : va_P D classes [(h0, .inr (8, [.ref a1, .ref a2, .ref a3, .ref a4, .ref a5])), (h1, .inr (11, [.long n1, .long n2, .long (n3 + 1), .long (n4 - 0), .long n5, .long n6]))] H := hP
          have hD : va_D A [(h0, .inr (8, [.ref a1, .ref a2, .ref a3, .ref a4, .ref a5])), (h1, .inr (11, [.long n1, .long n2, .long (n3 + 1), .long (n4 - 0), .long n5, .long n6]))] := hD
          refine lv_aload_n hx hb d_Reckoner_exclude_66 rfl (lv_at hl 1 rfl) ?_
          refine lv_dup hx hb d_Reckoner_exclude_67 rfl ?_
          refine va_get (D := D) (ci := 11) (v := .long n5) (C := "FilterGuard$Num") (T := F_Num) (N := 6) hx hb hts i_Num hown hK hP 1 rfl rfl 4 (by decide) (hts _ u_380) (fun _ h9 => h9) rfl d_Reckoner_exclude_68 ?_
          refine lv_aload_n hx hb d_Reckoner_exclude_71 rfl (lv_at hl 1 rfl) ?_
          refine va_get (D := D) (ci := 11) (v := .long n5) (C := "FilterGuard$Num") (T := F_Num) (N := 6) hx hb hts i_Num hown hK hP 1 rfl rfl 4 (by decide) (hts _ u_380) (fun _ h9 => h9) rfl d_Reckoner_exclude_72 ?_
          refine lv_lload_n hx hb d_Reckoner_exclude_75 rfl (lv_at hl 2 rfl) ?_
          refine W.lcmp hx hb d_Reckoner_exclude_76 ?_
          refine lv_if_ne (tgt := 84) hx hb d_Reckoner_exclude_77 (by decide) (fun c_27 => ?_) (fun c_27 => ?_)
          · have gc_27 : ¬ n5 = x1 := fun z => c_27 ((lg_cmp_eq _ _).mpr z)
            refine lv_lconst (v := 0) hx hb d_Reckoner_exclude_84 (by decide) ?_
            refine lv_ladd hx hb d_Reckoner_exclude_85 ?_
            refine va_put (D := D) (ci := 11) (v := .long (n5 + 0)) (ty := .long) (C := "FilterGuard$Num") (T := F_Num) (N := 6) hx hb hts i_Num t_Num t_Num_ok n_Num hown hK hP hD hS 1 rfl rfl 4 (by decide) (hts _ u_380) (fun _ h9 => h9) rfl (by decide +kernel) rfl rfl (Nat.le_of_ble_eq_true rfl) d_Reckoner_exclude_86 (fun H locs hP hD hS => ?_)
            have hP : va_P D classes [(h0, .inr (8, [.ref a1, .ref a2, .ref a3, .ref a4, .ref a5])), (h1, .inr (11, [.long n1, .long n2, .long (n3 + 1), .long (n4 - 0), .long (n5 + 0), .long n6]))] H := hP
            have hD : va_D A [(h0, .inr (8, [.ref a1, .ref a2, .ref a3, .ref a4, .ref a5])), (h1, .inr (11, [.long n1, .long n2, .long (n3 + 1), .long (n4 - 0), .long (n5 + 0), .long n6]))] := hD
            refine lv_aload_n hx hb d_Reckoner_exclude_89 rfl (lv_at hl 1 rfl) ?_
            refine lv_dup hx hb d_Reckoner_exclude_90 rfl ?_
            refine va_get (D := D) (ci := 11) (v := .long n6) (C := "FilterGuard$Num") (T := F_Num) (N := 6) hx hb hts i_Num hown hK hP 1 rfl rfl 5 (by decide) (hts _ u_382) (fun _ h9 => h9) rfl d_Reckoner_exclude_91 ?_
            refine lv_aload_n hx hb d_Reckoner_exclude_94 rfl (lv_at hl 1 rfl) ?_
            refine va_get (D := D) (ci := 11) (v := .long n6) (C := "FilterGuard$Num") (T := F_Num) (N := 6) hx hb hts i_Num hown hK hP 1 rfl rfl 5 (by decide) (hts _ u_382) (fun _ h9 => h9) rfl d_Reckoner_exclude_95 ?_
            refine lv_lload_n hx hb d_Reckoner_exclude_98 rfl (lv_at hl 2 rfl) ?_
            refine W.lcmp hx hb d_Reckoner_exclude_99 ?_
            refine lv_if_ne (tgt := 107) hx hb d_Reckoner_exclude_100 (by decide) (fun c_28 => ?_) (fun c_28 => ?_)
            · have gc_28 : ¬ n6 = x1 := fun z => c_28 ((lg_cmp_eq _ _).mpr z)
              refine lv_lconst (v := 0) hx hb d_Reckoner_exclude_107 (by decide) ?_
              refine lv_lsub hx hb d_Reckoner_exclude_108 ?_
              refine va_put (D := D) (ci := 11) (v := .long (n6 - 0)) (ty := .long) (C := "FilterGuard$Num") (T := F_Num) (N := 6) hx hb hts i_Num t_Num t_Num_ok n_Num hown hK hP hD hS 1 rfl rfl 5 (by decide) (hts _ u_382) (fun _ h9 => h9) rfl (by decide +kernel) rfl rfl (Nat.le_of_ble_eq_true rfl) d_Reckoner_exclude_109 (fun H locs hP hD hS => ?_)
              have hP : va_P D classes [(h0, .inr (8, [.ref a1, .ref a2, .ref a3, .ref a4, .ref a5])), (h1, .inr (11, [.long n1, .long n2, .long (n3 + 1), .long (n4 - 0), .long (n5 + 0), .long (n6 - 0)]))] H := hP
              have hD : va_D A [(h0, .inr (8, [.ref a1, .ref a2, .ref a3, .ref a4, .ref a5])), (h1, .inr (11, [.long n1, .long n2, .long (n3 + 1), .long (n4 - 0), .long (n5 + 0), .long (n6 - 0)]))] := hD
              refine lv_iconst (v := 1) hx hb d_Reckoner_exclude_112 (by decide) ?_
              exact fg_retz (n1, n2, n3 + 1, n4 - 0, n5 + 0, n6 - 0) hx hb hr hlocks rfl (Or.inl ⟨rfl, by unfold fn_exc; (repeat rw [if_pos gc_1]); (repeat rw [if_neg gc_17]); (repeat rw [if_pos gc_18]); (repeat rw [if_neg gc_26]); (repeat rw [if_neg gc_27]); (repeat rw [if_neg gc_28]); first | done | rfl | contradiction⟩) (hP.sub (ws' := [(h0, .inr (8, [.ref a1, .ref a2, .ref a3, .ref a4, .ref a5])), (h1, .inr (11, [.long n1, .long n2, .long (n3 + 1), .long (n4 - 0), .long (n5 + 0), .long (n6 - 0)]))]) [0, 1] rfl) (hK.sub (tys' := []) [] rfl) (hD.sub (ws' := [(h0, .inr (8, [.ref a1, .ref a2, .ref a3, .ref a4, .ref a5])), (h1, .inr (11, [.long n1, .long n2, .long (n3 + 1), .long (n4 - 0), .long (n5 + 0), .long (n6 - 0)]))]) [0, 1] (by decide) rfl) hS (Nat.le_of_ble_eq_true rfl) (Nat.le_of_ble_eq_true rfl) d_Reckoner_exclude_113
            · have gc_28 : n6 = x1 := (lg_cmp_eq _ _).mp c_28
              refine lv_lconst (v := 1) hx hb d_Reckoner_exclude_103 (by decide) ?_
              refine lv_goto (tgt := 108) hx hb d_Reckoner_exclude_104 (by decide) ?_
              refine lv_lsub hx hb d_Reckoner_exclude_108 ?_
              refine va_put (D := D) (ci := 11) (v := .long (n6 - 1)) (ty := .long) (C := "FilterGuard$Num") (T := F_Num) (N := 6) hx hb hts i_Num t_Num t_Num_ok n_Num hown hK hP hD hS 1 rfl rfl 5 (by decide) (hts _ u_382) (fun _ h9 => h9) rfl (by decide +kernel) rfl rfl (Nat.le_of_ble_eq_true rfl) d_Reckoner_exclude_109 (fun H locs hP hD hS => ?_)
              have hP : va_P D classes [(h0, .inr (8, [.ref a1, .ref a2, .ref a3, .ref a4, .ref a5])), (h1, .inr (11, [.long n1, .long n2, .long (n3 + 1), .long (n4 - 0), .long (n5 + 0), .long (n6 - 1)]))] H := hP
              have hD : va_D A [(h0, .inr (8, [.ref a1, .ref a2, .ref a3, .ref a4, .ref a5])), (h1, .inr (11, [.long n1, .long n2, .long (n3 + 1), .long (n4 - 0), .long (n5 + 0), .long (n6 - 1)]))] := hD
              refine lv_iconst (v := 1) hx hb d_Reckoner_exclude_112 (by decide) ?_
              exact fg_retz (n1, n2, n3 + 1, n4 - 0, n5 + 0, n6 - 1) hx hb hr hlocks rfl (Or.inl ⟨rfl, by unfold fn_exc; (repeat rw [if_pos gc_1]); (repeat rw [if_neg gc_17]); (repeat rw [if_pos gc_18]); (repeat rw [if_neg gc_26]); (repeat rw [if_neg gc_27]); (repeat rw [if_pos gc_28]); first | done | rfl | contradiction⟩) (hP.sub (ws' := [(h0, .inr (8, [.ref a1, .ref a2, .ref a3, .ref a4, .ref a5])), (h1, .inr (11, [.long n1, .long n2, .long (n3 + 1), .long (n4 - 0), .long (n5 + 0), .long (n6 - 1)]))]) [0, 1] rfl) (hK.sub (tys' := []) [] rfl) (hD.sub (ws' := [(h0, .inr (8, [.ref a1, .ref a2, .ref a3, .ref a4, .ref a5])), (h1, .inr (11, [.long n1, .long n2, .long (n3 + 1), .long (n4 - 0), .long (n5 + 0), .long (n6 - 1)]))]) [0, 1] (by decide) rfl) hS (Nat.le_of_ble_eq_true rfl) (Nat.le_of_ble_eq_true rfl) d_Reckoner_exclude_113
          · have gc_27 : n5 = x1 := (lg_cmp_eq _ _).mp c_27
            refine lv_lconst (v := 1) hx hb d_Reckoner_exclude_80 (by decide) ?_
            refine lv_goto (tgt := 85) hx hb d_Reckoner_exclude_81 (by decide) ?_
            refine lv_ladd hx hb d_Reckoner_exclude_85 ?_
            refine va_put (D := D) (ci := 11) (v := .long (n5 + 1)) (ty := .long) (C := "FilterGuard$Num") (T := F_Num) (N := 6) hx hb hts i_Num t_Num t_Num_ok n_Num hown hK hP hD hS 1 rfl rfl 4 (by decide) (hts _ u_380) (fun _ h9 => h9) rfl (by decide +kernel) rfl rfl (Nat.le_of_ble_eq_true rfl) d_Reckoner_exclude_86 (fun H locs hP hD hS => ?_)
            have hP : va_P D classes [(h0, .inr (8, [.ref a1, .ref a2, .ref a3, .ref a4, .ref a5])), (h1, .inr (11, [.long n1, .long n2, .long (n3 + 1), .long (n4 - 0), .long (n5 + 1), .long n6]))] H := hP
            have hD : va_D A [(h0, .inr (8, [.ref a1, .ref a2, .ref a3, .ref a4, .ref a5])), (h1, .inr (11, [.long n1, .long n2, .long (n3 + 1), .long (n4 - 0), .long (n5 + 1), .long n6]))] := hD
            refine lv_aload_n hx hb d_Reckoner_exclude_89 rfl (lv_at hl 1 rfl) ?_
            refine lv_dup hx hb d_Reckoner_exclude_90 rfl ?_
            refine va_get (D := D) (ci := 11) (v := .long n6) (C := "FilterGuard$Num") (T := F_Num) (N := 6) hx hb hts i_Num hown hK hP 1 rfl rfl 5 (by decide) (hts _ u_382) (fun _ h9 => h9) rfl d_Reckoner_exclude_91 ?_
            refine lv_aload_n hx hb d_Reckoner_exclude_94 rfl (lv_at hl 1 rfl) ?_
            refine va_get (D := D) (ci := 11) (v := .long n6) (C := "FilterGuard$Num") (T := F_Num) (N := 6) hx hb hts i_Num hown hK hP 1 rfl rfl 5 (by decide) (hts _ u_382) (fun _ h9 => h9) rfl d_Reckoner_exclude_95 ?_
            refine lv_lload_n hx hb d_Reckoner_exclude_98 rfl (lv_at hl 2 rfl) ?_
            refine W.lcmp hx hb d_Reckoner_exclude_99 ?_
            refine lv_if_ne (tgt := 107) hx hb d_Reckoner_exclude_100 (by decide) (fun c_29 => ?_) (fun c_29 => ?_)
            · have gc_29 : ¬ n6 = x1 := fun z => c_29 ((lg_cmp_eq _ _).mpr z)
              refine lv_lconst (v := 0) hx hb d_Reckoner_exclude_107 (by decide) ?_
              refine lv_lsub hx hb d_Reckoner_exclude_108 ?_
              refine va_put (D := D) (ci := 11) (v := .long (n6 - 0)) (ty := .long) (C := "FilterGuard$Num") (T := F_Num) (N := 6) hx hb hts i_Num t_Num t_Num_ok n_Num hown hK hP hD hS 1 rfl rfl 5 (by decide) (hts _ u_382) (fun _ h9 => h9) rfl (by decide +kernel) rfl rfl (Nat.le_of_ble_eq_true rfl) d_Reckoner_exclude_109 (fun H locs hP hD hS => ?_)
              have hP : va_P D classes [(h0, .inr (8, [.ref a1, .ref a2, .ref a3, .ref a4, .ref a5])), (h1, .inr (11, [.long n1, .long n2, .long (n3 + 1), .long (n4 - 0), .long (n5 + 1), .long (n6 - 0)]))] H := hP
              have hD : va_D A [(h0, .inr (8, [.ref a1, .ref a2, .ref a3, .ref a4, .ref a5])), (h1, .inr (11, [.long n1, .long n2, .long (n3 + 1), .long (n4 - 0), .long (n5 + 1), .long (n6 - 0)]))] := hD
              refine lv_iconst (v := 1) hx hb d_Reckoner_exclude_112 (by decide) ?_
              exact fg_retz (n1, n2, n3 + 1, n4 - 0, n5 + 1, n6 - 0) hx hb hr hlocks rfl (Or.inl ⟨rfl, by unfold fn_exc; (repeat rw [if_pos gc_1]); (repeat rw [if_neg gc_17]); (repeat rw [if_pos gc_18]); (repeat rw [if_neg gc_26]); (repeat rw [if_pos gc_27]); (repeat rw [if_neg gc_29]); first | done | rfl | contradiction⟩) (hP.sub (ws' := [(h0, .inr (8, [.ref a1, .ref a2, .ref a3, .ref a4, .ref a5])), (h1, .inr (11, [.long n1, .long n2, .long (n3 + 1), .long (n4 - 0), .long (n5 + 1), .long (n6 - 0)]))]) [0, 1] rfl) (hK.sub (tys' := []) [] rfl) (hD.sub (ws' := [(h0, .inr (8, [.ref a1, .ref a2, .ref a3, .ref a4, .ref a5])), (h1, .inr (11, [.long n1, .long n2, .long (n3 + 1), .long (n4 - 0), .long (n5 + 1), .long (n6 - 0)]))]) [0, 1] (by decide) rfl) hS (Nat.le_of_ble_eq_true rfl) (Nat.le_of_ble_eq_true rfl) d_Reckoner_exclude_113
            · have gc_29 : n6 = x1 := (lg_cmp_eq _ _).mp c_29
              refine lv_lconst (v := 1) hx hb d_Reckoner_exclude_103 (by decide) ?_
              refine lv_goto (tgt := 108) hx hb d_Reckoner_exclude_104 (by decide) ?_
              refine lv_lsub hx hb d_Reckoner_exclude_108 ?_
              refine va_put (D := D) (ci := 11) (v := .long (n6 - 1)) (ty := .long) (C := "FilterGuard$Num") (T := F_Num) (N := 6) hx hb hts i_Num t_Num t_Num_ok n_Num hown hK hP hD hS 1 rfl rfl 5 (by decide) (hts _ u_382) (fun _ h9 => h9) rfl (by decide +kernel) rfl rfl (Nat.le_of_ble_eq_true rfl) d_Reckoner_exclude_109 (fun H locs hP hD hS => ?_)
              have hP : va_P D classes [(h0, .inr (8, [.ref a1, .ref a2, .ref a3, .ref a4, .ref a5])), (h1, .inr (11, [.long n1, .long n2, .long (n3 + 1), .long (n4 - 0), .long (n5 + 1), .long (n6 - 1)]))] H := hP
              have hD : va_D A [(h0, .inr (8, [.ref a1, .ref a2, .ref a3, .ref a4, .ref a5])), (h1, .inr (11, [.long n1, .long n2, .long (n3 + 1), .long (n4 - 0), .long (n5 + 1), .long (n6 - 1)]))] := hD
              refine lv_iconst (v := 1) hx hb d_Reckoner_exclude_112 (by decide) ?_
              exact fg_retz (n1, n2, n3 + 1, n4 - 0, n5 + 1, n6 - 1) hx hb hr hlocks rfl (Or.inl ⟨rfl, by unfold fn_exc; (repeat rw [if_pos gc_1]); (repeat rw [if_neg gc_17]); (repeat rw [if_pos gc_18]); (repeat rw [if_neg gc_26]); (repeat rw [if_pos gc_27]); (repeat rw [if_pos gc_29]); first | done | rfl | contradiction⟩) (hP.sub (ws' := [(h0, .inr (8, [.ref a1, .ref a2, .ref a3, .ref a4, .ref a5])), (h1, .inr (11, [.long n1, .long n2, .long (n3 + 1), .long (n4 - 0), .long (n5 + 1), .long (n6 - 1)]))]) [0, 1] rfl) (hK.sub (tys' := []) [] rfl) (hD.sub (ws' := [(h0, .inr (8, [.ref a1, .ref a2, .ref a3, .ref a4, .ref a5])), (h1, .inr (11, [.long n1, .long n2, .long (n3 + 1), .long (n4 - 0), .long (n5 + 1), .long (n6 - 1)]))]) [0, 1] (by decide) rfl) hS (Nat.le_of_ble_eq_true rfl) (Nat.le_of_ble_eq_true rfl) d_Reckoner_exclude_113
        · have gc_26 : n4 = x1 := (lg_cmp_eq _ _).mp c_26
          refine lv_lconst (v := 1) hx hb d_Reckoner_exclude_57 (by decide) ?_
          refine lv_goto (tgt := 62) hx hb d_Reckoner_exclude_58 (by decide) ?_
          refine lv_lsub hx hb d_Reckoner_exclude_62 ?_
          refine va_put (D := D) (ci := 11) (v := .long (n4 - 1)) (ty := .long) (C := "FilterGuard$Num") (T := F_Num) (N := 6) hx hb hts i_Num t_Num t_Num_ok n_Num hown hK hP hD hS 1 rfl rfl 3 (by decide) (hts _ u_377) (fun _ h9 => h9) rfl (by decide +kernel) rfl rfl (Nat.le_of_ble_eq_true rfl) d_Reckoner_exclude_63 (fun H locs hP hD hS => ?_)
          have hP : va_P D classes [(h0, .inr (8, [.ref a1, .ref a2, .ref a3, .ref a4, .ref a5])), (h1, .inr (11, [.long n1, .long n2, .long (n3 + 1), .long (n4 - 1), .long n5, .long n6]))] H := hP
          have hD : va_D A [(h0, .inr (8, [.ref a1, .ref a2, .ref a3, .ref a4, .ref a5])), (h1, .inr (11, [.long n1, .long n2, .long (n3 + 1), .long (n4 - 1), .long n5, .long n6]))] := hD
          refine lv_aload_n hx hb d_Reckoner_exclude_66 rfl (lv_at hl 1 rfl) ?_
          refine lv_dup hx hb d_Reckoner_exclude_67 rfl ?_
          refine va_get (D := D) (ci := 11) (v := .long n5) (C := "FilterGuard$Num") (T := F_Num) (N := 6) hx hb hts i_Num hown hK hP 1 rfl rfl 4 (by decide) (hts _ u_380) (fun _ h9 => h9) rfl d_Reckoner_exclude_68 ?_
          refine lv_aload_n hx hb d_Reckoner_exclude_71 rfl (lv_at hl 1 rfl) ?_
          refine va_get (D := D) (ci := 11) (v := .long n5) (C := "FilterGuard$Num") (T := F_Num) (N := 6) hx hb hts i_Num hown hK hP 1 rfl rfl 4 (by decide) (hts _ u_380) (fun _ h9 => h9) rfl d_Reckoner_exclude_72 ?_
          refine lv_lload_n hx hb d_Reckoner_exclude_75 rfl (lv_at hl 2 rfl) ?_
          refine W.lcmp hx hb d_Reckoner_exclude_76 ?_
          refine lv_if_ne (tgt := 84) hx hb d_Reckoner_exclude_77 (by decide) (fun c_30 => ?_) (fun c_30 => ?_)
          · have gc_30 : ¬ n5 = x1 := fun z => c_30 ((lg_cmp_eq _ _).mpr z)
            refine lv_lconst (v := 0) hx hb d_Reckoner_exclude_84 (by decide) ?_
            refine lv_ladd hx hb d_Reckoner_exclude_85 ?_
            refine va_put (D := D) (ci := 11) (v := .long (n5 + 0)) (ty := .long) (C := "FilterGuard$Num") (T := F_Num) (N := 6) hx hb hts i_Num t_Num t_Num_ok n_Num hown hK hP hD hS 1 rfl rfl 4 (by decide) (hts _ u_380) (fun _ h9 => h9) rfl (by decide +kernel) rfl rfl (Nat.le_of_ble_eq_true rfl) d_Reckoner_exclude_86 (fun H locs hP hD hS => ?_)
            have hP : va_P D classes [(h0, .inr (8, [.ref a1, .ref a2, .ref a3, .ref a4, .ref a5])), (h1, .inr (11, [.long n1, .long n2, .long (n3 + 1), .long (n4 - 1), .long (n5 + 0), .long n6]))] H := hP
            have hD : va_D A [(h0, .inr (8, [.ref a1, .ref a2, .ref a3, .ref a4, .ref a5])), (h1, .inr (11, [.long n1, .long n2, .long (n3 + 1), .long (n4 - 1), .long (n5 + 0), .long n6]))] := hD
            refine lv_aload_n hx hb d_Reckoner_exclude_89 rfl (lv_at hl 1 rfl) ?_
            refine lv_dup hx hb d_Reckoner_exclude_90 rfl ?_
            refine va_get (D := D) (ci := 11) (v := .long n6) (C := "FilterGuard$Num") (T := F_Num) (N := 6) hx hb hts i_Num hown hK hP 1 rfl rfl 5 (by decide) (hts _ u_382) (fun _ h9 => h9) rfl d_Reckoner_exclude_91 ?_
            refine lv_aload_n hx hb d_Reckoner_exclude_94 rfl (lv_at hl 1 rfl) ?_
            refine va_get (D := D) (ci := 11) (v := .long n6) (C := "FilterGuard$Num") (T := F_Num) (N := 6) hx hb hts i_Num hown hK hP 1 rfl rfl 5 (by decide) (hts _ u_382) (fun _ h9 => h9) rfl d_Reckoner_exclude_95 ?_
            refine lv_lload_n hx hb d_Reckoner_exclude_98 rfl (lv_at hl 2 rfl) ?_
            refine W.lcmp hx hb d_Reckoner_exclude_99 ?_
            refine lv_if_ne (tgt := 107) hx hb d_Reckoner_exclude_100 (by decide) (fun c_31 => ?_) (fun c_31 => ?_)
            · have gc_31 : ¬ n6 = x1 := fun z => c_31 ((lg_cmp_eq _ _).mpr z)
              refine lv_lconst (v := 0) hx hb d_Reckoner_exclude_107 (by decide) ?_
              refine lv_lsub hx hb d_Reckoner_exclude_108 ?_
              refine va_put (D := D) (ci := 11) (v := .long (n6 - 0)) (ty := .long) (C := "FilterGuard$Num") (T := F_Num) (N := 6) hx hb hts i_Num t_Num t_Num_ok n_Num hown hK hP hD hS 1 rfl rfl 5 (by decide) (hts _ u_382) (fun _ h9 => h9) rfl (by decide +kernel) rfl rfl (Nat.le_of_ble_eq_true rfl) d_Reckoner_exclude_109 (fun H locs hP hD hS => ?_)
              have hP : va_P D classes [(h0, .inr (8, [.ref a1, .ref a2, .ref a3, .ref a4, .ref a5])), (h1, .inr (11, [.long n1, .long n2, .long (n3 + 1), .long (n4 - 1), .long (n5 + 0), .long (n6 - 0)]))] H := hP
              have hD : va_D A [(h0, .inr (8, [.ref a1, .ref a2, .ref a3, .ref a4, .ref a5])), (h1, .inr (11, [.long n1, .long n2, .long (n3 + 1), .long (n4 - 1), .long (n5 + 0), .long (n6 - 0)]))] := hD
              refine lv_iconst (v := 1) hx hb d_Reckoner_exclude_112 (by decide) ?_
              exact fg_retz (n1, n2, n3 + 1, n4 - 1, n5 + 0, n6 - 0) hx hb hr hlocks rfl (Or.inl ⟨rfl, by unfold fn_exc; (repeat rw [if_pos gc_1]); (repeat rw [if_neg gc_17]); (repeat rw [if_pos gc_18]); (repeat rw [if_pos gc_26]); (repeat rw [if_neg gc_30]); (repeat rw [if_neg gc_31]); first | done | rfl | contradiction⟩) (hP.sub (ws' := [(h0, .inr (8, [.ref a1, .ref a2, .ref a3, .ref a4, .ref a5])), (h1, .inr (11, [.long n1, .long n2, .long (n3 + 1), .long (n4 - 1), .long (n5 + 0), .long (n6 - 0)]))]) [0, 1] rfl) (hK.sub (tys' := []) [] rfl) (hD.sub (ws' := [(h0, .inr (8, [.ref a1, .ref a2, .ref a3, .ref a4, .ref a5])), (h1, .inr (11, [.long n1, .long n2, .long (n3 + 1), .long (n4 - 1), .long (n5 + 0), .long (n6 - 0)]))]) [0, 1] (by decide) rfl) hS (Nat.le_of_ble_eq_true rfl) (Nat.le_of_ble_eq_true rfl) d_Reckoner_exclude_113
            · have gc_31 : n6 = x1 := (lg_cmp_eq _ _).mp c_31
              refine lv_lconst (v := 1) hx hb d_Reckoner_exclude_103 (by decide) ?_
              refine lv_goto (tgt := 108) hx hb d_Reckoner_exclude_104 (by decide) ?_
              refine lv_lsub hx hb d_Reckoner_exclude_108 ?_
              refine va_put (D := D) (ci := 11) (v := .long (n6 - 1)) (ty := .long) (C := "FilterGuard$Num") (T := F_Num) (N := 6) hx hb hts i_Num t_Num t_Num_ok n_Num hown hK hP hD hS 1 rfl rfl 5 (by decide) (hts _ u_382) (fun _ h9 => h9) rfl (by decide +kernel) rfl rfl (Nat.le_of_ble_eq_true rfl) d_Reckoner_exclude_109 (fun H locs hP hD hS => ?_)
              have hP : va_P D classes [(h0, .inr (8, [.ref a1, .ref a2, .ref a3, .ref a4, .ref a5])), (h1, .inr (11, [.long n1, .long n2, .long (n3 + 1), .long (n4 - 1), .long (n5 + 0), .long (n6 - 1)]))] H := hP
              have hD : va_D A [(h0, .inr (8, [.ref a1, .ref a2, .ref a3, .ref a4, .ref a5])), (h1, .inr (11, [.long n1, .long n2, .long (n3 + 1), .long (n4 - 1), .long (n5 + 0), .long (n6 - 1)]))] := hD
              refine lv_iconst (v := 1) hx hb d_Reckoner_exclude_112 (by decide) ?_
              exact fg_retz (n1, n2, n3 + 1, n4 - 1, n5 + 0, n6 - 1) hx hb hr hlocks rfl (Or.inl ⟨rfl, by unfold fn_exc; (repeat rw [if_pos gc_1]); (repeat rw [if_neg gc_17]); (repeat rw [if_pos gc_18]); (repeat rw [if_pos gc_26]); (repeat rw [if_neg gc_30]); (repeat rw [if_pos gc_31]); first | done | rfl | contradiction⟩) (hP.sub (ws' := [(h0, .inr (8, [.ref a1, .ref a2, .ref a3, .ref a4, .ref a5])), (h1, .inr (11, [.long n1, .long n2, .long (n3 + 1), .long (n4 - 1), .long (n5 + 0), .long (n6 - 1)]))]) [0, 1] rfl) (hK.sub (tys' := []) [] rfl) (hD.sub (ws' := [(h0, .inr (8, [.ref a1, .ref a2, .ref a3, .ref a4, .ref a5])), (h1, .inr (11, [.long n1, .long n2, .long (n3 + 1), .long (n4 - 1), .long (n5 + 0), .long (n6 - 1)]))]) [0, 1] (by decide) rfl) hS (Nat.le_of_ble_eq_true rfl) (Nat.le_of_ble_eq_true rfl) d_Reckoner_exclude_113
          · have gc_30 : n5 = x1 := (lg_cmp_eq _ _).mp c_30
            refine lv_lconst (v := 1) hx hb d_Reckoner_exclude_80 (by decide) ?_
            refine lv_goto (tgt := 85) hx hb d_Reckoner_exclude_81 (by decide) ?_
            refine lv_ladd hx hb d_Reckoner_exclude_85 ?_
            refine va_put (D := D) (ci := 11) (v := .long (n5 + 1)) (ty := .long) (C := "FilterGuard$Num") (T := F_Num) (N := 6) hx hb hts i_Num t_Num t_Num_ok n_Num hown hK hP hD hS 1 rfl rfl 4 (by decide) (hts _ u_380) (fun _ h9 => h9) rfl (by decide +kernel) rfl rfl (Nat.le_of_ble_eq_true rfl) d_Reckoner_exclude_86 (fun H locs hP hD hS => ?_)
            have hP : va_P D classes [(h0, .inr (8, [.ref a1, .ref a2, .ref a3, .ref a4, .ref a5])), (h1, .inr (11, [.long n1, .long n2, .long (n3 + 1), .long (n4 - 1), .long (n5 + 1), .long n6]))] H := hP
            have hD : va_D A [(h0, .inr (8, [.ref a1, .ref a2, .ref a3, .ref a4, .ref a5])), (h1, .inr (11, [.long n1, .long n2, .long (n3 + 1), .long (n4 - 1), .long (n5 + 1), .long n6]))] := hD
            refine lv_aload_n hx hb d_Reckoner_exclude_89 rfl (lv_at hl 1 rfl) ?_
            refine lv_dup hx hb d_Reckoner_exclude_90 rfl ?_
            refine va_get (D := D) (ci := 11) (v := .long n6) (C := "FilterGuard$Num") (T := F_Num) (N := 6) hx hb hts i_Num hown hK hP 1 rfl rfl 5 (by decide) (hts _ u_382) (fun _ h9 => h9) rfl d_Reckoner_exclude_91 ?_
            refine lv_aload_n hx hb d_Reckoner_exclude_94 rfl (lv_at hl 1 rfl) ?_
            refine va_get (D := D) (ci := 11) (v := .long n6) (C := "FilterGuard$Num") (T := F_Num) (N := 6) hx hb hts i_Num hown hK hP 1 rfl rfl 5 (by decide) (hts _ u_382) (fun _ h9 => h9) rfl d_Reckoner_exclude_95 ?_
            refine lv_lload_n hx hb d_Reckoner_exclude_98 rfl (lv_at hl 2 rfl) ?_
            refine W.lcmp hx hb d_Reckoner_exclude_99 ?_
            refine lv_if_ne (tgt := 107) hx hb d_Reckoner_exclude_100 (by decide) (fun c_32 => ?_) (fun c_32 => ?_)
            · have gc_32 : ¬ n6 = x1 := fun z => c_32 ((lg_cmp_eq _ _).mpr z)
              refine lv_lconst (v := 0) hx hb d_Reckoner_exclude_107 (by decide) ?_
              refine lv_lsub hx hb d_Reckoner_exclude_108 ?_
              refine va_put (D := D) (ci := 11) (v := .long (n6 - 0)) (ty := .long) (C := "FilterGuard$Num") (T := F_Num) (N := 6) hx hb hts i_Num t_Num t_Num_ok n_Num hown hK hP hD hS 1 rfl rfl 5 (by decide) (hts _ u_382) (fun _ h9 => h9) rfl (by decide +kernel) rfl rfl (Nat.le_of_ble_eq_true rfl) d_Reckoner_exclude_109 (fun H locs hP hD hS => ?_)
              have hP : va_P D classes [(h0, .inr (8, [.ref a1, .ref a2, .ref a3, .ref a4, .ref a5])), (h1, .inr (11, [.long n1, .long n2, .long (n3 + 1), .long (n4 - 1), .long (n5 + 1), .long (n6 - 0)]))] H := hP
              have hD : va_D A [(h0, .inr (8, [.ref a1, .ref a2, .ref a3, .ref a4, .ref a5])), (h1, .inr (11, [.long n1, .long n2, .long (n3 + 1), .long (n4 - 1), .long (n5 + 1), .long (n6 - 0)]))] := hD
              refine lv_iconst (v := 1) hx hb d_Reckoner_exclude_112 (by decide) ?_
              exact fg_retz (n1, n2, n3 + 1, n4 - 1, n5 + 1, n6 - 0) hx hb hr hlocks rfl (Or.inl ⟨rfl, by unfold fn_exc; (repeat rw [if_pos gc_1]); (repeat rw [if_neg gc_17]); (repeat rw [if_pos gc_18]); (repeat rw [if_pos gc_26]); (repeat rw [if_pos gc_30]); (repeat rw [if_neg gc_32]); first | done | rfl | contradiction⟩) (hP.sub (ws' := [(h0, .inr (8, [.ref a1, .ref a2, .ref a3, .ref a4, .ref a5])), (h1, .inr (11, [.long n1, .long n2, .long (n3 + 1), .long (n4 - 1), .long (n5 + 1), .long (n6 - 0)]))]) [0, 1] rfl) (hK.sub (tys' := []) [] rfl) (hD.sub (ws' := [(h0, .inr (8, [.ref a1, .ref a2, .ref a3, .ref a4, .ref a5])), (h1, .inr (11, [.long n1, .long n2, .long (n3 + 1), .long (n4 - 1), .long (n5 + 1), .long (n6 - 0)]))]) [0, 1] (by decide) rfl) hS (Nat.le_of_ble_eq_true rfl) (Nat.le_of_ble_eq_true rfl) d_Reckoner_exclude_113
            · have gc_32 : n6 = x1 := (lg_cmp_eq _ _).mp c_32
              refine lv_lconst (v := 1) hx hb d_Reckoner_exclude_103 (by decide) ?_
              refine lv_goto (tgt := 108) hx hb d_Reckoner_exclude_104 (by decide) ?_
              refine lv_lsub hx hb d_Reckoner_exclude_108 ?_
              refine va_put (D := D) (ci := 11) (v := .long (n6 - 1)) (ty := .long) (C := "FilterGuard$Num") (T := F_Num) (N := 6) hx hb hts i_Num t_Num t_Num_ok n_Num hown hK hP hD hS 1 rfl rfl 5 (by decide) (hts _ u_382) (fun _ h9 => h9) rfl (by decide +kernel) rfl rfl (Nat.le_of_ble_eq_true rfl) d_Reckoner_exclude_109 (fun H locs hP hD hS => ?_)
              have hP : va_P D classes [(h0, .inr (8, [.ref a1, .ref a2, .ref a3, .ref a4, .ref a5])), (h1, .inr (11, [.long n1, .long n2, .long (n3 + 1), .long (n4 - 1), .long (n5 + 1), .long (n6 - 1)]))] H := hP
              have hD : va_D A [(h0, .inr (8, [.ref a1, .ref a2, .ref a3, .ref a4, .ref a5])), (h1, .inr (11, [.long n1, .long n2, .long (n3 + 1), .long (n4 - 1), .long (n5 + 1), .long (n6 - 1)]))] := hD
              refine lv_iconst (v := 1) hx hb d_Reckoner_exclude_112 (by decide) ?_
              exact fg_retz (n1, n2, n3 + 1, n4 - 1, n5 + 1, n6 - 1) hx hb hr hlocks rfl (Or.inl ⟨rfl, by unfold fn_exc; (repeat rw [if_pos gc_1]); (repeat rw [if_neg gc_17]); (repeat rw [if_pos gc_18]); (repeat rw [if_pos gc_26]); (repeat rw [if_pos gc_30]); (repeat rw [if_pos gc_32]); first | done | rfl | contradiction⟩) (hP.sub (ws' := [(h0, .inr (8, [.ref a1, .ref a2, .ref a3, .ref a4, .ref a5])), (h1, .inr (11, [.long n1, .long n2, .long (n3 + 1), .long (n4 - 1), .long (n5 + 1), .long (n6 - 1)]))]) [0, 1] rfl) (hK.sub (tys' := []) [] rfl) (hD.sub (ws' := [(h0, .inr (8, [.ref a1, .ref a2, .ref a3, .ref a4, .ref a5])), (h1, .inr (11, [.long n1, .long n2, .long (n3 + 1), .long (n4 - 1), .long (n5 + 1), .long (n6 - 1)]))]) [0, 1] (by decide) rfl) hS (Nat.le_of_ble_eq_true rfl) (Nat.le_of_ble_eq_true rfl) d_Reckoner_exclude_113
    · have gc_17 : n1 = x1 := (lg_cmp_eq _ _).mp c_17
      refine lv_iconst (v := 0) hx hb d_Reckoner_exclude_18 (by decide) ?_
      exact fg_retz (n1, n2, n3, n4, n5, n6) hx hb hr hlocks rfl (Or.inr ⟨rfl, by unfold fn_exc; (repeat rw [if_pos gc_1]); (repeat rw [if_pos gc_17]); first | done | rfl | contradiction⟩) (hP.sub (ws' := [(h0, .inr (8, [.ref a1, .ref a2, .ref a3, .ref a4, .ref a5])), (h1, .inr (11, [.long n1, .long n2, .long n3, .long n4, .long n5, .long n6]))]) [0, 1] rfl) (hK.sub (tys' := []) [] rfl) (hD.sub (ws' := [(h0, .inr (8, [.ref a1, .ref a2, .ref a3, .ref a4, .ref a5])), (h1, .inr (11, [.long n1, .long n2, .long n3, .long n4, .long n5, .long n6]))]) [0, 1] (by decide) rfl) hS (Nat.le_of_ble_eq_true rfl) (Nat.le_of_ble_eq_true rfl) d_Reckoner_exclude_19
