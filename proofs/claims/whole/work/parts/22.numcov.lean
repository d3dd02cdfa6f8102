abbrev y_Num_covers : MethodName := ⟨"FilterGuard$Num", "covers", "(LFilterGuard$Num;)Z"⟩
theorem d_Num_covers_0 : decode prog_8_method_11_code 0 = .ok (.aload_n 0, 1) := by decide +kernel
theorem d_Num_covers_1 : decode prog_8_method_11_code 1 = .ok (.getfield 15, 3) := by decide +kernel
theorem d_Num_covers_4 : decode prog_8_method_11_code 4 = .ok (.ldc2_w 30, 3) := by decide +kernel
theorem d_Num_covers_7 : decode prog_8_method_11_code 7 = .ok (.lxor, 1) := by decide +kernel
theorem d_Num_covers_8 : decode prog_8_method_11_code 8 = .ok (.aload_n 1, 1) := by decide +kernel
theorem d_Num_covers_9 : decode prog_8_method_11_code 9 = .ok (.getfield 15, 3) := by decide +kernel
theorem d_Num_covers_12 : decode prog_8_method_11_code 12 = .ok (.land, 1) := by decide +kernel
theorem d_Num_covers_13 : decode prog_8_method_11_code 13 = .ok (.lconst 0, 1) := by decide +kernel
theorem d_Num_covers_14 : decode prog_8_method_11_code 14 = .ok (.lcmp, 1) := by decide +kernel
theorem d_Num_covers_15 : decode prog_8_method_11_code 15 = .ok (.ifCond .ne 82, 3) := by decide +kernel
theorem d_Num_covers_97 : decode prog_8_method_11_code 97 = .ok (.iconst 0, 1) := by decide +kernel
theorem d_Num_covers_98 : decode prog_8_method_11_code 98 = .ok (.ireturn, 1) := by decide +kernel
theorem d_Num_covers_18 : decode prog_8_method_11_code 18 = .ok (.aload_n 0, 1) := by decide +kernel
theorem d_Num_covers_19 : decode prog_8_method_11_code 19 = .ok (.getfield 9, 3) := by decide +kernel
theorem d_Num_covers_22 : decode prog_8_method_11_code 22 = .ok (.aload_n 1, 1) := by decide +kernel
theorem d_Num_covers_23 : decode prog_8_method_11_code 23 = .ok (.getfield 9, 3) := by decide +kernel
theorem d_Num_covers_26 : decode prog_8_method_11_code 26 = .ok (.lxor, 1) := by decide +kernel
theorem d_Num_covers_27 : decode prog_8_method_11_code 27 = .ok (.aload_n 0, 1) := by decide +kernel
theorem d_Num_covers_28 : decode prog_8_method_11_code 28 = .ok (.getfield 15, 3) := by decide +kernel
theorem d_Num_covers_31 : decode prog_8_method_11_code 31 = .ok (.ldc2_w 30, 3) := by decide +kernel
theorem d_Num_covers_34 : decode prog_8_method_11_code 34 = .ok (.lxor, 1) := by decide +kernel
theorem d_Num_covers_35 : decode prog_8_method_11_code 35 = .ok (.land, 1) := by decide +kernel
theorem d_Num_covers_36 : decode prog_8_method_11_code 36 = .ok (.lconst 0, 1) := by decide +kernel
theorem d_Num_covers_37 : decode prog_8_method_11_code 37 = .ok (.lcmp, 1) := by decide +kernel
theorem d_Num_covers_38 : decode prog_8_method_11_code 38 = .ok (.ifCond .ne 59, 3) := by decide +kernel
theorem d_Num_covers_41 : decode prog_8_method_11_code 41 = .ok (.aload_n 1, 1) := by decide +kernel
theorem d_Num_covers_42 : decode prog_8_method_11_code 42 = .ok (.getfield 18, 3) := by decide +kernel
theorem d_Num_covers_45 : decode prog_8_method_11_code 45 = .ok (.aload_n 0, 1) := by decide +kernel
theorem d_Num_covers_46 : decode prog_8_method_11_code 46 = .ok (.getfield 18, 3) := by decide +kernel
theorem d_Num_covers_49 : decode prog_8_method_11_code 49 = .ok (.invokestatic 36, 3) := by decide +kernel
theorem u_1062 : Cond.methodLink "FilterGuard$Num" 36 ⟨"FilterGuard$Num", "isBelow", "(JJ)Z"⟩ ∈ fg_g := fg_in (List.mem_of_getElem? (i := 1062) (by decide +kernel)) rfl
theorem u_1064 : Cond.code ⟨"FilterGuard$Num", "isBelow", "(JJ)Z"⟩ prog_8_method_9_code 4 (some .boolean) ∈ fg_g := fg_in (List.mem_of_getElem? (i := 1064) (by decide +kernel)) rfl
theorem u_1063 : Cond.static ⟨"FilterGuard$Num", "isBelow", "(JJ)Z"⟩ ∈ fg_g := fg_in (List.mem_of_getElem? (i := 1063) (by decide +kernel)) rfl
theorem d_Num_covers_52 : decode prog_8_method_11_code 52 = .ok (.ifCond .ne 45, 3) := by decide +kernel
theorem d_Num_covers_55 : decode prog_8_method_11_code 55 = .ok (.aload_n 0, 1) := by decide +kernel
theorem d_Num_covers_56 : decode prog_8_method_11_code 56 = .ok (.getfield 21, 3) := by decide +kernel
theorem d_Num_covers_59 : decode prog_8_method_11_code 59 = .ok (.aload_n 1, 1) := by decide +kernel
theorem d_Num_covers_60 : decode prog_8_method_11_code 60 = .ok (.getfield 21, 3) := by decide +kernel
theorem d_Num_covers_63 : decode prog_8_method_11_code 63 = .ok (.invokestatic 36, 3) := by decide +kernel
theorem d_Num_covers_66 : decode prog_8_method_11_code 66 = .ok (.ifCond .ne 31, 3) := by decide +kernel
theorem d_Num_covers_69 : decode prog_8_method_11_code 69 = .ok (.aload_n 0, 1) := by decide +kernel
theorem d_Num_covers_70 : decode prog_8_method_11_code 70 = .ok (.getfield 24, 3) := by decide +kernel
theorem d_Num_covers_73 : decode prog_8_method_11_code 73 = .ok (.aload_n 1, 1) := by decide +kernel
theorem d_Num_covers_74 : decode prog_8_method_11_code 74 = .ok (.getfield 24, 3) := by decide +kernel
theorem d_Num_covers_77 : decode prog_8_method_11_code 77 = .ok (.lcmp, 1) := by decide +kernel
theorem d_Num_covers_78 : decode prog_8_method_11_code 78 = .ok (.ifCond .gt 19, 3) := by decide +kernel
theorem d_Num_covers_81 : decode prog_8_method_11_code 81 = .ok (.aload_n 0, 1) := by decide +kernel
theorem d_Num_covers_82 : decode prog_8_method_11_code 82 = .ok (.getfield 27, 3) := by decide +kernel
theorem d_Num_covers_85 : decode prog_8_method_11_code 85 = .ok (.aload_n 1, 1) := by decide +kernel
theorem d_Num_covers_86 : decode prog_8_method_11_code 86 = .ok (.getfield 27, 3) := by decide +kernel
theorem d_Num_covers_89 : decode prog_8_method_11_code 89 = .ok (.lcmp, 1) := by decide +kernel
theorem d_Num_covers_90 : decode prog_8_method_11_code 90 = .ok (.ifCond .lt 7, 3) := by decide +kernel
theorem d_Num_covers_93 : decode prog_8_method_11_code 93 = .ok (.iconst 1, 1) := by decide +kernel
theorem d_Num_covers_94 : decode prog_8_method_11_code 94 = .ok (.goto 4, 3) := by decide +kernel
def rm_Num_covers : Room := { frames := 2, cells := 0, slots := 0, locals := 60 }
abbrev q_Num_covers (D : va_G) (h0 : Nat) (n1 : Int64) (n2 : Int64) (n3 : Int64) (n4 : Int64) (n5 : Int64) (n6 : Int64) (h1 : Nat) (o1 : Int64) (o2 : Int64) (o3 : Int64) (o4 : Int64) (o5 : Int64) (o6 : Int64) (A : Nat → Prop) : Array Value → Jvm.State → Outcome → Jvm.State → Prop := va_Qi (fun (r : Int32) (_ : Unit) => r = (if ((n2 ^^^ -1) &&& o2) = 0 ∧ ((n1 ^^^ o1) &&& (n2 ^^^ -1)) = 0 ∧ ¬ fn_lt o3 n3 ∧ ¬ fn_lt n4 o4 ∧ n5 ≤ o5 ∧ o6 ≤ n6 then 1 else 0)) (fg_B D A (fun (_ : Unit) => [(h0, .inr (11, [.long n1, .long n2, .long n3, .long n4, .long n5, .long n6])), (h1, .inr (11, [.long o1, .long o2, .long o3, .long o4, .long o5, .long o6]))]) (fun (_ : Unit) => [])) A
set_option maxHeartbeats 4000000 in
set_option maxRecDepth 100000 in
theorem c_Num_covers (l : Launch) (D : va_G) (h0 : Nat) (n1 : Int64) (n2 : Int64) (n3 : Int64) (n4 : Int64) (n5 : Int64) (n6 : Int64) (h1 : Nat) (o1 : Int64) (o2 : Int64) (o3 : Int64) (o4 : Int64) (o5 : Int64) (o6 : Int64) (sz : Nat) : Met l y_Num_covers (fg_w y_Num_covers prog_8_method_11_code 2 (some .boolean)) rm_Num_covers (va_Pc [.ref h0, .ref h1] (fg_P D [] [(h0, .inr (11, [.long n1, .long n2, .long n3, .long n4, .long n5, .long n6])), (h1, .inr (11, [.long o1, .long o2, .long o3, .long o4, .long o5, .long o6]))] sz)) (q_Num_covers D h0 n1 n2 n3 n4 n5 n6 h1 o1 o2 o3 o4 o5 o6 (va_A [(h0, .inr (11, [.long n1, .long n2, .long n3, .long n4, .long n5, .long n6])), (h1, .inr (11, [.long o1, .long o2, .long o3, .long o4, .long o5, .long o6]))] sz)) rm_Num_covers.cells rm_Num_covers.slots (va_A [(h0, .inr (11, [.long n1, .long n2, .long n3, .long n4, .long n5, .long n6])), (h1, .inr (11, [.long o1, .long o2, .long o3, .long o4, .long o5, .long o6]))] sz) := by
  refine fg_enter (fun A => q_Num_covers D h0 n1 n2 n3 n4 n5 n6 h1 o1 o2 o3 o4 o5 o6 A) (by decide +kernel) (Nat.le_of_ble_eq_true rfl) ?_
  intro p e s m below meth c ls A hx hb hml hown hts hr hlocks hin hP hK hD hS hA hX hl
  have hl : lv_has ls 2 [(0, .ref h0), (1, .ref h1)] := hl
  refine lv_aload_n hx hb d_Num_covers_0 rfl (lv_at hl 0 rfl) ?_
  refine va_get (D := D) (ci := 11) (v := .long n2) (C := "FilterGuard$Num") (T := F_Num) (N := 6) hx hb hts i_Num hown hK hP 0 rfl rfl 1 (by decide) (hts _ u_371) (fun _ h9 => h9) rfl d_Num_covers_1 ?_
  refine lv_ldc2 hx hb hown (hts _ u_1061) d_Num_covers_4 ?_
  refine lv_lxor hx hb d_Num_covers_7 ?_
  refine lv_aload_n hx hb d_Num_covers_8 rfl (lv_at hl 1 rfl) ?_
  refine va_get (D := D) (ci := 11) (v := .long o2) (C := "FilterGuard$Num") (T := F_Num) (N := 6) hx hb hts i_Num hown hK hP 1 rfl rfl 1 (by decide) (hts _ u_371) (fun _ h9 => h9) rfl d_Num_covers_9 ?_
  refine lv_land hx hb d_Num_covers_12 ?_
  refine lv_lconst (v := 0) hx hb d_Num_covers_13 (by decide) ?_
  refine W.lcmp hx hb d_Num_covers_14 ?_
  refine lv_if_ne (tgt := 97) hx hb d_Num_covers_15 (by decide) (fun c_1 => ?_) (fun c_1 => ?_)
  · refine lv_iconst (v := 0) hx hb d_Num_covers_97 (by decide) ?_
    exact fg_retz () hx hb hr hlocks rfl (by rw [if_neg (fun z => c_1 ((lg_cmp_eq _ _).mpr z.1))]) (hP.sub (ws' := [(h0, .inr (11, [.long n1, .long n2, .long n3, .long n4, .long n5, .long n6])), (h1, .inr (11, [.long o1, .long o2, .long o3, .long o4, .long o5, .long o6]))]) [0, 1] rfl) (hK.sub (tys' := []) [] rfl) (hD.sub (ws' := [(h0, .inr (11, [.long n1, .long n2, .long n3, .long n4, .long n5, .long n6])), (h1, .inr (11, [.long o1, .long o2, .long o3, .long o4, .long o5, .long o6]))]) [0, 1] (by decide) rfl) hS (Nat.le_of_ble_eq_true rfl) (Nat.le_of_ble_eq_true rfl) d_Num_covers_98
  · refine lv_aload_n hx hb d_Num_covers_18 rfl (lv_at hl 0 rfl) ?_
    refine va_get (D := D) (ci := 11) (v := .long n1) (C := "FilterGuard$Num") (T := F_Num) (N := 6) hx hb hts i_Num hown hK hP 0 rfl rfl 0 (by decide) (hts _ u_367) (fun _ h9 => h9) rfl d_Num_covers_19 ?_
    refine lv_aload_n hx hb d_Num_covers_22 rfl (lv_at hl 1 rfl) ?_
    refine va_get (D := D) (ci := 11) (v := .long o1) (C := "FilterGuard$Num") (T := F_Num) (N := 6) hx hb hts i_Num hown hK hP 1 rfl rfl 0 (by decide) (hts _ u_367) (fun _ h9 => h9) rfl d_Num_covers_23 ?_
    refine lv_lxor hx hb d_Num_covers_26 ?_
    refine lv_aload_n hx hb d_Num_covers_27 rfl (lv_at hl 0 rfl) ?_
    refine va_get (D := D) (ci := 11) (v := .long n2) (C := "FilterGuard$Num") (T := F_Num) (N := 6) hx hb hts i_Num hown hK hP 0 rfl rfl 1 (by decide) (hts _ u_371) (fun _ h9 => h9) rfl d_Num_covers_28 ?_
    refine lv_ldc2 hx hb hown (hts _ u_1061) d_Num_covers_31 ?_
    refine lv_lxor hx hb d_Num_covers_34 ?_
    refine lv_land hx hb d_Num_covers_35 ?_
    refine lv_lconst (v := 0) hx hb d_Num_covers_36 (by decide) ?_
    refine W.lcmp hx hb d_Num_covers_37 ?_
    refine lv_if_ne (tgt := 97) hx hb d_Num_covers_38 (by decide) (fun c_2 => ?_) (fun c_2 => ?_)
    · refine lv_iconst (v := 0) hx hb d_Num_covers_97 (by decide) ?_
      exact fg_retz () hx hb hr hlocks rfl (by rw [if_neg (fun z => c_2 ((lg_cmp_eq _ _).mpr z.2.1))]) (hP.sub (ws' := [(h0, .inr (11, [.long n1, .long n2, .long n3, .long n4, .long n5, .long n6])), (h1, .inr (11, [.long o1, .long o2, .long o3, .long o4, .long o5, .long o6]))]) [0, 1] rfl) (hK.sub (tys' := []) [] rfl) (hD.sub (ws' := [(h0, .inr (11, [.long n1, .long n2, .long n3, .long n4, .long n5, .long n6])), (h1, .inr (11, [.long o1, .long o2, .long o3, .long o4, .long o5, .long o6]))]) [0, 1] (by decide) rfl) hS (Nat.le_of_ble_eq_true rfl) (Nat.le_of_ble_eq_true rfl) d_Num_covers_98
    · refine lv_aload_n hx hb d_Num_covers_41 rfl (lv_at hl 1 rfl) ?_
      refine va_get (D := D) (ci := 11) (v := .long o3) (C := "FilterGuard$Num") (T := F_Num) (N := 6) hx hb hts i_Num hown hK hP 1 rfl rfl 2 (by decide) (hts _ u_373) (fun _ h9 => h9) rfl d_Num_covers_42 ?_
      refine lv_aload_n hx hb d_Num_covers_45 rfl (lv_at hl 0 rfl) ?_
      refine va_get (D := D) (ci := 11) (v := .long n3) (C := "FilterGuard$Num") (T := F_Num) (N := 6) hx hb hts i_Num hown hK hP 0 rfl rfl 2 (by decide) (hts _ u_373) (fun _ h9 => h9) rfl d_Num_covers_46 ?_
      refine fg_theni (wr := [(h0, .inr (11, [.long n1, .long n2, .long n3, .long n4, .long n5, .long n6])), (h1, .inr (11, [.long o1, .long o2, .long o3, .long o4, .long o5, .long o6]))]) (fg_runS (As := [.long o3, .long n3]) (rest := []) ⟨hx, hb, hml, hown, hts⟩ (c_Num_isBelow l D o3 n3 s.heap.size) (by show fg_nm y_Num_isBelow 2; decide +kernel) u_1062 u_1063 u_187 u_1064 ⟨Nat.le_of_ble_eq_true rfl, Nat.le_of_ble_eq_true rfl⟩ hX (hP.sub (ws' := []) [] rfl) (hK.sub (tys' := []) [] rfl) (hD.sub (ws' := []) [] (by decide) rfl) rfl hl.1 (Nat.le_of_ble_eq_true rfl) d_Num_covers_49 ⟨(Nat.le_of_ble_eq_true rfl), (Nat.le_of_ble_eq_true rfl)⟩) hP hD hK hS hA [] [0, 1] rfl rfl (by decide) (by decide) (fun r49_3 u H locs hw49_2 hP hD hK hS => ?_)
      try dsimp only at hw49_2
      have hP : va_P D classes [(h0, .inr (11, [.long n1, .long n2, .long n3, .long n4, .long n5, .long n6])), (h1, .inr (11, [.long o1, .long o2, .long o3, .long o4, .long o5, .long o6]))] H := hP
      have hD : va_D A [(h0, .inr (11, [.long n1, .long n2, .long n3, .long n4, .long n5, .long n6])), (h1, .inr (11, [.long o1, .long o2, .long o3, .long o4, .long o5, .long o6]))] := hD
      have hK : va_K D classes [] s := hK
      refine W.widen (k := 0) (n := 0) (Nat.le_of_ble_eq_true rfl) (Nat.le_of_ble_eq_true rfl) ?_
      refine lv_if_ne (tgt := 97) hx hb d_Num_covers_52 (by decide) (fun c_4 => ?_) (fun c_4 => ?_)
      · refine lv_iconst (v := 0) hx hb d_Num_covers_97 (by decide) ?_
        exact fg_retz () hx hb hr hlocks rfl (by rw [if_neg (fun z => z.2.2.1 (fg_ifnz hw49_2 c_4))]) (hP.sub (ws' := [(h0, .inr (11, [.long n1, .long n2, .long n3, .long n4, .long n5, .long n6])), (h1, .inr (11, [.long o1, .long o2, .long o3, .long o4, .long o5, .long o6]))]) [0, 1] rfl) (hK.sub (tys' := []) [] rfl) (hD.sub (ws' := [(h0, .inr (11, [.long n1, .long n2, .long n3, .long n4, .long n5, .long n6])), (h1, .inr (11, [.long o1, .long o2, .long o3, .long o4, .long o5, .long o6]))]) [0, 1] (by decide) rfl) hS (Nat.le_of_ble_eq_true rfl) (Nat.le_of_ble_eq_true rfl) d_Num_covers_98
      · refine lv_aload_n hx hb d_Num_covers_55 rfl (lv_at hl 0 rfl) ?_
        refine va_get (D := D) (ci := 11) (v := .long n4) (C := "FilterGuard$Num") (T := F_Num) (N := 6) hx hb hts i_Num hown hK hP 0 rfl rfl 3 (by decide) (hts _ u_376) (fun _ h9 => h9) rfl d_Num_covers_56 ?_
        refine lv_aload_n hx hb d_Num_covers_59 rfl (lv_at hl 1 rfl) ?_
        refine va_get (D := D) (ci := 11) (v := .long o4) (C := "FilterGuard$Num") (T := F_Num) (N := 6) hx hb hts i_Num hown hK hP 1 rfl rfl 3 (by decide) (hts _ u_376) (fun _ h9 => h9) rfl d_Num_covers_60 ?_
        refine fg_theni (wr := [(h0, .inr (11, [.long n1, .long n2, .long n3, .long n4, .long n5, .long n6])), (h1, .inr (11, [.long o1, .long o2, .long o3, .long o4, .long o5, .long o6]))]) (fg_runS (As := [.long n4, .long o4]) (rest := []) ⟨hx, hb, hml, hown, hts⟩ (c_Num_isBelow l D n4 o4 H.size) (by show fg_nm y_Num_isBelow 2; decide +kernel) u_1062 u_1063 u_187 u_1064 ⟨Nat.le_of_ble_eq_true rfl, Nat.le_of_ble_eq_true rfl⟩ hX (hP.sub (ws' := []) [] rfl) (hK.sub (tys' := []) [] rfl) (hD.sub (ws' := []) [] (by decide) rfl) rfl hl.1 (Nat.le_of_ble_eq_true rfl) d_Num_covers_63 ⟨(Nat.le_of_ble_eq_true rfl), (Nat.le_of_ble_eq_true rfl)⟩) hP hD hK hS hA [] [0, 1] rfl rfl (by decide) (by decide) (fun r63_5 u H locs hw63_4 hP hD hK hS => ?_)
        try dsimp only at hw63_4
        have hP : va_P D classes [(h0, .inr (11, [.long n1, .long n2, .long n3, .long n4, .long n5, .long n6])), (h1, .inr (11, [.long o1, .long o2, .long o3, .long o4, .long o5, .long o6]))] H := hP
        have hD : va_D A [(h0, .inr (11, [.long n1, .long n2, .long n3, .long n4, .long n5, .long n6])), (h1, .inr (11, [.long o1, .long o2, .long o3, .long o4, .long o5, .long o6]))] := hD
        have hK : va_K D classes [] s := hK
        refine W.widen (k := 0) (n := 0) (Nat.le_of_ble_eq_true rfl) (Nat.le_of_ble_eq_true rfl) ?_
        refine lv_if_ne (tgt := 97) hx hb d_Num_covers_66 (by decide) (fun c_6 => ?_) (fun c_6 => ?_)
        · refine lv_iconst (v := 0) hx hb d_Num_covers_97 (by decide) ?_
          exact fg_retz () hx hb hr hlocks rfl (by rw [if_neg (fun z => z.2.2.2.1 (fg_ifnz hw63_4 c_6))]) (hP.sub (ws' := [(h0, .inr (11, [.long n1, .long n2, .long n3, .long n4, .long n5, .long n6])), (h1, .inr (11, [.long o1, .long o2, .long o3, .long o4, .long o5, .long o6]))]) [0, 1] rfl) (hK.sub (tys' := []) [] rfl) (hD.sub (ws' := [(h0, .inr (11, [.long n1, .long n2, .long n3, .long n4, .long n5, .long n6])), (h1, .inr (11, [.long o1, .long o2, .long o3, .long o4, .long o5, .long o6]))]) [0, 1] (by decide) rfl) hS (Nat.le_of_ble_eq_true rfl) (Nat.le_of_ble_eq_true rfl) d_Num_covers_98
        · refine lv_aload_n hx hb d_Num_covers_69 rfl (lv_at hl 0 rfl) ?_
          refine va_get (D := D) (ci := 11) (v := .long n5) (C := "FilterGuard$Num") (T := F_Num) (N := 6) hx hb hts i_Num hown hK hP 0 rfl rfl 4 (by decide) (hts _ u_379) (fun _ h9 => h9) rfl d_Num_covers_70 ?_
          refine lv_aload_n hx hb d_Num_covers_73 rfl (lv_at hl 1 rfl) ?_
          refine va_get (D := D) (ci := 11) (v := .long o5) (C := "FilterGuard$Num") (T := F_Num) (N := 6) hx hb hts i_Num hown hK hP 1 rfl rfl 4 (by decide) (hts _ u_379) (fun _ h9 => h9) rfl d_Num_covers_74 ?_
          refine W.lcmp hx hb d_Num_covers_77 ?_
          refine lv_if_gt (tgt := 97) hx hb d_Num_covers_78 (by decide) (fun c_7 => ?_) (fun c_7 => ?_)
          · refine lv_iconst (v := 0) hx hb d_Num_covers_97 (by decide) ?_
            exact fg_retz () hx hb hr hlocks rfl (by rw [if_neg (fun z => absurd z.2.2.2.2.1 (Int64.not_le.mpr ((lg_cmp_gt _ _).mp c_7)))]) (hP.sub (ws' := [(h0, .inr (11, [.long n1, .long n2, .long n3, .long n4, .long n5, .long n6])), (h1, .inr (11, [.long o1, .long o2, .long o3, .long o4, .long o5, .long o6]))]) [0, 1] rfl) (hK.sub (tys' := []) [] rfl) (hD.sub (ws' := [(h0, .inr (11, [.long n1, .long n2, .long n3, .long n4, .long n5, .long n6])), (h1, .inr (11, [.long o1, .long o2, .long o3, .long o4, .long o5, .long o6]))]) [0, 1] (by decide) rfl) hS (Nat.le_of_ble_eq_true rfl) (Nat.le_of_ble_eq_true rfl) d_Num_covers_98
          · refine lv_aload_n hx hb d_Num_covers_81 rfl (lv_at hl 0 rfl) ?_
            refine va_get (D := D) (ci := 11) (v := .long n6) (C := "FilterGuard$Num") (T := F_Num) (N := 6) hx hb hts i_Num hown hK hP 0 rfl rfl 5 (by decide) (hts _ u_381) (fun _ h9 => h9) rfl d_Num_covers_82 ?_
            refine lv_aload_n hx hb d_Num_covers_85 rfl (lv_at hl 1 rfl) ?_
            refine va_get (D := D) (ci := 11) (v := .long o6) (C := "FilterGuard$Num") (T := F_Num) (N := 6) hx hb hts i_Num hown hK hP 1 rfl rfl 5 (by decide) (hts _ u_381) (fun _ h9 => h9) rfl d_Num_covers_86 ?_
            refine W.lcmp hx hb d_Num_covers_89 ?_
            refine lv_if_lt (tgt := 97) hx hb d_Num_covers_90 (by decide) (fun c_8 => ?_) (fun c_8 => ?_)
            · refine lv_iconst (v := 0) hx hb d_Num_covers_97 (by decide) ?_
              exact fg_retz () hx hb hr hlocks rfl (by rw [if_neg (fun z => absurd z.2.2.2.2.2 (Int64.not_le.mpr ((lg_cmp_lt _ _).mp c_8)))]) (hP.sub (ws' := [(h0, .inr (11, [.long n1, .long n2, .long n3, .long n4, .long n5, .long n6])), (h1, .inr (11, [.long o1, .long o2, .long o3, .long o4, .long o5, .long o6]))]) [0, 1] rfl) (hK.sub (tys' := []) [] rfl) (hD.sub (ws' := [(h0, .inr (11, [.long n1, .long n2, .long n3, .long n4, .long n5, .long n6])), (h1, .inr (11, [.long o1, .long o2, .long o3, .long o4, .long o5, .long o6]))]) [0, 1] (by decide) rfl) hS (Nat.le_of_ble_eq_true rfl) (Nat.le_of_ble_eq_true rfl) d_Num_covers_98
            · refine lv_iconst (v := 1) hx hb d_Num_covers_93 (by decide) ?_
              refine lv_goto (tgt := 98) hx hb d_Num_covers_94 (by decide) ?_
              exact fg_retz () hx hb hr hlocks rfl (by rw [if_pos ⟨(lg_cmp_eq _ _).mp c_1, (lg_cmp_eq _ _).mp c_2, fg_ifz hw49_2 c_4, fg_ifz hw63_4 c_6, Int64.not_lt.mp (fun z => c_7 ((lg_cmp_gt _ _).mpr z)), Int64.not_lt.mp (fun z => c_8 ((lg_cmp_lt _ _).mpr z))⟩]) (hP.sub (ws' := [(h0, .inr (11, [.long n1, .long n2, .long n3, .long n4, .long n5, .long n6])), (h1, .inr (11, [.long o1, .long o2, .long o3, .long o4, .long o5, .long o6]))]) [0, 1] rfl) (hK.sub (tys' := []) [] rfl) (hD.sub (ws' := [(h0, .inr (11, [.long n1, .long n2, .long n3, .long n4, .long n5, .long n6])), (h1, .inr (11, [.long o1, .long o2, .long o3, .long o4, .long o5, .long o6]))]) [0, 1] (by decide) rfl) hS (Nat.le_of_ble_eq_true rfl) (Nat.le_of_ble_eq_true rfl) d_Num_covers_98
