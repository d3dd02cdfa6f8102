abbrev y_Reckoner_above : MethodName := ⟨"FilterGuard$Reckoner", "above", "(LFilterGuard$Num;LFilterGuard$Num;)Z"⟩
theorem d_Reckoner_above_0 : decode prog_9_method_17_code 0 = .ok (.aload_n 2, 1) := by decide +kernel
theorem d_Reckoner_above_1 : decode prog_9_method_17_code 1 = .ok (.getfield 96, 3) := by decide +kernel
theorem d_Reckoner_above_4 : decode prog_9_method_17_code 4 = .ok (.ldc2_w 90, 3) := by decide +kernel
theorem d_Reckoner_above_7 : decode prog_9_method_17_code 7 = .ok (.lcmp, 1) := by decide +kernel
theorem d_Reckoner_above_8 : decode prog_9_method_17_code 8 = .ok (.ifCond .eq 12, 3) := by decide +kernel
theorem d_Reckoner_above_20 : decode prog_9_method_17_code 20 = .ok (.iconst 0, 1) := by decide +kernel
theorem d_Reckoner_above_21 : decode prog_9_method_17_code 21 = .ok (.ireturn, 1) := by decide +kernel
theorem d_Reckoner_above_11 : decode prog_9_method_17_code 11 = .ok (.aload_n 1, 1) := by decide +kernel
theorem d_Reckoner_above_12 : decode prog_9_method_17_code 12 = .ok (.getfield 122, 3) := by decide +kernel
theorem d_Reckoner_above_15 : decode prog_9_method_17_code 15 = .ok (.lconst 0, 1) := by decide +kernel
theorem d_Reckoner_above_16 : decode prog_9_method_17_code 16 = .ok (.lcmp, 1) := by decide +kernel
theorem d_Reckoner_above_17 : decode prog_9_method_17_code 17 = .ok (.ifCond .ne 5, 3) := by decide +kernel
theorem d_Reckoner_above_22 : decode prog_9_method_17_code 22 = .ok (.aload_n 1, 1) := by decide +kernel
theorem d_Reckoner_above_23 : decode prog_9_method_17_code 23 = .ok (.aload_n 2, 1) := by decide +kernel
theorem d_Reckoner_above_24 : decode prog_9_method_17_code 24 = .ok (.getfield 96, 3) := by decide +kernel
theorem d_Reckoner_above_27 : decode prog_9_method_17_code 27 = .ok (.lconst 1, 1) := by decide +kernel
theorem d_Reckoner_above_28 : decode prog_9_method_17_code 28 = .ok (.ladd, 1) := by decide +kernel
theorem d_Reckoner_above_29 : decode prog_9_method_17_code 29 = .ok (.invokevirtual 99, 3) := by decide +kernel
theorem d_Reckoner_above_32 : decode prog_9_method_17_code 32 = .ok (.aload_n 2, 1) := by decide +kernel
theorem d_Reckoner_above_33 : decode prog_9_method_17_code 33 = .ok (.aload_n 1, 1) := by decide +kernel
theorem d_Reckoner_above_34 : decode prog_9_method_17_code 34 = .ok (.getfield 122, 3) := by decide +kernel
theorem d_Reckoner_above_37 : decode prog_9_method_17_code 37 = .ok (.lconst 1, 1) := by decide +kernel
theorem d_Reckoner_above_38 : decode prog_9_method_17_code 38 = .ok (.lsub, 1) := by decide +kernel
theorem d_Reckoner_above_39 : decode prog_9_method_17_code 39 = .ok (.invokevirtual 146, 3) := by decide +kernel
theorem d_Reckoner_above_42 : decode prog_9_method_17_code 42 = .ok (.iconst 1, 1) := by decide +kernel
theorem d_Reckoner_above_43 : decode prog_9_method_17_code 43 = .ok (.ireturn, 1) := by decide +kernel
def rm_Reck_above : Room := { frames := 2, cells := 0, slots := 0, locals := 60 }
abbrev q_Reck_above (D : va_G) (h0 : Nat) (a1 : Nat) (a2 : Nat) (a3 : Nat) (a4 : Nat) (a5 : Nat) (h1 : Nat) (n1 : Int64) (n2 : Int64) (n3 : Int64) (n4 : Int64) (n5 : Int64) (n6 : Int64) (h2 : Nat) (o1 : Int64) (o2 : Int64) (o3 : Int64) (o4 : Int64) (o5 : Int64) (o6 : Int64) (A : Nat → Prop) : Array Value → Jvm.State → Outcome → Jvm.State → Prop := va_Qi (fun (r : Int32) (u : Int64 × Int64 × Int64 × Int64 × Int64 × Int64 × Int64 × Int64 × Int64 × Int64 × Int64 × Int64) => (r = 1 ∧ fn_above n1 n2 n3 n4 n5 n6 o1 o2 o3 o4 o5 o6 = some ((u.1, u.2.1, u.2.2.1, u.2.2.2.1, u.2.2.2.2.1, u.2.2.2.2.2.1), (u.2.2.2.2.2.2.1, u.2.2.2.2.2.2.2.1, u.2.2.2.2.2.2.2.2.1, u.2.2.2.2.2.2.2.2.2.1, u.2.2.2.2.2.2.2.2.2.2.1, u.2.2.2.2.2.2.2.2.2.2.2))) ∨ (r = 0 ∧ fn_above n1 n2 n3 n4 n5 n6 o1 o2 o3 o4 o5 o6 = none)) (fg_B D A (fun (u : Int64 × Int64 × Int64 × Int64 × Int64 × Int64 × Int64 × Int64 × Int64 × Int64 × Int64 × Int64) => [(h0, .inr (8, [.ref a1, .ref a2, .ref a3, .ref a4, .ref a5])), (h1, .inr (11, [.long u.1, .long u.2.1, .long u.2.2.1, .long u.2.2.2.1, .long u.2.2.2.2.1, .long u.2.2.2.2.2.1])), (h2, .inr (11, [.long u.2.2.2.2.2.2.1, .long u.2.2.2.2.2.2.2.1, .long u.2.2.2.2.2.2.2.2.1, .long u.2.2.2.2.2.2.2.2.2.1, .long u.2.2.2.2.2.2.2.2.2.2.1, .long u.2.2.2.2.2.2.2.2.2.2.2]))]) (fun (u : Int64 × Int64 × Int64 × Int64 × Int64 × Int64 × Int64 × Int64 × Int64 × Int64 × Int64 × Int64) => [])) A
set_option maxHeartbeats 4000000 in
set_option maxRecDepth 100000 in
theorem c_Reck_above (l : Launch) (D : va_G) (h0 : Nat) (a1 : Nat) (a2 : Nat) (a3 : Nat) (a4 : Nat) (a5 : Nat) (h1 : Nat) (n1 : Int64) (n2 : Int64) (n3 : Int64) (n4 : Int64) (n5 : Int64) (n6 : Int64) (h2 : Nat) (o1 : Int64) (o2 : Int64) (o3 : Int64) (o4 : Int64) (o5 : Int64) (o6 : Int64) (sz : Nat) : Met l y_Reckoner_above (fg_w y_Reckoner_above prog_9_method_17_code 3 (some .boolean)) rm_Reck_above (va_Pc [.ref h0, .ref h1, .ref h2] (fg_P D [] [(h0, .inr (8, [.ref a1, .ref a2, .ref a3, .ref a4, .ref a5])), (h1, .inr (11, [.long n1, .long n2, .long n3, .long n4, .long n5, .long n6])), (h2, .inr (11, [.long o1, .long o2, .long o3, .long o4, .long o5, .long o6]))] sz)) (q_Reck_above D h0 a1 a2 a3 a4 a5 h1 n1 n2 n3 n4 n5 n6 h2 o1 o2 o3 o4 o5 o6 (va_A [(h0, .inr (8, [.ref a1, .ref a2, .ref a3, .ref a4, .ref a5])), (h1, .inr (11, [.long n1, .long n2, .long n3, .long n4, .long n5, .long n6])), (h2, .inr (11, [.long o1, .long o2, .long o3, .long o4, .long o5, .long o6]))] sz)) rm_Reck_above.cells rm_Reck_above.slots (va_A [(h0, .inr (8, [.ref a1, .ref a2, .ref a3, .ref a4, .ref a5])), (h1, .inr (11, [.long n1, .long n2, .long n3, .long n4, .long n5, .long n6])), (h2, .inr (11, [.long o1, .long o2, .long o3, .long o4, .long o5, .long o6]))] sz) := by
  refine fg_enter (fun A => q_Reck_above D h0 a1 a2 a3 a4 a5 h1 n1 n2 n3 n4 n5 n6 h2 o1 o2 o3 o4 o5 o6 A) (by decide +kernel) (Nat.le_of_ble_eq_true rfl) ?_
  intro p e s m below meth c ls A hx hb hml hown hts hr hlocks hin hP hK hD hS hA hX hl
  have hl : lv_has ls 3 [(0, .ref h0), (1, .ref h1), (2, .ref h2)] := hl
  refine lv_aload_n hx hb d_Reckoner_above_0 rfl (lv_at hl 2 rfl) ?_
  refine va_get (D := D) (ci := 11) (v := .long o3) (C := "FilterGuard$Num") (T := F_Num) (N := 6) hx hb hts i_Num hown hK hP 2 rfl rfl 2 (by decide) (hts _ u_374) (fun _ h9 => h9) rfl d_Reckoner_above_1 ?_
  refine lv_ldc2 hx hb hown (hts _ u_1139) d_Reckoner_above_4 ?_
  refine W.lcmp hx hb d_Reckoner_above_7 ?_
  refine lv_if_eq (tgt := 20) hx hb d_Reckoner_above_8 (by decide) (fun c_1 => ?_) (fun c_1 => ?_)
  · have gc_1 : o3 = (-1) := (lg_cmp_eq _ _).mp c_1
    refine lv_iconst (v := 0) hx hb d_Reckoner_above_20 (by decide) ?_
    exact fg_retz (n1, n2, n3, n4, n5, n6, o1, o2, o3, o4, o5, o6) hx hb hr hlocks rfl (Or.inr ⟨rfl, by unfold fn_above; (repeat rw [if_pos gc_1]); first | done | rfl | contradiction⟩) (hP.sub (ws' := [(h0, .inr (8, [.ref a1, .ref a2, .ref a3, .ref a4, .ref a5])), (h1, .inr (11, [.long n1, .long n2, .long n3, .long n4, .long n5, .long n6])), (h2, .inr (11, [.long o1, .long o2, .long o3, .long o4, .long o5, .long o6]))]) [0, 1, 2] rfl) (hK.sub (tys' := []) [] rfl) (hD.sub (ws' := [(h0, .inr (8, [.ref a1, .ref a2, .ref a3, .ref a4, .ref a5])), (h1, .inr (11, [.long n1, .long n2, .long n3, .long n4, .long n5, .long n6])), (h2, .inr (11, [.long o1, .long o2, .long o3, .long o4, .long o5, .long o6]))]) [0, 1, 2] (by decide) rfl) hS (Nat.le_of_ble_eq_true rfl) (Nat.le_of_ble_eq_true rfl) d_Reckoner_above_21
  · have gc_1 : ¬ o3 = (-1) := fun z => c_1 ((lg_cmp_eq _ _).mpr z)
    refine lv_aload_n hx hb d_Reckoner_above_11 rfl (lv_at hl 1 rfl) ?_
    refine va_get (D := D) (ci := 11) (v := .long n4) (C := "FilterGuard$Num") (T := F_Num) (N := 6) hx hb hts i_Num hown hK hP 1 rfl rfl 3 (by decide) (hts _ u_377) (fun _ h9 => h9) rfl d_Reckoner_above_12 ?_
    refine lv_lconst (v := 0) hx hb d_Reckoner_above_15 (by decide) ?_
    refine W.lcmp hx hb d_Reckoner_above_16 ?_
    refine lv_if_ne (tgt := 22) hx hb d_Reckoner_above_17 (by decide) (fun c_2 => ?_) (fun c_2 => ?_)
    · have gc_2 : ¬ n4 = 0 := fun z => c_2 ((lg_cmp_eq _ _).mpr z)
      refine lv_aload_n hx hb d_Reckoner_above_22 rfl (lv_at hl 1 rfl) ?_
      refine lv_aload_n hx hb d_Reckoner_above_23 rfl (lv_at hl 2 rfl) ?_
      refine va_get (D := D) (ci := 11) (v := .long o3) (C := "FilterGuard$Num") (T := F_Num) (N := 6) hx hb hts i_Num hown hK hP 2 rfl rfl 2 (by decide) (hts _ u_374) (fun _ h9 => h9) rfl d_Reckoner_above_24 ?_
      refine lv_lconst (v := 1) hx hb d_Reckoner_above_27 (by decide) ?_
      refine lv_ladd hx hb d_Reckoner_above_28 ?_
      refine fg_thenv (wr := [(h0, .inr (8, [.ref a1, .ref a2, .ref a3, .ref a4, .ref a5])), (h2, .inr (11, [.long o1, .long o2, .long o3, .long o4, .long o5, .long o6]))]) (fg_runV (C := "FilterGuard$Num") (As := [.long (o3 + 1)]) (rest := []) (ci := 11) (q0 := 0) ⟨hx, hb, hml, hown, hts⟩ (c_Num_raise l D h1 n1 n2 n3 n4 n5 n6 (o3 + 1) s.heap.size) rfl (by show fg_nm y_Num_raiseLeast 1; decide +kernel) u_1198 u_1199 u_1200 u_187 u_1201 ⟨Nat.le_of_ble_eq_true rfl, Nat.le_of_ble_eq_true rfl⟩ hX (hP.sub (ws' := [(h1, .inr (11, [.long n1, .long n2, .long n3, .long n4, .long n5, .long n6]))]) [1] rfl) (hK.sub (tys' := []) [] rfl) (hD.sub (ws' := [(h1, .inr (11, [.long n1, .long n2, .long n3, .long n4, .long n5, .long n6]))]) [1] (by decide) rfl) rfl rfl rfl rfl hl.1 (Nat.le_of_ble_eq_true rfl) d_Reckoner_above_29 ⟨(Nat.le_of_ble_eq_true rfl), (Nat.le_of_ble_eq_true rfl)⟩) hP hD hK hS hA [1] [0, 2] rfl rfl (by decide) (by decide) (fun  u H locs hw29_2 hP hD hK hS => ?_)
      obtain ⟨y1_29_3, rfl⟩ : ∃ z, z = u := ⟨_, rfl⟩
      try dsimp only at hw29_2
      have hP : va_P D classes [(h0, .inr (8, [.ref a1, .ref a2, .ref a3, .ref a4, .ref a5])), (h2, .inr (11, [.long o1, .long o2, .long o3, .long o4, .long o5, .long o6])), (h1, .inr (11, [.long n1, .long n2, .long y1_29_3, .long n4, .long n5, .long n6]))] H := hP
      have hD : va_D A [(h0, .inr (8, [.ref a1, .ref a2, .ref a3, .ref a4, .ref a5])), (h2, .inr (11, [.long o1, .long o2, .long o3, .long o4, .long o5, .long o6])), (h1, .inr (11, [.long n1, .long n2, .long y1_29_3, .long n4, .long n5, .long n6]))] := hD
      have hK : va_K D classes [] s := hK
      refine W.widen (k := 0) (n := 0) (Nat.le_of_ble_eq_true rfl) (Nat.le_of_ble_eq_true rfl) ?_
      subst hw29_2
      have hP : va_P D classes [(h0, .inr (8, [.ref a1, .ref a2, .ref a3, .ref a4, .ref a5])), (h2, .inr (11, [.long o1, .long o2, .long o3, .long o4, .long o5, .long o6])), (h1, .inr (11, [.long n1, .long n2, .long (fn_max n3 (o3 + 1)), .long n4, .long n5, .long n6]))] H := hP
      have hD : va_D A [(h0, .inr (8, [.ref a1, .ref a2, .ref a3, .ref a4, .ref a5])), (h2, .inr (11, [.long o1, .long o2, .long o3, .long o4, .long o5, .long o6])), (h1, .inr (11, [.long n1, .long n2, .long (fn_max n3 (o3 + 1)), .long n4, .long n5, .long n6]))] := hD
      refine lv_aload_n hx hb d_Reckoner_above_32 rfl (lv_at hl 2 rfl) ?_
      refine lv_aload_n hx hb d_Reckoner_above_33 rfl (lv_at hl 1 rfl) ?_
      refine va_get (D := D) (ci := 11) (v := .long n4) (C := "FilterGuard$Num") (T := F_Num) (N := 6) hx hb hts i_Num hown hK hP 2 rfl rfl 3 (by decide) (hts _ u_377) (fun _ h9 => h9) rfl d_Reckoner_above_34 ?_
      refine lv_lconst (v := 1) hx hb d_Reckoner_above_37 (by decide) ?_
      refine lv_lsub hx hb d_Reckoner_above_38 ?_
      refine fg_thenv (wr := [(h0, .inr (8, [.ref a1, .ref a2, .ref a3, .ref a4, .ref a5])), (h1, .inr (11, [.long n1, .long n2, .long (fn_max n3 (o3 + 1)), .long n4, .long n5, .long n6]))]) (fg_runV (C := "FilterGuard$Num") (As := [.long (n4 - 1)]) (rest := []) (ci := 11) (q0 := 0) ⟨hx, hb, hml, hown, hts⟩ (c_Num_lower l D h2 o1 o2 o3 o4 o5 o6 (n4 - 1) H.size) rfl (by show fg_nm y_Num_lowerGreatest 1; decide +kernel) u_1194 u_1195 u_1196 u_187 u_1197 ⟨Nat.le_of_ble_eq_true rfl, Nat.le_of_ble_eq_true rfl⟩ hX (hP.sub (ws' := [(h2, .inr (11, [.long o1, .long o2, .long o3, .long o4, .long o5, .long o6]))]) [1] rfl) (hK.sub (tys' := []) [] rfl) (hD.sub (ws' := [(h2, .inr (11, [.long o1, .long o2, .long o3, .long o4, .long o5, .long o6]))]) [1] (by decide) rfl) rfl rfl rfl rfl hl.1 (Nat.le_of_ble_eq_true rfl) d_Reckoner_above_39 ⟨(Nat.le_of_ble_eq_true rfl), (Nat.le_of_ble_eq_true rfl)⟩) hP hD hK hS hA [1] [0, 2] rfl rfl (by decide) (by decide) (fun  u H locs hw39_4 hP hD hK hS => ?_)
      obtain ⟨y1_39_5, rfl⟩ : ∃ z, z = u := ⟨_, rfl⟩
      try dsimp only at hw39_4
      have hP : va_P D classes [(h0, .inr (8, [.ref a1, .ref a2, .ref a3, .ref a4, .ref a5])), (h1, .inr (11, [.long n1, .long n2, .long (fn_max n3 (o3 + 1)), .long n4, .long n5, .long n6])), (h2, .inr (11, [.long o1, .long o2, .long o3, .long y1_39_5, .long o5, .long o6]))] H := hP
      have hD : va_D A [(h0, .inr (8, [.ref a1, .ref a2, .ref a3, .ref a4, .ref a5])), (h1, .inr (11, [.long n1, .long n2, .long (fn_max n3 (o3 + 1)), .long n4, .long n5, .long n6])), (h2, .inr (11, [.long o1, .long o2, .long o3, .long y1_39_5, .long o5, .long o6]))] := hD
      have hK : va_K D classes [] s := hK
      refine W.widen (k := 0) (n := 0) (Nat.le_of_ble_eq_true rfl) (Nat.le_of_ble_eq_true rfl) ?_
      subst hw39_4
      have hP : va_P D classes [(h0, .inr (8, [.ref a1, .ref a2, .ref a3, .ref a4, .ref a5])), (h1, .inr (11, [.long n1, .long n2, .long (fn_max n3 (o3 + 1)), .long n4, .long n5, .long n6])), (h2, .inr (11, [.long o1, .long o2, .long o3, .long (fn_min o4 (n4 - 1)), .long o5, .long o6]))] H := hP
      have hD : va_D A [(h0, .inr (8, [.ref a1, .ref a2, .ref a3, .ref a4, .ref a5])), (h1, .inr (11, [.long n1, .long n2, .long (fn_max n3 (o3 + 1)), .long n4, .long n5, .long n6])), (h2, .inr (11, [.long o1, .long o2, .long o3, .long (fn_min o4 (n4 - 1)), .long o5, .long o6]))] := hD
      refine lv_iconst (v := 1) hx hb d_Reckoner_above_42 (by decide) ?_
      exact fg_retz (n1, n2, (fn_max n3 (o3 + 1)), n4, n5, n6, o1, o2, o3, (fn_min o4 (n4 - 1)), o5, o6) hx hb hr hlocks rfl (Or.inl ⟨rfl, by unfold fn_above; (repeat rw [if_neg gc_1]); (repeat rw [if_neg gc_2]); first | done | rfl | contradiction⟩) (hP.sub (ws' := [(h0, .inr (8, [.ref a1, .ref a2, .ref a3, .ref a4, .ref a5])), (h1, .inr (11, [.long n1, .long n2, .long (fn_max n3 (o3 + 1)), .long n4, .long n5, .long n6])), (h2, .inr (11, [.long o1, .long o2, .long o3, .long (fn_min o4 (n4 - 1)), .long o5, .long o6]))]) [0, 1, 2] rfl) (hK.sub (tys' := []) [] rfl) (hD.sub (ws' := [(h0, .inr (8, [.ref a1, .ref a2, .ref a3, .ref a4, .ref a5])), (h1, .inr (11, [.long n1, .long n2, .long (fn_max n3 (o3 + 1)), .long n4, .long n5, .long n6])), (h2, .inr (11, [.long o1, .long o2, .long o3, .long (fn_min o4 (n4 - 1)), .long o5, .long o6]))]) [0, 1, 2] (by decide) rfl) hS (Nat.le_of_ble_eq_true rfl) (Nat.le_of_ble_eq_true rfl) d_Reckoner_above_43
    · have gc_2 : n4 = 0 := (lg_cmp_eq _ _).mp c_2
      refine lv_iconst (v := 0) hx hb d_Reckoner_above_20 (by decide) ?_
      exact fg_retz (n1, n2, n3, n4, n5, n6, o1, o2, o3, o4, o5, o6) hx hb hr hlocks rfl (Or.inr ⟨rfl, by unfold fn_above; (repeat rw [if_neg gc_1]); (repeat rw [if_pos gc_2]); first | done | rfl | contradiction⟩) (hP.sub (ws' := [(h0, .inr (8, [.ref a1, .ref a2, .ref a3, .ref a4, .ref a5])), (h1, .inr (11, [.long n1, .long n2, .long n3, .long n4, .long n5, .long n6])), (h2, .inr (11, [.long o1, .long o2, .long o3, .long o4, .long o5, .long o6]))]) [0, 1, 2] rfl) (hK.sub (tys' := []) [] rfl) (hD.sub (ws' := [(h0, .inr (8, [.ref a1, .ref a2, .ref a3, .ref a4, .ref a5])), (h1, .inr (11, [.long n1, .long n2, .long n3, .long n4, .long n5, .long n6])), (h2, .inr (11, [.long o1, .long o2, .long o3, .long o4, .long o5, .long o6]))]) [0, 1, 2] (by decide) rfl) hS (Nat.le_of_ble_eq_true rfl) (Nat.le_of_ble_eq_true rfl) d_Reckoner_above_21
abbrev y_Reckoner_notBelow : MethodName := ⟨"FilterGuard$Reckoner", "notBelow", "(LFilterGuard$Num;LFilterGuard$Num;)Z"⟩
theorem d_Reckoner_notBelow_0 : decode prog_9_method_18_code 0 = .ok (.aload_n 1, 1) := by decide +kernel
theorem d_Reckoner_notBelow_1 : decode prog_9_method_18_code 1 = .ok (.aload_n 2, 1) := by decide +kernel
theorem d_Reckoner_notBelow_2 : decode prog_9_method_18_code 2 = .ok (.getfield 96, 3) := by decide +kernel
theorem d_Reckoner_notBelow_5 : decode prog_9_method_18_code 5 = .ok (.invokevirtual 99, 3) := by decide +kernel
theorem d_Reckoner_notBelow_8 : decode prog_9_method_18_code 8 = .ok (.aload_n 2, 1) := by decide +kernel
theorem d_Reckoner_notBelow_9 : decode prog_9_method_18_code 9 = .ok (.aload_n 1, 1) := by decide +kernel
theorem d_Reckoner_notBelow_10 : decode prog_9_method_18_code 10 = .ok (.getfield 122, 3) := by decide +kernel
theorem d_Reckoner_notBelow_13 : decode prog_9_method_18_code 13 = .ok (.invokevirtual 146, 3) := by decide +kernel
theorem d_Reckoner_notBelow_16 : decode prog_9_method_18_code 16 = .ok (.iconst 1, 1) := by decide +kernel
theorem d_Reckoner_notBelow_17 : decode prog_9_method_18_code 17 = .ok (.ireturn, 1) := by decide +kernel
def rm_Reck_notBelow : Room := { frames := 2, cells := 0, slots := 0, locals := 60 }
abbrev q_Reck_notBelow (D : va_G) (h0 : Nat) (a1 : Nat) (a2 : Nat) (a3 : Nat) (a4 : Nat) (a5 : Nat) (h1 : Nat) (n1 : Int64) (n2 : Int64) (n3 : Int64) (n4 : Int64) (n5 : Int64) (n6 : Int64) (h2 : Nat) (o1 : Int64) (o2 : Int64) (o3 : Int64) (o4 : Int64) (o5 : Int64) (o6 : Int64) (A : Nat → Prop) : Array Value → Jvm.State → Outcome → Jvm.State → Prop := va_Qi (fun (r : Int32) (u : Int64 × Int64 × Int64 × Int64 × Int64 × Int64 × Int64 × Int64 × Int64 × Int64 × Int64 × Int64) => (r = 1 ∧ fn_nbelow n1 n2 n3 n4 n5 n6 o1 o2 o3 o4 o5 o6 = some ((u.1, u.2.1, u.2.2.1, u.2.2.2.1, u.2.2.2.2.1, u.2.2.2.2.2.1), (u.2.2.2.2.2.2.1, u.2.2.2.2.2.2.2.1, u.2.2.2.2.2.2.2.2.1, u.2.2.2.2.2.2.2.2.2.1, u.2.2.2.2.2.2.2.2.2.2.1, u.2.2.2.2.2.2.2.2.2.2.2))) ∨ (r = 0 ∧ fn_nbelow n1 n2 n3 n4 n5 n6 o1 o2 o3 o4 o5 o6 = none)) (fg_B D A (fun (u : Int64 × Int64 × Int64 × Int64 × Int64 × Int64 × Int64 × Int64 × Int64 × Int64 × Int64 × Int64) => [(h0, .inr (8, [.ref a1, .ref a2, .ref a3, .ref a4, .ref a5])), (h1, .inr (11, [.long u.1, .long u.2.1, .long u.2.2.1, .long u.2.2.2.1, .long u.2.2.2.2.1, .long u.2.2.2.2.2.1])), (h2, .inr (11, [.long u.2.2.2.2.2.2.1, .long u.2.2.2.2.2.2.2.1, .long u.2.2.2.2.2.2.2.2.1, .long u.2.2.2.2.2.2.2.2.2.1, .long u.2.2.2.2.2.2.2.2.2.2.1, .long u.2.2.2.2.2.2.2.2.2.2.2]))]) (fun (u : Int64 × Int64 × Int64 × Int64 × Int64 × Int64 × Int64 × Int64 × Int64 × Int64 × Int64 × Int64) => [])) A
set_option maxHeartbeats 4000000 in
set_option maxRecDepth 100000 in
theorem c_Reck_notBelow (l : Launch) (D : va_G) (h0 : Nat) (a1 : Nat) (a2 : Nat) (a3 : Nat) (a4 : Nat) (a5 : Nat) (h1 : Nat) (n1 : Int64) (n2 : Int64) (n3 : Int64) (n4 : Int64) (n5 : Int64) (n6 : Int64) (h2 : Nat) (o1 : Int64) (o2 : Int64) (o3 : Int64) (o4 : Int64) (o5 : Int64) (o6 : Int64) (sz : Nat) : Met l y_Reckoner_notBelow (fg_w y_Reckoner_notBelow prog_9_method_18_code 3 (some .boolean)) rm_Reck_notBelow (va_Pc [.ref h0, .ref h1, .ref h2] (fg_P D [] [(h0, .inr (8, [.ref a1, .ref a2, .ref a3, .ref a4, .ref a5])), (h1, .inr (11, [.long n1, .long n2, .long n3, .long n4, .long n5, .long n6])), (h2, .inr (11, [.long o1, .long o2, .long o3, .long o4, .long o5, .long o6]))] sz)) (q_Reck_notBelow D h0 a1 a2 a3 a4 a5 h1 n1 n2 n3 n4 n5 n6 h2 o1 o2 o3 o4 o5 o6 (va_A [(h0, .inr (8, [.ref a1, .ref a2, .ref a3, .ref a4, .ref a5])), (h1, .inr (11, [.long n1, .long n2, .long n3, .long n4, .long n5, .long n6])), (h2, .inr (11, [.long o1, .long o2, .long o3, .long o4, .long o5, .long o6]))] sz)) rm_Reck_notBelow.cells rm_Reck_notBelow.slots (va_A [(h0, .inr (8, [.ref a1, .ref a2, .ref a3, .ref a4, .ref a5])), (h1, .inr (11, [.long n1, .long n2, .long n3, .long n4, .long n5, .long n6])), (h2, .inr (11, [.long o1, .long o2, .long o3, .long o4, .long o5, .long o6]))] sz) := by
  refine fg_enter (fun A => q_Reck_notBelow D h0 a1 a2 a3 a4 a5 h1 n1 n2 n3 n4 n5 n6 h2 o1 o2 o3 o4 o5 o6 A) (by decide +kernel) (Nat.le_of_ble_eq_true rfl) ?_
  intro p e s m below meth c ls A hx hb hml hown hts hr hlocks hin hP hK hD hS hA hX hl
  have hl : lv_has ls 3 [(0, .ref h0), (1, .ref h1), (2, .ref h2)] := hl
  refine lv_aload_n hx hb d_Reckoner_notBelow_0 rfl (lv_at hl 1 rfl) ?_
  refine lv_aload_n hx hb d_Reckoner_notBelow_1 rfl (lv_at hl 2 rfl) ?_
  refine va_get (D := D) (ci := 11) (v := .long o3) (C := "FilterGuard$Num") (T := F_Num) (N := 6) hx hb hts i_Num hown hK hP 2 rfl rfl 2 (by decide) (hts _ u_374) (fun _ h9 => h9) rfl d_Reckoner_notBelow_2 ?_
  refine fg_thenv (wr := [(h0, .inr (8, [.ref a1, .ref a2, .ref a3, .ref a4, .ref a5])), (h2, .inr (11, [.long o1, .long o2, .long o3, .long o4, .long o5, .long o6]))]) (fg_runV (C := "FilterGuard$Num") (As := [.long o3]) (rest := []) (ci := 11) (q0 := 0) ⟨hx, hb, hml, hown, hts⟩ (c_Num_raise l D h1 n1 n2 n3 n4 n5 n6 o3 s.heap.size) rfl (by show fg_nm y_Num_raiseLeast 1; decide +kernel) u_1198 u_1199 u_1200 u_187 u_1201 ⟨Nat.le_of_ble_eq_true rfl, Nat.le_of_ble_eq_true rfl⟩ hX (hP.sub (ws' := [(h1, .inr (11, [.long n1, .long n2, .long n3, .long n4, .long n5, .long n6]))]) [1] rfl) (hK.sub (tys' := []) [] rfl) (hD.sub (ws' := [(h1, .inr (11, [.long n1, .long n2, .long n3, .long n4, .long n5, .long n6]))]) [1] (by decide) rfl) rfl rfl rfl rfl hl.1 (Nat.le_of_ble_eq_true rfl) d_Reckoner_notBelow_5 ⟨(Nat.le_of_ble_eq_true rfl), (Nat.le_of_ble_eq_true rfl)⟩) hP hD hK hS hA [1] [0, 2] rfl rfl (by decide) (by decide) (fun  u H locs hw5_0 hP hD hK hS => ?_)
  obtain ⟨y1_5_1, rfl⟩ : ∃ z, z = u := ⟨_, rfl⟩
  try dsimp only at hw5_0
  have hP : va_P D classes [(h0, .inr (8, [.ref a1, .ref a2, .ref a3, .ref a4, .ref a5])), (h2, .inr (11, [.long o1, .long o2, .long o3, .long o4, .long o5, .long o6])), (h1, .inr (11, [.long n1, .long n2, .long y1_5_1, .long n4, .long n5, .long n6]))] H := hP
  have hD : va_D A [(h0, .inr (8, [.ref a1, .ref a2, .ref a3, .ref a4, .ref a5])), (h2, .inr (11, [.long o1, .long o2, .long o3, .long o4, .long o5, .long o6])), (h1, .inr (11, [.long n1, .long n2, .long y1_5_1, .long n4, .long n5, .long n6]))] := hD
  have hK : va_K D classes [] s := hK
  refine W.widen (k := 0) (n := 0) (Nat.le_of_ble_eq_true rfl) (Nat.le_of_ble_eq_true rfl) ?_
  subst hw5_0
  have hP : va_P D classes [(h0, .inr (8, [.ref a1, .ref a2, .ref a3, .ref a4, .ref a5])), (h2, .inr (11, [.long o1, .long o2, .long o3, .long o4, .long o5, .long o6])), (h1, .inr (11, [.long n1, .long n2, .long (fn_max n3 o3), .long n4, .long n5, .long n6]))] H := hP
  have hD : va_D A [(h0, .inr (8, [.ref a1, .ref a2, .ref a3, .ref a4, .ref a5])), (h2, .inr (11, [.long o1, .long o2, .long o3, .long o4, .long o5, .long o6])), (h1, .inr (11, [.long n1, .long n2, .long (fn_max n3 o3), .long n4, .long n5, .long n6]))] := hD
  refine lv_aload_n hx hb d_Reckoner_notBelow_8 rfl (lv_at hl 2 rfl) ?_
  refine lv_aload_n hx hb d_Reckoner_notBelow_9 rfl (lv_at hl 1 rfl) ?_
  refine va_get (D := D) (ci := 11) (v := .long n4) (C := "FilterGuard$Num") (T := F_Num) (N := 6) hx hb hts i_Num hown hK hP 2 rfl rfl 3 (by decide) (hts _ u_377) (fun _ h9 => h9) rfl d_Reckoner_notBelow_10 ?_
  refine fg_thenv (wr := [(h0, .inr (8, [.ref a1, .ref a2, .ref a3, .ref a4, .ref a5])), (h1, .inr (11, [.long n1, .long n2, .long (fn_max n3 o3), .long n4, .long n5, .long n6]))]) (fg_runV (C := "FilterGuard$Num") (As := [.long n4]) (rest := []) (ci := 11) (q0 := 0) ⟨hx, hb, hml, hown, hts⟩ (c_Num_lower l D h2 o1 o2 o3 o4 o5 o6 n4 H.size) rfl (by show fg_nm y_Num_lowerGreatest 1; decide +kernel) u_1194 u_1195 u_1196 u_187 u_1197 ⟨Nat.le_of_ble_eq_true rfl, Nat.le_of_ble_eq_true rfl⟩ hX (hP.sub (ws' := [(h2, .inr (11, [.long o1, .long o2, .long o3, .long o4, .long o5, .long o6]))]) [1] rfl) (hK.sub (tys' := []) [] rfl) (hD.sub (ws' := [(h2, .inr (11, [.long o1, .long o2, .long o3, .long o4, .long o5, .long o6]))]) [1] (by decide) rfl) rfl rfl rfl rfl hl.1 (Nat.le_of_ble_eq_true rfl) d_Reckoner_notBelow_13 ⟨(Nat.le_of_ble_eq_true rfl), (Nat.le_of_ble_eq_true rfl)⟩) hP hD hK hS hA [1] [0, 2] rfl rfl (by decide) (by decide) (fun  u H locs hw13_2 hP hD hK hS => ?_)
  obtain ⟨y1_13_3, rfl⟩ : ∃ z, z = u := ⟨_, rfl⟩
  try dsimp only at hw13_2
  have hP : va_P D classes [(h0, .inr (8, [.ref a1, .ref a2, .ref a3, .ref a4, .ref a5])), (h1, .inr (11, [.long n1, .long n2, .long (fn_max n3 o3), .long n4, .long n5, .long n6])), (h2, .inr (11, [.long o1, .long o2, .long o3, .long y1_13_3, .long o5, .long o6]))] H := hP
  have hD : va_D A [(h0, .inr (8, [.ref a1, .ref a2, .ref a3, .ref a4, .ref a5])), (h1, .inr (11, [.long n1, .long n2, .long (fn_max n3 o3), .long n4, .long n5, .long n6])), (h2, .inr (11, [.long o1, .long o2, .long o3, .long y1_13_3, .long o5, .long o6]))] := hD
  have hK : va_K D classes [] s := hK
  refine W.widen (k := 0) (n := 0) (Nat.le_of_ble_eq_true rfl) (Nat.le_of_ble_eq_true rfl) ?_
  subst hw13_2
  have hP : va_P D classes [(h0, .inr (8, [.ref a1, .ref a2, .ref a3, .ref a4, .ref a5])), (h1, .inr (11, [.long n1, .long n2, .long (fn_max n3 o3), .long n4, .long n5, .long n6])), (h2, .inr (11, [.long o1, .long o2, .long o3, .long (fn_min o4 n4), .long o5, .long o6]))] H := hP
  have hD : va_D A [(h0, .inr (8, [.ref a1, .ref a2, .ref a3, .ref a4, .ref a5])), (h1, .inr (11, [.long n1, .long n2, .long (fn_max n3 o3), .long n4, .long n5, .long n6])), (h2, .inr (11, [.long o1, .long o2, .long o3, .long (fn_min o4 n4), .long o5, .long o6]))] := hD
  refine lv_iconst (v := 1) hx hb d_Reckoner_notBelow_16 (by decide) ?_
  exact fg_retz (n1, n2, (fn_max n3 o3), n4, n5, n6, o1, o2, o3, (fn_min o4 n4), o5, o6) hx hb hr hlocks rfl (Or.inl ⟨rfl, by unfold fn_nbelow; skip; first | done | rfl | contradiction⟩) (hP.sub (ws' := [(h0, .inr (8, [.ref a1, .ref a2, .ref a3, .ref a4, .ref a5])), (h1, .inr (11, [.long n1, .long n2, .long (fn_max n3 o3), .long n4, .long n5, .long n6])), (h2, .inr (11, [.long o1, .long o2, .long o3, .long (fn_min o4 n4), .long o5, .long o6]))]) [0, 1, 2] rfl) (hK.sub (tys' := []) [] rfl) (hD.sub (ws' := [(h0, .inr (8, [.ref a1, .ref a2, .ref a3, .ref a4, .ref a5])), (h1, .inr (11, [.long n1, .long n2, .long (fn_max n3 o3), .long n4, .long n5, .long n6])), (h2, .inr (11, [.long o1, .long o2, .long o3, .long (fn_min o4 n4), .long o5, .long o6]))]) [0, 1, 2] (by decide) rfl) hS (Nat.le_of_ble_eq_true rfl) (Nat.le_of_ble_eq_true rfl) d_Reckoner_notBelow_17
abbrev y_Reckoner_greater : MethodName := ⟨"FilterGuard$Reckoner", "greater", "(LFilterGuard$Num;LFilterGuard$Num;)Z"⟩
theorem d_Reckoner_greater_0 : decode prog_9_method_19_code 0 = .ok (.aload_n 2, 1) := by decide +kernel
theorem d_Reckoner_greater_1 : decode prog_9_method_19_code 1 = .ok (.getfield 128, 3) := by decide +kernel
theorem d_Reckoner_greater_4 : decode prog_9_method_19_code 4 = .ok (.ldc2_w 182, 3) := by decide +kernel
theorem u_1314 : Cond.constantLong "FilterGuard$Reckoner" 182 9223372036854775807 ∈ fg_g := fg_in (List.mem_of_getElem? (i := 1314) (by decide +kernel)) rfl
theorem d_Reckoner_greater_7 : decode prog_9_method_19_code 7 = .ok (.lcmp, 1) := by decide +kernel
theorem d_Reckoner_greater_8 : decode prog_9_method_19_code 8 = .ok (.ifCond .eq 14, 3) := by decide +kernel
theorem d_Reckoner_greater_22 : decode prog_9_method_19_code 22 = .ok (.iconst 0, 1) := by decide +kernel
theorem d_Reckoner_greater_23 : decode prog_9_method_19_code 23 = .ok (.ireturn, 1) := by decide +kernel
theorem d_Reckoner_greater_11 : decode prog_9_method_19_code 11 = .ok (.aload_n 1, 1) := by decide +kernel
theorem d_Reckoner_greater_12 : decode prog_9_method_19_code 12 = .ok (.getfield 131, 3) := by decide +kernel
theorem d_Reckoner_greater_15 : decode prog_9_method_19_code 15 = .ok (.ldc2_w 30, 3) := by decide +kernel
theorem d_Reckoner_greater_18 : decode prog_9_method_19_code 18 = .ok (.lcmp, 1) := by decide +kernel
theorem d_Reckoner_greater_19 : decode prog_9_method_19_code 19 = .ok (.ifCond .ne 5, 3) := by decide +kernel
theorem d_Reckoner_greater_24 : decode prog_9_method_19_code 24 = .ok (.aload_n 1, 1) := by decide +kernel
theorem d_Reckoner_greater_25 : decode prog_9_method_19_code 25 = .ok (.aload_n 1, 1) := by decide +kernel
theorem d_Reckoner_greater_26 : decode prog_9_method_19_code 26 = .ok (.getfield 128, 3) := by decide +kernel
theorem d_Reckoner_greater_29 : decode prog_9_method_19_code 29 = .ok (.aload_n 2, 1) := by decide +kernel
theorem d_Reckoner_greater_30 : decode prog_9_method_19_code 30 = .ok (.getfield 128, 3) := by decide +kernel
theorem d_Reckoner_greater_33 : decode prog_9_method_19_code 33 = .ok (.lconst 1, 1) := by decide +kernel
theorem d_Reckoner_greater_34 : decode prog_9_method_19_code 34 = .ok (.ladd, 1) := by decide +kernel
theorem d_Reckoner_greater_35 : decode prog_9_method_19_code 35 = .ok (.invokestatic 184, 3) := by decide +kernel
theorem u_1287 : Cond.methodLink "FilterGuard$Reckoner" 184 ⟨"java/lang/Math", "max", "(JJ)J"⟩ ∈ fg_g := fg_in (List.mem_of_getElem? (i := 1287) (by decide +kernel)) rfl
theorem d_Reckoner_greater_38 : decode prog_9_method_19_code 38 = .ok (.putfield 128, 3) := by decide +kernel
theorem d_Reckoner_greater_41 : decode prog_9_method_19_code 41 = .ok (.aload_n 2, 1) := by decide +kernel
theorem d_Reckoner_greater_42 : decode prog_9_method_19_code 42 = .ok (.aload_n 2, 1) := by decide +kernel
theorem d_Reckoner_greater_43 : decode prog_9_method_19_code 43 = .ok (.getfield 131, 3) := by decide +kernel
theorem d_Reckoner_greater_46 : decode prog_9_method_19_code 46 = .ok (.aload_n 1, 1) := by decide +kernel
theorem d_Reckoner_greater_47 : decode prog_9_method_19_code 47 = .ok (.getfield 131, 3) := by decide +kernel
theorem d_Reckoner_greater_50 : decode prog_9_method_19_code 50 = .ok (.lconst 1, 1) := by decide +kernel
theorem d_Reckoner_greater_51 : decode prog_9_method_19_code 51 = .ok (.lsub, 1) := by decide +kernel
theorem d_Reckoner_greater_52 : decode prog_9_method_19_code 52 = .ok (.invokestatic 189, 3) := by decide +kernel
theorem u_1288 : Cond.methodLink "FilterGuard$Reckoner" 189 ⟨"java/lang/Math", "min", "(JJ)J"⟩ ∈ fg_g := fg_in (List.mem_of_getElem? (i := 1288) (by decide +kernel)) rfl
theorem d_Reckoner_greater_55 : decode prog_9_method_19_code 55 = .ok (.putfield 131, 3) := by decide +kernel
theorem d_Reckoner_greater_58 : decode prog_9_method_19_code 58 = .ok (.iconst 1, 1) := by decide +kernel
theorem d_Reckoner_greater_59 : decode prog_9_method_19_code 59 = .ok (.ireturn, 1) := by decide +kernel
def rm_Reck_greater : Room := { frames := 2, cells := 0, slots := 0, locals := 60 }
abbrev q_Reck_greater (D : va_G) (h0 : Nat) (a1 : Nat) (a2 : Nat) (a3 : Nat) (a4 : Nat) (a5 : Nat) (h1 : Nat) (n1 : Int64) (n2 : Int64) (n3 : Int64) (n4 : Int64) (n5 : Int64) (n6 : Int64) (h2 : Nat) (o1 : Int64) (o2 : Int64) (o3 : Int64) (o4 : Int64) (o5 : Int64) (o6 : Int64) (A : Nat → Prop) : Array Value → Jvm.State → Outcome → Jvm.State → Prop := va_Qi (fun (r : Int32) (u : Int64 × Int64 × Int64 × Int64 × Int64 × Int64 × Int64 × Int64 × Int64 × Int64 × Int64 × Int64) => (r = 1 ∧ fn_greater n1 n2 n3 n4 n5 n6 o1 o2 o3 o4 o5 o6 = some ((u.1, u.2.1, u.2.2.1, u.2.2.2.1, u.2.2.2.2.1, u.2.2.2.2.2.1), (u.2.2.2.2.2.2.1, u.2.2.2.2.2.2.2.1, u.2.2.2.2.2.2.2.2.1, u.2.2.2.2.2.2.2.2.2.1, u.2.2.2.2.2.2.2.2.2.2.1, u.2.2.2.2.2.2.2.2.2.2.2))) ∨ (r = 0 ∧ fn_greater n1 n2 n3 n4 n5 n6 o1 o2 o3 o4 o5 o6 = none)) (fg_B D A (fun (u : Int64 × Int64 × Int64 × Int64 × Int64 × Int64 × Int64 × Int64 × Int64 × Int64 × Int64 × Int64) => [(h0, .inr (8, [.ref a1, .ref a2, .ref a3, .ref a4, .ref a5])), (h1, .inr (11, [.long u.1, .long u.2.1, .long u.2.2.1, .long u.2.2.2.1, .long u.2.2.2.2.1, .long u.2.2.2.2.2.1])), (h2, .inr (11, [.long u.2.2.2.2.2.2.1, .long u.2.2.2.2.2.2.2.1, .long u.2.2.2.2.2.2.2.2.1, .long u.2.2.2.2.2.2.2.2.2.1, .long u.2.2.2.2.2.2.2.2.2.2.1, .long u.2.2.2.2.2.2.2.2.2.2.2]))]) (fun (u : Int64 × Int64 × Int64 × Int64 × Int64 × Int64 × Int64 × Int64 × Int64 × Int64 × Int64 × Int64) => [])) A
set_option maxHeartbeats 4000000 in
set_option maxRecDepth 100000 in
theorem c_Reck_greater (l : Launch) (D : va_G) (h0 : Nat) (a1 : Nat) (a2 : Nat) (a3 : Nat) (a4 : Nat) (a5 : Nat) (h1 : Nat) (n1 : Int64) (n2 : Int64) (n3 : Int64) (n4 : Int64) (n5 : Int64) (n6 : Int64) (h2 : Nat) (o1 : Int64) (o2 : Int64) (o3 : Int64) (o4 : Int64) (o5 : Int64) (o6 : Int64) (sz : Nat) : Met l y_Reckoner_greater (fg_w y_Reckoner_greater prog_9_method_19_code 3 (some .boolean)) rm_Reck_greater (va_Pc [.ref h0, .ref h1, .ref h2] (fg_P D [] [(h0, .inr (8, [.ref a1, .ref a2, .ref a3, .ref a4, .ref a5])), (h1, .inr (11, [.long n1, .long n2, .long n3, .long n4, .long n5, .long n6])), (h2, .inr (11, [.long o1, .long o2, .long o3, .long o4, .long o5, .long o6]))] sz)) (q_Reck_greater D h0 a1 a2 a3 a4 a5 h1 n1 n2 n3 n4 n5 n6 h2 o1 o2 o3 o4 o5 o6 (va_A [(h0, .inr (8, [.ref a1, .ref a2, .ref a3, .ref a4, .ref a5])), (h1, .inr (11, [.long n1, .long n2, .long n3, .long n4, .long n5, .long n6])), (h2, .inr (11, [.long o1, .long o2, .long o3, .long o4, .long o5, .long o6]))] sz)) rm_Reck_greater.cells rm_Reck_greater.slots (va_A [(h0, .inr (8, [.ref a1, .ref a2, .ref a3, .ref a4, .ref a5])), (h1, .inr (11, [.long n1, .long n2, .long n3, .long n4, .long n5, .long n6])), (h2, .inr (11, [.long o1, .long o2, .long o3, .long o4, .long o5, .long o6]))] sz) := by
  refine fg_enter (fun A => q_Reck_greater D h0 a1 a2 a3 a4 a5 h1 n1 n2 n3 n4 n5 n6 h2 o1 o2 o3 o4 o5 o6 A) (by decide +kernel) (Nat.le_of_ble_eq_true rfl) ?_
  intro p e s m below meth c ls A hx hb hml hown hts hr hlocks hin hP hK hD hS hA hX hl
  have hl : lv_has ls 3 [(0, .ref h0), (1, .ref h1), (2, .ref h2)] := hl
  refine lv_aload_n hx hb d_Reckoner_greater_0 rfl (lv_at hl 2 rfl) ?_
  refine va_get (D := D) (ci := 11) (v := .long o5) (C := "FilterGuard$Num") (T := F_Num) (N := 6) hx hb hts i_Num hown hK hP 2 rfl rfl 4 (by decide) (hts _ u_380) (fun _ h9 => h9) rfl d_Reckoner_greater_1 ?_
  refine lv_ldc2 hx hb hown (hts _ u_1314) d_Reckoner_greater_4 ?_
  refine W.lcmp hx hb d_Reckoner_greater_7 ?_
  refine lv_if_eq (tgt := 22) hx hb d_Reckoner_greater_8 (by decide) (fun c_1 => ?_) (fun c_1 => ?_)
  · have gc_1 : o5 = 9223372036854775807 := (lg_cmp_eq _ _).mp c_1
    refine lv_iconst (v := 0) hx hb d_Reckoner_greater_22 (by decide) ?_
    exact fg_retz (n1, n2, n3, n4, n5, n6, o1, o2, o3, o4, o5, o6) hx hb hr hlocks rfl (Or.inr ⟨rfl, by unfold fn_greater; (repeat rw [if_pos gc_1]); first | done | rfl | contradiction⟩) (hP.sub (ws' := [(h0, .inr (8, [.ref a1, .ref a2, .ref a3, .ref a4, .ref a5])), (h1, .inr (11, [.long n1, .long n2, .long n3, .long n4, .long n5, .long n6])), (h2, .inr (11, [.long o1, .long o2, .long o3, .long o4, .long o5, .long o6]))]) [0, 1, 2] rfl) (hK.sub (tys' := []) [] rfl) (hD.sub (ws' := [(h0, .inr (8, [.ref a1, .ref a2, .ref a3, .ref a4, .ref a5])), (h1, .inr (11, [.long n1, .long n2, .long n3, .long n4, .long n5, .long n6])), (h2, .inr (11, [.long o1, .long o2, .long o3, .long o4, .long o5, .long o6]))]) [0, 1, 2] (by decide) rfl) hS (Nat.le_of_ble_eq_true rfl) (Nat.le_of_ble_eq_true rfl) d_Reckoner_greater_23
  · have gc_1 : ¬ o5 = 9223372036854775807 := fun z => c_1 ((lg_cmp_eq _ _).mpr z)
    refine lv_aload_n hx hb d_Reckoner_greater_11 rfl (lv_at hl 1 rfl) ?_
    refine va_get (D := D) (ci := 11) (v := .long n6) (C := "FilterGuard$Num") (T := F_Num) (N := 6) hx hb hts i_Num hown hK hP 1 rfl rfl 5 (by decide) (hts _ u_382) (fun _ h9 => h9) rfl d_Reckoner_greater_12 ?_
    refine lv_ldc2 hx hb hown (hts _ u_1184) d_Reckoner_greater_15 ?_
    refine W.lcmp hx hb d_Reckoner_greater_18 ?_
    refine lv_if_ne (tgt := 24) hx hb d_Reckoner_greater_19 (by decide) (fun c_2 => ?_) (fun c_2 => ?_)
    · have gc_2 : ¬ n6 = (-9223372036854775808) := fun z => c_2 ((lg_cmp_eq _ _).mpr z)
      refine lv_aload_n hx hb d_Reckoner_greater_24 rfl (lv_at hl 1 rfl) ?_
      refine lv_aload_n hx hb d_Reckoner_greater_25 rfl (lv_at hl 1 rfl) ?_
      refine va_get (D := D) (ci := 11) (v := .long n5) (C := "FilterGuard$Num") (T := F_Num) (N := 6) hx hb hts i_Num hown hK hP 1 rfl rfl 4 (by decide) (hts _ u_380) (fun _ h9 => h9) rfl d_Reckoner_greater_26 ?_
      refine lv_aload_n hx hb d_Reckoner_greater_29 rfl (lv_at hl 2 rfl) ?_
      refine va_get (D := D) (ci := 11) (v := .long o5) (C := "FilterGuard$Num") (T := F_Num) (N := 6) hx hb hts i_Num hown hK hP 2 rfl rfl 4 (by decide) (hts _ u_380) (fun _ h9 => h9) rfl d_Reckoner_greater_30 ?_
      refine lv_lconst (v := 1) hx hb d_Reckoner_greater_33 (by decide) ?_
      refine lv_ladd hx hb d_Reckoner_greater_34 ?_
      refine va_mmax_long hx hb (hml.trans hl.1.symm) hown (hts _ u_1287) (hts _ u_1228) (hts _ u_193) (hts _ u_1229) (Nat.le_of_ble_eq_true rfl) (Nat.le_of_ble_eq_true rfl) (Nat.le_of_ble_eq_true rfl) (Nat.le_of_ble_eq_true rfl) d_Reckoner_greater_35 ?_
      refine fg_topl (y := fn_smax n5 (o5 + 1)) rfl ?_
      refine va_put (D := D) (ci := 11) (v := .long (fn_smax n5 (o5 + 1))) (ty := .long) (C := "FilterGuard$Num") (T := F_Num) (N := 6) hx hb hts i_Num t_Num t_Num_ok n_Num hown hK hP hD hS 1 rfl rfl 4 (by decide) (hts _ u_380) (fun _ h9 => h9) rfl (by decide +kernel) rfl rfl (Nat.le_of_ble_eq_true rfl) d_Reckoner_greater_38 (fun H locs hP hD hS => ?_)
      have hP : va_P D classes [(h0, .inr (8, [.ref a1, .ref a2, .ref a3, .ref a4, .ref a5])), (h1, .inr (11, [.long n1, .long n2, .long n3, .long n4, .long (fn_smax n5 (o5 + 1)), .long n6])), (h2, .inr (11, [.long o1, .long o2, .long o3, .long o4, .long o5, .long o6]))] H := hP
      have hD : va_D A [(h0, .inr (8, [.ref a1, .ref a2, .ref a3, .ref a4, .ref a5])), (h1, .inr (11, [.long n1, .long n2, .long n3, .long n4, .long (fn_smax n5 (o5 + 1)), .long n6])), (h2, .inr (11, [.long o1, .long o2, .long o3, .long o4, .long o5, .long o6]))] := hD
      refine lv_aload_n hx hb d_Reckoner_greater_41 rfl (lv_at hl 2 rfl) ?_
      refine lv_aload_n hx hb d_Reckoner_greater_42 rfl (lv_at hl 2 rfl) ?_
      refine va_get (D := D) (ci := 11) (v := .long o6) (C := "FilterGuard$Num") (T := F_Num) (N := 6) hx hb hts i_Num hown hK hP 2 rfl rfl 5 (by decide) (hts _ u_382) (fun _ h9 => h9) rfl d_Reckoner_greater_43 ?_
      refine lv_aload_n hx hb d_Reckoner_greater_46 rfl (lv_at hl 1 rfl) ?_
      refine va_get (D := D) (ci := 11) (v := .long n6) (C := "FilterGuard$Num") (T := F_Num) (N := 6) hx hb hts i_Num hown hK hP 1 rfl rfl 5 (by decide) (hts _ u_382) (fun _ h9 => h9) rfl d_Reckoner_greater_47 ?_
      refine lv_lconst (v := 1) hx hb d_Reckoner_greater_50 (by decide) ?_
      refine lv_lsub hx hb d_Reckoner_greater_51 ?_
      refine va_mmin_long hx hb (hml.trans hl.1.symm) hown (hts _ u_1288) (hts _ u_1231) (hts _ u_193) (hts _ u_1232) (Nat.le_of_ble_eq_true rfl) (Nat.le_of_ble_eq_true rfl) (Nat.le_of_ble_eq_true rfl) (Nat.le_of_ble_eq_true rfl) d_Reckoner_greater_52 ?_
      refine fg_topl (y := fn_smin o6 (n6 - 1)) rfl ?_
      refine va_put (D := D) (ci := 11) (v := .long (fn_smin o6 (n6 - 1))) (ty := .long) (C := "FilterGuard$Num") (T := F_Num) (N := 6) hx hb hts i_Num t_Num t_Num_ok n_Num hown hK hP hD hS 2 rfl rfl 5 (by decide) (hts _ u_382) (fun _ h9 => h9) rfl (by decide +kernel) rfl rfl (Nat.le_of_ble_eq_true rfl) d_Reckoner_greater_55 (fun H locs hP hD hS => ?_)
      have hP : va_P D classes [(h0, .inr (8, [.ref a1, .ref a2, .ref a3, .ref a4, .ref a5])), (h1, .inr (11, [.long n1, .long n2, .long n3, .long n4, .long (fn_smax n5 (o5 + 1)), .long n6])), (h2, .inr (11, [.long o1, .long o2, .long o3, .long o4, .long o5, .long (fn_smin o6 (n6 - 1))]))] H := hP
      have hD : va_D A [(h0, .inr (8, [.ref a1, .ref a2, .ref a3, .ref a4, .ref a5])), (h1, .inr (11, [.long n1, .long n2, .long n3, .long n4, .long (fn_smax n5 (o5 + 1)), .long n6])), (h2, .inr (11, [.long o1, .long o2, .long o3, .long o4, .long o5, .long (fn_smin o6 (n6 - 1))]))] := hD
      refine lv_iconst (v := 1) hx hb d_Reckoner_greater_58 (by decide) ?_
      exact fg_retz (n1, n2, n3, n4, fn_smax n5 (o5 + 1), n6, o1, o2, o3, o4, o5, fn_smin o6 (n6 - 1)) hx hb hr hlocks rfl (Or.inl ⟨rfl, by unfold fn_greater; (repeat rw [if_neg gc_1]); (repeat rw [if_neg gc_2]); first | done | rfl | contradiction⟩) (hP.sub (ws' := [(h0, .inr (8, [.ref a1, .ref a2, .ref a3, .ref a4, .ref a5])), (h1, .inr (11, [.long n1, .long n2, .long n3, .long n4, .long (fn_smax n5 (o5 + 1)), .long n6])), (h2, .inr (11, [.long o1, .long o2, .long o3, .long o4, .long o5, .long (fn_smin o6 (n6 - 1))]))]) [0, 1, 2] rfl) (hK.sub (tys' := []) [] rfl) (hD.sub (ws' := [(h0, .inr (8, [.ref a1, .ref a2, .ref a3, .ref a4, .ref a5])), (h1, .inr (11, [.long n1, .long n2, .long n3, .long n4, .long (fn_smax n5 (o5 + 1)), .long n6])), (h2, .inr (11, [.long o1, .long o2, .long o3, .long o4, .long o5, .long (fn_smin o6 (n6 - 1))]))]) [0, 1, 2] (by decide) rfl) hS (Nat.le_of_ble_eq_true rfl) (Nat.le_of_ble_eq_true rfl) d_Reckoner_greater_59
    · have gc_2 : n6 = (-9223372036854775808) := (lg_cmp_eq _ _).mp c_2
      refine lv_iconst (v := 0) hx hb d_Reckoner_greater_22 (by decide) ?_
      exact fg_retz (n1, n2, n3, n4, n5, n6, o1, o2, o3, o4, o5, o6) hx hb hr hlocks rfl (Or.inr ⟨rfl, by unfold fn_greater; (repeat rw [if_neg gc_1]); (repeat rw [if_pos gc_2]); first | done | rfl | contradiction⟩) (hP.sub (ws' := [(h0, .inr (8, [.ref a1, .ref a2, .ref a3, .ref a4, .ref a5])), (h1, .inr (11, [.long n1, .long n2, .long n3, .long n4, .long n5, .long n6])), (h2, .inr (11, [.long o1, .long o2, .long o3, .long o4, .long o5, .long o6]))]) [0, 1, 2] rfl) (hK.sub (tys' := []) [] rfl) (hD.sub (ws' := [(h0, .inr (8, [.ref a1, .ref a2, .ref a3, .ref a4, .ref a5])), (h1, .inr (11, [.long n1, .long n2, .long n3, .long n4, .long n5, .long n6])), (h2, .inr (11, [.long o1, .long o2, .long o3, .long o4, .long o5, .long o6]))]) [0, 1, 2] (by decide) rfl) hS (Nat.le_of_ble_eq_true rfl) (Nat.le_of_ble_eq_true rfl) d_Reckoner_greater_23
abbrev y_Reckoner_notLess : MethodName := ⟨"FilterGuard$Reckoner", "notLess", "(LFilterGuard$Num;LFilterGuard$Num;)Z"⟩
theorem d_Reckoner_notLess_0 : decode prog_9_method_20_code 0 = .ok (.aload_n 1, 1) := by decide +kernel
theorem d_Reckoner_notLess_1 : decode prog_9_method_20_code 1 = .ok (.aload_n 1, 1) := by decide +kernel
theorem d_Reckoner_notLess_2 : decode prog_9_method_20_code 2 = .ok (.getfield 128, 3) := by decide +kernel
theorem d_Reckoner_notLess_5 : decode prog_9_method_20_code 5 = .ok (.aload_n 2, 1) := by decide +kernel
theorem d_Reckoner_notLess_6 : decode prog_9_method_20_code 6 = .ok (.getfield 128, 3) := by decide +kernel
theorem d_Reckoner_notLess_9 : decode prog_9_method_20_code 9 = .ok (.invokestatic 184, 3) := by decide +kernel
theorem d_Reckoner_notLess_12 : decode prog_9_method_20_code 12 = .ok (.putfield 128, 3) := by decide +kernel
theorem d_Reckoner_notLess_15 : decode prog_9_method_20_code 15 = .ok (.aload_n 2, 1) := by decide +kernel
theorem d_Reckoner_notLess_16 : decode prog_9_method_20_code 16 = .ok (.aload_n 2, 1) := by decide +kernel
theorem d_Reckoner_notLess_17 : decode prog_9_method_20_code 17 = .ok (.getfield 131, 3) := by decide +kernel
theorem d_Reckoner_notLess_20 : decode prog_9_method_20_code 20 = .ok (.aload_n 1, 1) := by decide +kernel
theorem d_Reckoner_notLess_21 : decode prog_9_method_20_code 21 = .ok (.getfield 131, 3) := by decide +kernel
theorem d_Reckoner_notLess_24 : decode prog_9_method_20_code 24 = .ok (.invokestatic 189, 3) := by decide +kernel
theorem d_Reckoner_notLess_27 : decode prog_9_method_20_code 27 = .ok (.putfield 131, 3) := by decide +kernel
theorem d_Reckoner_notLess_30 : decode prog_9_method_20_code 30 = .ok (.iconst 1, 1) := by decide +kernel
theorem d_Reckoner_notLess_31 : decode prog_9_method_20_code 31 = .ok (.ireturn, 1) := by decide +kernel
def rm_Reck_notLess : Room := { frames := 2, cells := 0, slots := 0, locals := 60 }
abbrev q_Reck_notLess (D : va_G) (h0 : Nat) (a1 : Nat) (a2 : Nat) (a3 : Nat) (a4 : Nat) (a5 : Nat) (h1 : Nat) (n1 : Int64) (n2 : Int64) (n3 : Int64) (n4 : Int64) (n5 : Int64) (n6 : Int64) (h2 : Nat) (o1 : Int64) (o2 : Int64) (o3 : Int64) (o4 : Int64) (o5 : Int64) (o6 : Int64) (A : Nat → Prop) : Array Value → Jvm.State → Outcome → Jvm.State → Prop := va_Qi (fun (r : Int32) (u : Int64 × Int64 × Int64 × Int64 × Int64 × Int64 × Int64 × Int64 × Int64 × Int64 × Int64 × Int64) => (r = 1 ∧ fn_nless n1 n2 n3 n4 n5 n6 o1 o2 o3 o4 o5 o6 = some ((u.1, u.2.1, u.2.2.1, u.2.2.2.1, u.2.2.2.2.1, u.2.2.2.2.2.1), (u.2.2.2.2.2.2.1, u.2.2.2.2.2.2.2.1, u.2.2.2.2.2.2.2.2.1, u.2.2.2.2.2.2.2.2.2.1, u.2.2.2.2.2.2.2.2.2.2.1, u.2.2.2.2.2.2.2.2.2.2.2))) ∨ (r = 0 ∧ fn_nless n1 n2 n3 n4 n5 n6 o1 o2 o3 o4 o5 o6 = none)) (fg_B D A (fun (u : Int64 × Int64 × Int64 × Int64 × Int64 × Int64 × Int64 × Int64 × Int64 × Int64 × Int64 × Int64) => [(h0, .inr (8, [.ref a1, .ref a2, .ref a3, .ref a4, .ref a5])), (h1, .inr (11, [.long u.1, .long u.2.1, .long u.2.2.1, .long u.2.2.2.1, .long u.2.2.2.2.1, .long u.2.2.2.2.2.1])), (h2, .inr (11, [.long u.2.2.2.2.2.2.1, .long u.2.2.2.2.2.2.2.1, .long u.2.2.2.2.2.2.2.2.1, .long u.2.2.2.2.2.2.2.2.2.1, .long u.2.2.2.2.2.2.2.2.2.2.1, .long u.2.2.2.2.2.2.2.2.2.2.2]))]) (fun (u : Int64 × Int64 × Int64 × Int64 × Int64 × Int64 × Int64 × Int64 × Int64 × Int64 × Int64 × Int64) => [])) A
set_option maxHeartbeats 4000000 in
set_option maxRecDepth 100000 in
theorem c_Reck_notLess (l : Launch) (D : va_G) (h0 : Nat) (a1 : Nat) (a2 : Nat) (a3 : Nat) (a4 : Nat) (a5 : Nat) (h1 : Nat) (n1 : Int64) (n2 : Int64) (n3 : Int64) (n4 : Int64) (n5 : Int64) (n6 : Int64) (h2 : Nat) (o1 : Int64) (o2 : Int64) (o3 : Int64) (o4 : Int64) (o5 : Int64) (o6 : Int64) (sz : Nat) : Met l y_Reckoner_notLess (fg_w y_Reckoner_notLess prog_9_method_20_code 3 (some .boolean)) rm_Reck_notLess (va_Pc [.ref h0, .ref h1, .ref h2] (fg_P D [] [(h0, .inr (8, [.ref a1, .ref a2, .ref a3, .ref a4, .ref a5])), (h1, .inr (11, [.long n1, .long n2, .long n3, .long n4, .long n5, .long n6])), (h2, .inr (11, [.long o1, .long o2, .long o3, .long o4, .long o5, .long o6]))] sz)) (q_Reck_notLess D h0 a1 a2 a3 a4 a5 h1 n1 n2 n3 n4 n5 n6 h2 o1 o2 o3 o4 o5 o6 (va_A [(h0, .inr (8, [.ref a1, .ref a2, .ref a3, .ref a4, .ref a5])), (h1, .inr (11, [.long n1, .long n2, .long n3, .long n4, .long n5, .long n6])), (h2, .inr (11, [.long o1, .long o2, .long o3, .long o4, .long o5, .long o6]))] sz)) rm_Reck_notLess.cells rm_Reck_notLess.slots (va_A [(h0, .inr (8, [.ref a1, .ref a2, .ref a3, .ref a4, .ref a5])), (h1, .inr (11, [.long n1, .long n2, .long n3, .long n4, .long n5, .long n6])), (h2, .inr (11, [.long o1, .long o2, .long o3, .long o4, .long o5, .long o6]))] sz) := by
  refine fg_enter (fun A => q_Reck_notLess D h0 a1 a2 a3 a4 a5 h1 n1 n2 n3 n4 n5 n6 h2 o1 o2 o3 o4 o5 o6 A) (by decide +kernel) (Nat.le_of_ble_eq_true rfl) ?_
  intro p e s m below meth c ls A hx hb hml hown hts hr hlocks hin hP hK hD hS hA hX hl
  have hl : lv_has ls 3 [(0, .ref h0), (1, .ref h1), (2, .ref h2)] := hl
  refine lv_aload_n hx hb d_Reckoner_notLess_0 rfl (lv_at hl 1 rfl) ?_
  refine lv_aload_n hx hb d_Reckoner_notLess_1 rfl (lv_at hl 1 rfl) ?_
  refine va_get (D := D) (ci := 11) (v := .long n5) (C := "FilterGuard$Num") (T := F_Num) (N := 6) hx hb hts i_Num hown hK hP 1 rfl rfl 4 (by decide) (hts _ u_380) (fun _ h9 => h9) rfl d_Reckoner_notLess_2 ?_
  refine lv_aload_n hx hb d_Reckoner_notLess_5 rfl (lv_at hl 2 rfl) ?_
  refine va_get (D := D) (ci := 11) (v := .long o5) (C := "FilterGuard$Num") (T := F_Num) (N := 6) hx hb hts i_Num hown hK hP 2 rfl rfl 4 (by decide) (hts _ u_380) (fun _ h9 => h9) rfl d_Reckoner_notLess_6 ?_
  refine va_mmax_long hx hb (hml.trans hl.1.symm) hown (hts _ u_1287) (hts _ u_1228) (hts _ u_193) (hts _ u_1229) (Nat.le_of_ble_eq_true rfl) (Nat.le_of_ble_eq_true rfl) (Nat.le_of_ble_eq_true rfl) (Nat.le_of_ble_eq_true rfl) d_Reckoner_notLess_9 ?_
  refine fg_topl (y := fn_smax n5 o5) rfl ?_
  refine va_put (D := D) (ci := 11) (v := .long (fn_smax n5 o5)) (ty := .long) (C := "FilterGuard$Num") (T := F_Num) (N := 6) hx hb hts i_Num t_Num t_Num_ok n_Num hown hK hP hD hS 1 rfl rfl 4 (by decide) (hts _ u_380) (fun _ h9 => h9) rfl (by decide +kernel) rfl rfl (Nat.le_of_ble_eq_true rfl) d_Reckoner_notLess_12 (fun H locs hP hD hS => ?_)
  have hP : va_P D classes [(h0, .inr (8, [.ref a1, .ref a2, .ref a3, .ref a4, .ref a5])), (h1, .inr (11, [.long n1, .long n2, .long n3, .long n4, .long (fn_smax n5 o5), .long n6])), (h2, .inr (11, [.long o1, .long o2, .long o3, .long o4, .long o5, .long o6]))] H := hP
  have hD : va_D A [(h0, .inr (8, [.ref a1, .ref a2, .ref a3, .ref a4, .ref a5])), (h1, .inr (11, [.long n1, .long n2, .long n3, .long n4, .long (fn_smax n5 o5), .long n6])), (h2, .inr (11, [.long o1, .long o2, .long o3, .long o4, .long o5, .long o6]))] := hD
  refine lv_aload_n hx hb d_Reckoner_notLess_15 rfl (lv_at hl 2 rfl) ?_
  refine lv_aload_n hx hb d_Reckoner_notLess_16 rfl (lv_at hl 2 rfl) ?_
  refine va_get (D := D) (ci := 11) (v := .long o6) (C := "FilterGuard$Num") (T := F_Num) (N := 6) hx hb hts i_Num hown hK hP 2 rfl rfl 5 (by decide) (hts _ u_382) (fun _ h9 => h9) rfl d_Reckoner_notLess_17 ?_
  refine lv_aload_n hx hb d_Reckoner_notLess_20 rfl (lv_at hl 1 rfl) ?_
  refine va_get (D := D) (ci := 11) (v := .long n6) (C := "FilterGuard$Num") (T := F_Num) (N := 6) hx hb hts i_Num hown hK hP 1 rfl rfl 5 (by decide) (hts _ u_382) (fun _ h9 => h9) rfl d_Reckoner_notLess_21 ?_
  refine va_mmin_long hx hb (hml.trans hl.1.symm) hown (hts _ u_1288) (hts _ u_1231) (hts _ u_193) (hts _ u_1232) (Nat.le_of_ble_eq_true rfl) (Nat.le_of_ble_eq_true rfl) (Nat.le_of_ble_eq_true rfl) (Nat.le_of_ble_eq_true rfl) d_Reckoner_notLess_24 ?_
  refine fg_topl (y := fn_smin o6 n6) rfl ?_
  refine va_put (D := D) (ci := 11) (v := .long (fn_smin o6 n6)) (ty := .long) (C := "FilterGuard$Num") (T := F_Num) (N := 6) hx hb hts i_Num t_Num t_Num_ok n_Num hown hK hP hD hS 2 rfl rfl 5 (by decide) (hts _ u_382) (fun _ h9 => h9) rfl (by decide +kernel) rfl rfl (Nat.le_of_ble_eq_true rfl) d_Reckoner_notLess_27 (fun H locs hP hD hS => ?_)
  have hP : va_P D classes [(h0, .inr (8, [.ref a1, .ref a2, .ref a3, .ref a4, .ref a5])), (h1, .inr (11, [.long n1, .long n2, .long n3, .long n4, .long (fn_smax n5 o5), .long n6])), (h2, .inr (11, [.long o1, .long o2, .long o3, .long o4, .long o5, .long (fn_smin o6 n6)]))] H := hP
  have hD : va_D A [(h0, .inr (8, [.ref a1, .ref a2, .ref a3, .ref a4, .ref a5])), (h1, .inr (11, [.long n1, .long n2, .long n3, .long n4, .long (fn_smax n5 o5), .long n6])), (h2, .inr (11, [.long o1, .long o2, .long o3, .long o4, .long o5, .long (fn_smin o6 n6)]))] := hD
  refine lv_iconst (v := 1) hx hb d_Reckoner_notLess_30 (by decide) ?_
  exact fg_retz (n1, n2, n3, n4, fn_smax n5 o5, n6, o1, o2, o3, o4, o5, fn_smin o6 n6) hx hb hr hlocks rfl (Or.inl ⟨rfl, by unfold fn_nless; skip; first | done | rfl | contradiction⟩) (hP.sub (ws' := [(h0, .inr (8, [.ref a1, .ref a2, .ref a3, .ref a4, .ref a5])), (h1, .inr (11, [.long n1, .long n2, .long n3, .long n4, .long (fn_smax n5 o5), .long n6])), (h2, .inr (11, [.long o1, .long o2, .long o3, .long o4, .long o5, .long (fn_smin o6 n6)]))]) [0, 1, 2] rfl) (hK.sub (tys' := []) [] rfl) (hD.sub (ws' := [(h0, .inr (8, [.ref a1, .ref a2, .ref a3, .ref a4, .ref a5])), (h1, .inr (11, [.long n1, .long n2, .long n3, .long n4, .long (fn_smax n5 o5), .long n6])), (h2, .inr (11, [.long o1, .long o2, .long o3, .long o4, .long o5, .long (fn_smin o6 n6)]))]) [0, 1, 2] (by decide) rfl) hS (Nat.le_of_ble_eq_true rfl) (Nat.le_of_ble_eq_true rfl) d_Reckoner_notLess_31
abbrev y_Reckoner_same : MethodName := ⟨"FilterGuard$Reckoner", "same", "(LFilterGuard$Num;LFilterGuard$Num;)Z"⟩
theorem d_Reckoner_same_0 : decode prog_9_method_21_code 0 = .ok (.aload_n 1, 1) := by decide +kernel
theorem d_Reckoner_same_1 : decode prog_9_method_21_code 1 = .ok (.getfield 49, 3) := by decide +kernel
theorem d_Reckoner_same_4 : decode prog_9_method_21_code 4 = .ok (.aload_n 2, 1) := by decide +kernel
theorem d_Reckoner_same_5 : decode prog_9_method_21_code 5 = .ok (.getfield 49, 3) := by decide +kernel
theorem d_Reckoner_same_8 : decode prog_9_method_21_code 8 = .ok (.lxor, 1) := by decide +kernel
theorem d_Reckoner_same_9 : decode prog_9_method_21_code 9 = .ok (.aload_n 1, 1) := by decide +kernel
theorem d_Reckoner_same_10 : decode prog_9_method_21_code 10 = .ok (.getfield 87, 3) := by decide +kernel
theorem d_Reckoner_same_13 : decode prog_9_method_21_code 13 = .ok (.ldc2_w 90, 3) := by decide +kernel
theorem d_Reckoner_same_16 : decode prog_9_method_21_code 16 = .ok (.lxor, 1) := by decide +kernel
theorem d_Reckoner_same_17 : decode prog_9_method_21_code 17 = .ok (.land, 1) := by decide +kernel
theorem d_Reckoner_same_18 : decode prog_9_method_21_code 18 = .ok (.aload_n 2, 1) := by decide +kernel
theorem d_Reckoner_same_19 : decode prog_9_method_21_code 19 = .ok (.getfield 87, 3) := by decide +kernel
theorem d_Reckoner_same_22 : decode prog_9_method_21_code 22 = .ok (.ldc2_w 90, 3) := by decide +kernel
theorem d_Reckoner_same_25 : decode prog_9_method_21_code 25 = .ok (.lxor, 1) := by decide +kernel
theorem d_Reckoner_same_26 : decode prog_9_method_21_code 26 = .ok (.land, 1) := by decide +kernel
theorem d_Reckoner_same_27 : decode prog_9_method_21_code 27 = .ok (.lconst 0, 1) := by decide +kernel
theorem d_Reckoner_same_28 : decode prog_9_method_21_code 28 = .ok (.lcmp, 1) := by decide +kernel
theorem d_Reckoner_same_29 : decode prog_9_method_21_code 29 = .ok (.ifCond .eq 5, 3) := by decide +kernel
theorem d_Reckoner_same_34 : decode prog_9_method_21_code 34 = .ok (.aload_n 1, 1) := by decide +kernel
theorem d_Reckoner_same_35 : decode prog_9_method_21_code 35 = .ok (.aload_n 1, 1) := by decide +kernel
theorem d_Reckoner_same_36 : decode prog_9_method_21_code 36 = .ok (.getfield 49, 3) := by decide +kernel
theorem d_Reckoner_same_39 : decode prog_9_method_21_code 39 = .ok (.aload_n 2, 1) := by decide +kernel
theorem d_Reckoner_same_40 : decode prog_9_method_21_code 40 = .ok (.getfield 49, 3) := by decide +kernel
theorem d_Reckoner_same_43 : decode prog_9_method_21_code 43 = .ok (.lor, 1) := by decide +kernel
theorem d_Reckoner_same_44 : decode prog_9_method_21_code 44 = .ok (.aload_n 1, 1) := by decide +kernel
theorem d_Reckoner_same_45 : decode prog_9_method_21_code 45 = .ok (.getfield 87, 3) := by decide +kernel
theorem d_Reckoner_same_48 : decode prog_9_method_21_code 48 = .ok (.aload_n 2, 1) := by decide +kernel
theorem d_Reckoner_same_49 : decode prog_9_method_21_code 49 = .ok (.getfield 87, 3) := by decide +kernel
theorem d_Reckoner_same_52 : decode prog_9_method_21_code 52 = .ok (.land, 1) := by decide +kernel
theorem d_Reckoner_same_53 : decode prog_9_method_21_code 53 = .ok (.invokevirtual 92, 3) := by decide +kernel
theorem d_Reckoner_same_56 : decode prog_9_method_21_code 56 = .ok (.aload_n 1, 1) := by decide +kernel
theorem d_Reckoner_same_57 : decode prog_9_method_21_code 57 = .ok (.aload_n 2, 1) := by decide +kernel
theorem d_Reckoner_same_58 : decode prog_9_method_21_code 58 = .ok (.getfield 96, 3) := by decide +kernel
theorem d_Reckoner_same_61 : decode prog_9_method_21_code 61 = .ok (.invokevirtual 99, 3) := by decide +kernel
theorem d_Reckoner_same_64 : decode prog_9_method_21_code 64 = .ok (.aload_n 1, 1) := by decide +kernel
theorem d_Reckoner_same_65 : decode prog_9_method_21_code 65 = .ok (.aload_n 2, 1) := by decide +kernel
theorem d_Reckoner_same_66 : decode prog_9_method_21_code 66 = .ok (.getfield 122, 3) := by decide +kernel
theorem d_Reckoner_same_69 : decode prog_9_method_21_code 69 = .ok (.invokevirtual 146, 3) := by decide +kernel
theorem d_Reckoner_same_72 : decode prog_9_method_21_code 72 = .ok (.aload_n 1, 1) := by decide +kernel
theorem d_Reckoner_same_73 : decode prog_9_method_21_code 73 = .ok (.aload_n 1, 1) := by decide +kernel
theorem d_Reckoner_same_74 : decode prog_9_method_21_code 74 = .ok (.getfield 128, 3) := by decide +kernel
theorem d_Reckoner_same_77 : decode prog_9_method_21_code 77 = .ok (.aload_n 2, 1) := by decide +kernel
theorem d_Reckoner_same_78 : decode prog_9_method_21_code 78 = .ok (.getfield 128, 3) := by decide +kernel
theorem d_Reckoner_same_81 : decode prog_9_method_21_code 81 = .ok (.invokestatic 184, 3) := by decide +kernel
theorem d_Reckoner_same_84 : decode prog_9_method_21_code 84 = .ok (.putfield 128, 3) := by decide +kernel
theorem d_Reckoner_same_87 : decode prog_9_method_21_code 87 = .ok (.aload_n 1, 1) := by decide +kernel
theorem d_Reckoner_same_88 : decode prog_9_method_21_code 88 = .ok (.aload_n 1, 1) := by decide +kernel
theorem d_Reckoner_same_89 : decode prog_9_method_21_code 89 = .ok (.getfield 131, 3) := by decide +kernel
theorem d_Reckoner_same_92 : decode prog_9_method_21_code 92 = .ok (.aload_n 2, 1) := by decide +kernel
theorem d_Reckoner_same_93 : decode prog_9_method_21_code 93 = .ok (.getfield 131, 3) := by decide +kernel
theorem d_Reckoner_same_96 : decode prog_9_method_21_code 96 = .ok (.invokestatic 189, 3) := by decide +kernel
theorem d_Reckoner_same_99 : decode prog_9_method_21_code 99 = .ok (.putfield 131, 3) := by decide +kernel
theorem d_Reckoner_same_102 : decode prog_9_method_21_code 102 = .ok (.aload_n 2, 1) := by decide +kernel
theorem d_Reckoner_same_103 : decode prog_9_method_21_code 103 = .ok (.aload_n 1, 1) := by decide +kernel
theorem d_Reckoner_same_104 : decode prog_9_method_21_code 104 = .ok (.invokevirtual 38, 3) := by decide +kernel
theorem d_Reckoner_same_107 : decode prog_9_method_21_code 107 = .ok (.iconst 1, 1) := by decide +kernel
theorem d_Reckoner_same_108 : decode prog_9_method_21_code 108 = .ok (.ireturn, 1) := by decide +kernel
theorem d_Reckoner_same_32 : decode prog_9_method_21_code 32 = .ok (.iconst 0, 1) := by decide +kernel
theorem d_Reckoner_same_33 : decode prog_9_method_21_code 33 = .ok (.ireturn, 1) := by decide +kernel
def rm_Reck_same : Room := { frames := 2, cells := 0, slots := 0, locals := 60 }
abbrev q_Reck_same (D : va_G) (h0 : Nat) (a1 : Nat) (a2 : Nat) (a3 : Nat) (a4 : Nat) (a5 : Nat) (h1 : Nat) (n1 : Int64) (n2 : Int64) (n3 : Int64) (n4 : Int64) (n5 : Int64) (n6 : Int64) (h2 : Nat) (o1 : Int64) (o2 : Int64) (o3 : Int64) (o4 : Int64) (o5 : Int64) (o6 : Int64) (A : Nat → Prop) : Array Value → Jvm.State → Outcome → Jvm.State → Prop := va_Qi (fun (r : Int32) (u : Int64 × Int64 × Int64 × Int64 × Int64 × Int64 × Int64 × Int64 × Int64 × Int64 × Int64 × Int64) => (r = 1 ∧ fn_same n1 n2 n3 n4 n5 n6 o1 o2 o3 o4 o5 o6 = some ((u.1, u.2.1, u.2.2.1, u.2.2.2.1, u.2.2.2.2.1, u.2.2.2.2.2.1), (u.2.2.2.2.2.2.1, u.2.2.2.2.2.2.2.1, u.2.2.2.2.2.2.2.2.1, u.2.2.2.2.2.2.2.2.2.1, u.2.2.2.2.2.2.2.2.2.2.1, u.2.2.2.2.2.2.2.2.2.2.2))) ∨ (r = 0 ∧ fn_same n1 n2 n3 n4 n5 n6 o1 o2 o3 o4 o5 o6 = none)) (fg_B D A (fun (u : Int64 × Int64 × Int64 × Int64 × Int64 × Int64 × Int64 × Int64 × Int64 × Int64 × Int64 × Int64) => [(h0, .inr (8, [.ref a1, .ref a2, .ref a3, .ref a4, .ref a5])), (h1, .inr (11, [.long u.1, .long u.2.1, .long u.2.2.1, .long u.2.2.2.1, .long u.2.2.2.2.1, .long u.2.2.2.2.2.1])), (h2, .inr (11, [.long u.2.2.2.2.2.2.1, .long u.2.2.2.2.2.2.2.1, .long u.2.2.2.2.2.2.2.2.1, .long u.2.2.2.2.2.2.2.2.2.1, .long u.2.2.2.2.2.2.2.2.2.2.1, .long u.2.2.2.2.2.2.2.2.2.2.2]))]) (fun (u : Int64 × Int64 × Int64 × Int64 × Int64 × Int64 × Int64 × Int64 × Int64 × Int64 × Int64 × Int64) => [])) A
set_option maxHeartbeats 4000000 in
set_option maxRecDepth 100000 in
theorem c_Reck_same (l : Launch) (D : va_G) (h0 : Nat) (a1 : Nat) (a2 : Nat) (a3 : Nat) (a4 : Nat) (a5 : Nat) (h1 : Nat) (n1 : Int64) (n2 : Int64) (n3 : Int64) (n4 : Int64) (n5 : Int64) (n6 : Int64) (h2 : Nat) (o1 : Int64) (o2 : Int64) (o3 : Int64) (o4 : Int64) (o5 : Int64) (o6 : Int64) (sz : Nat) : Met l y_Reckoner_same (fg_w y_Reckoner_same prog_9_method_21_code 3 (some .boolean)) rm_Reck_same (va_Pc [.ref h0, .ref h1, .ref h2] (fg_P D [] [(h0, .inr (8, [.ref a1, .ref a2, .ref a3, .ref a4, .ref a5])), (h1, .inr (11, [.long n1, .long n2, .long n3, .long n4, .long n5, .long n6])), (h2, .inr (11, [.long o1, .long o2, .long o3, .long o4, .long o5, .long o6]))] sz)) (q_Reck_same D h0 a1 a2 a3 a4 a5 h1 n1 n2 n3 n4 n5 n6 h2 o1 o2 o3 o4 o5 o6 (va_A [(h0, .inr (8, [.ref a1, .ref a2, .ref a3, .ref a4, .ref a5])), (h1, .inr (11, [.long n1, .long n2, .long n3, .long n4, .long n5, .long n6])), (h2, .inr (11, [.long o1, .long o2, .long o3, .long o4, .long o5, .long o6]))] sz)) rm_Reck_same.cells rm_Reck_same.slots (va_A [(h0, .inr (8, [.ref a1, .ref a2, .ref a3, .ref a4, .ref a5])), (h1, .inr (11, [.long n1, .long n2, .long n3, .long n4, .long n5, .long n6])), (h2, .inr (11, [.long o1, .long o2, .long o3, .long o4, .long o5, .long o6]))] sz) := by
  refine fg_enter (fun A => q_Reck_same D h0 a1 a2 a3 a4 a5 h1 n1 n2 n3 n4 n5 n6 h2 o1 o2 o3 o4 o5 o6 A) (by decide +kernel) (Nat.le_of_ble_eq_true rfl) ?_
  intro p e s m below meth c ls A hx hb hml hown hts hr hlocks hin hP hK hD hS hA hX hl
  have hl : lv_has ls 3 [(0, .ref h0), (1, .ref h1), (2, .ref h2)] := hl
  refine lv_aload_n hx hb d_Reckoner_same_0 rfl (lv_at hl 1 rfl) ?_
  refine va_get (D := D) (ci := 11) (v := .long n1) (C := "FilterGuard$Num") (T := F_Num) (N := 6) hx hb hts i_Num hown hK hP 1 rfl rfl 0 (by decide) (hts _ u_368) (fun _ h9 => h9) rfl d_Reckoner_same_1 ?_
  refine lv_aload_n hx hb d_Reckoner_same_4 rfl (lv_at hl 2 rfl) ?_
  refine va_get (D := D) (ci := 11) (v := .long o1) (C := "FilterGuard$Num") (T := F_Num) (N := 6) hx hb hts i_Num hown hK hP 2 rfl rfl 0 (by decide) (hts _ u_368) (fun _ h9 => h9) rfl d_Reckoner_same_5 ?_
  refine lv_lxor hx hb d_Reckoner_same_8 ?_
  refine lv_aload_n hx hb d_Reckoner_same_9 rfl (lv_at hl 1 rfl) ?_
  refine va_get (D := D) (ci := 11) (v := .long n2) (C := "FilterGuard$Num") (T := F_Num) (N := 6) hx hb hts i_Num hown hK hP 1 rfl rfl 1 (by decide) (hts _ u_372) (fun _ h9 => h9) rfl d_Reckoner_same_10 ?_
  refine lv_ldc2 hx hb hown (hts _ u_1139) d_Reckoner_same_13 ?_
  refine lv_lxor hx hb d_Reckoner_same_16 ?_
  refine lv_land hx hb d_Reckoner_same_17 ?_
  refine lv_aload_n hx hb d_Reckoner_same_18 rfl (lv_at hl 2 rfl) ?_
  refine va_get (D := D) (ci := 11) (v := .long o2) (C := "FilterGuard$Num") (T := F_Num) (N := 6) hx hb hts i_Num hown hK hP 2 rfl rfl 1 (by decide) (hts _ u_372) (fun _ h9 => h9) rfl d_Reckoner_same_19 ?_
  refine lv_ldc2 hx hb hown (hts _ u_1139) d_Reckoner_same_22 ?_
  refine lv_lxor hx hb d_Reckoner_same_25 ?_
  refine lv_land hx hb d_Reckoner_same_26 ?_
  refine lv_lconst (v := 0) hx hb d_Reckoner_same_27 (by decide) ?_
  refine W.lcmp hx hb d_Reckoner_same_28 ?_
  refine lv_if_eq (tgt := 34) hx hb d_Reckoner_same_29 (by decide) (fun c_1 => ?_) (fun c_1 => ?_)
  · have gc_1 : (((n1 ^^^ o1) &&& (n2 ^^^ (-1))) &&& (o2 ^^^ (-1))) = 0 := (lg_cmp_eq _ _).mp c_1
    refine lv_aload_n hx hb d_Reckoner_same_34 rfl (lv_at hl 1 rfl) ?_
    refine lv_aload_n hx hb d_Reckoner_same_35 rfl (lv_at hl 1 rfl) ?_
    refine va_get (D := D) (ci := 11) (v := .long n1) (C := "FilterGuard$Num") (T := F_Num) (N := 6) hx hb hts i_Num hown hK hP 1 rfl rfl 0 (by decide) (hts _ u_368) (fun _ h9 => h9) rfl d_Reckoner_same_36 ?_
    refine lv_aload_n hx hb d_Reckoner_same_39 rfl (lv_at hl 2 rfl) ?_
    refine va_get (D := D) (ci := 11) (v := .long o1) (C := "FilterGuard$Num") (T := F_Num) (N := 6) hx hb hts i_Num hown hK hP 2 rfl rfl 0 (by decide) (hts _ u_368) (fun _ h9 => h9) rfl d_Reckoner_same_40 ?_
    refine lv_lor hx hb d_Reckoner_same_43 ?_
    refine lv_aload_n hx hb d_Reckoner_same_44 rfl (lv_at hl 1 rfl) ?_
    refine va_get (D := D) (ci := 11) (v := .long n2) (C := "FilterGuard$Num") (T := F_Num) (N := 6) hx hb hts i_Num hown hK hP 1 rfl rfl 1 (by decide) (hts _ u_372) (fun _ h9 => h9) rfl d_Reckoner_same_45 ?_
    refine lv_aload_n hx hb d_Reckoner_same_48 rfl (lv_at hl 2 rfl) ?_
    refine va_get (D := D) (ci := 11) (v := .long o2) (C := "FilterGuard$Num") (T := F_Num) (N := 6) hx hb hts i_Num hown hK hP 2 rfl rfl 1 (by decide) (hts _ u_372) (fun _ h9 => h9) rfl d_Reckoner_same_49 ?_
    refine lv_land hx hb d_Reckoner_same_52 ?_
    refine fg_thenv (wr := [(h0, .inr (8, [.ref a1, .ref a2, .ref a3, .ref a4, .ref a5])), (h2, .inr (11, [.long o1, .long o2, .long o3, .long o4, .long o5, .long o6]))]) (fg_runV (C := "FilterGuard$Num") (As := [.long (n1 ||| o1), .long (n2 &&& o2)]) (rest := []) (ci := 11) (q0 := 0) ⟨hx, hb, hml, hown, hts⟩ (c_Num_bits l D h1 n1 n2 n3 n4 n5 n6 (n1 ||| o1) (n2 &&& o2) s.heap.size) rfl (by show fg_nm y_Num_bits 2; decide +kernel) u_1140 u_1141 u_1142 u_187 u_1143 ⟨Nat.le_of_ble_eq_true rfl, Nat.le_of_ble_eq_true rfl⟩ hX (hP.sub (ws' := [(h1, .inr (11, [.long n1, .long n2, .long n3, .long n4, .long n5, .long n6]))]) [1] rfl) (hK.sub (tys' := []) [] rfl) (hD.sub (ws' := [(h1, .inr (11, [.long n1, .long n2, .long n3, .long n4, .long n5, .long n6]))]) [1] (by decide) rfl) rfl rfl rfl rfl hl.1 (Nat.le_of_ble_eq_true rfl) d_Reckoner_same_53 ⟨(Nat.le_of_ble_eq_true rfl), (Nat.le_of_ble_eq_true rfl)⟩) hP hD hK hS hA [1] [0, 2] rfl rfl (by decide) (by decide) (fun  u H locs hw53_1 hP hD hK hS => ?_)
    try dsimp only at hw53_1
    have hP : va_P D classes [(h0, .inr (8, [.ref a1, .ref a2, .ref a3, .ref a4, .ref a5])), (h2, .inr (11, [.long o1, .long o2, .long o3, .long o4, .long o5, .long o6])), (h1, .inr (11, [.long (n1 ||| o1), .long (n2 &&& o2), .long n3, .long n4, .long n5, .long n6]))] H := hP
    have hD : va_D A [(h0, .inr (8, [.ref a1, .ref a2, .ref a3, .ref a4, .ref a5])), (h2, .inr (11, [.long o1, .long o2, .long o3, .long o4, .long o5, .long o6])), (h1, .inr (11, [.long (n1 ||| o1), .long (n2 &&& o2), .long n3, .long n4, .long n5, .long n6]))] := hD
    have hK : va_K D classes [] s := hK
    refine W.widen (k := 0) (n := 0) (Nat.le_of_ble_eq_true rfl) (Nat.le_of_ble_eq_true rfl) ?_
    refine lv_aload_n hx hb d_Reckoner_same_56 rfl (lv_at hl 1 rfl) ?_
    refine lv_aload_n hx hb d_Reckoner_same_57 rfl (lv_at hl 2 rfl) ?_
    refine va_get (D := D) (ci := 11) (v := .long o3) (C := "FilterGuard$Num") (T := F_Num) (N := 6) hx hb hts i_Num hown hK hP 1 rfl rfl 2 (by decide) (hts _ u_374) (fun _ h9 => h9) rfl d_Reckoner_same_58 ?_
    refine fg_thenv (wr := [(h0, .inr (8, [.ref a1, .ref a2, .ref a3, .ref a4, .ref a5])), (h2, .inr (11, [.long o1, .long o2, .long o3, .long o4, .long o5, .long o6]))]) (fg_runV (C := "FilterGuard$Num") (As := [.long o3]) (rest := []) (ci := 11) (q0 := 0) ⟨hx, hb, hml, hown, hts⟩ (c_Num_raise l D h1 (n1 ||| o1) (n2 &&& o2) n3 n4 n5 n6 o3 H.size) rfl (by show fg_nm y_Num_raiseLeast 1; decide +kernel) u_1198 u_1199 u_1200 u_187 u_1201 ⟨Nat.le_of_ble_eq_true rfl, Nat.le_of_ble_eq_true rfl⟩ hX (hP.sub (ws' := [(h1, .inr (11, [.long (n1 ||| o1), .long (n2 &&& o2), .long n3, .long n4, .long n5, .long n6]))]) [2] rfl) (hK.sub (tys' := []) [] rfl) (hD.sub (ws' := [(h1, .inr (11, [.long (n1 ||| o1), .long (n2 &&& o2), .long n3, .long n4, .long n5, .long n6]))]) [2] (by decide) rfl) rfl rfl rfl rfl hl.1 (Nat.le_of_ble_eq_true rfl) d_Reckoner_same_61 ⟨(Nat.le_of_ble_eq_true rfl), (Nat.le_of_ble_eq_true rfl)⟩) hP hD hK hS hA [2] [0, 1] rfl rfl (by decide) (by decide) (fun  u H locs hw61_2 hP hD hK hS => ?_)
    obtain ⟨y1_61_3, rfl⟩ : ∃ z, z = u := ⟨_, rfl⟩
    try dsimp only at hw61_2
    have hP : va_P D classes [(h0, .inr (8, [.ref a1, .ref a2, .ref a3, .ref a4, .ref a5])), (h2, .inr (11, [.long o1, .long o2, .long o3, .long o4, .long o5, .long o6])), (h1, .inr (11, [.long (n1 ||| o1), .long (n2 &&& o2), .long y1_61_3, .long n4, .long n5, .long n6]))] H := hP
    have hD : va_D A [(h0, .inr (8, [.ref a1, .ref a2, .ref a3, .ref a4, .ref a5])), (h2, .inr (11, [.long o1, .long o2, .long o3, .long o4, .long o5, .long o6])), (h1, .inr (11, [.long (n1 ||| o1), .long (n2 &&& o2), .long y1_61_3, .long n4, .long n5, .long n6]))] := hD
    have hK : va_K D classes [] s := hK
    refine W.widen (k := 0) (n := 0) (Nat.le_of_ble_eq_true rfl) (Nat.le_of_ble_eq_true rfl) ?_
    subst hw61_2
    have hP : va_P D classes [(h0, .inr (8, [.ref a1, .ref a2, .ref a3, .ref a4, .ref a5])), (h2, .inr (11, [.long o1, .long o2, .long o3, .long o4, .long o5, .long o6])), (h1, .inr (11, [.long (n1 ||| o1), .long (n2 &&& o2), .long (fn_max n3 o3), .long n4, .long n5, .long n6]))] H := hP
    have hD : va_D A [(h0, .inr (8, [.ref a1, .ref a2, .ref a3, .ref a4, .ref a5])), (h2, .inr (11, [.long o1, .long o2, .long o3, .long o4, .long o5, .long o6])), (h1, .inr (11, [.long (n1 ||| o1), .long (n2 &&& o2), .long (fn_max n3 o3), .long n4, .long n5, .long n6]))] := hD
    refine lv_aload_n hx hb d_Reckoner_same_64 rfl (lv_at hl 1 rfl) ?_
    refine lv_aload_n hx hb d_Reckoner_same_65 rfl (lv_at hl 2 rfl) ?_
    refine va_get (D := D) (ci := 11) (v := .long o4) (C := "FilterGuard$Num") (T := F_Num) (N := 6) hx hb hts i_Num hown hK hP 1 rfl rfl 3 (by decide) (hts _ u_377) (fun _ h9 => h9) rfl d_Reckoner_same_66 ?_
    refine fg_thenv (wr := [(h0, .inr (8, [.ref a1, .ref a2, .ref a3, .ref a4, .ref a5])), (h2, .inr (11, [.long o1, .long o2, .long o3, .long o4, .long o5, .long o6]))]) (fg_runV (C := "FilterGuard$Num") (As := [.long o4]) (rest := []) (ci := 11) (q0 := 0) ⟨hx, hb, hml, hown, hts⟩ (c_Num_lower l D h1 (n1 ||| o1) (n2 &&& o2) (fn_max n3 o3) n4 n5 n6 o4 H.size) rfl (by show fg_nm y_Num_lowerGreatest 1; decide +kernel) u_1194 u_1195 u_1196 u_187 u_1197 ⟨Nat.le_of_ble_eq_true rfl, Nat.le_of_ble_eq_true rfl⟩ hX (hP.sub (ws' := [(h1, .inr (11, [.long (n1 ||| o1), .long (n2 &&& o2), .long (fn_max n3 o3), .long n4, .long n5, .long n6]))]) [2] rfl) (hK.sub (tys' := []) [] rfl) (hD.sub (ws' := [(h1, .inr (11, [.long (n1 ||| o1), .long (n2 &&& o2), .long (fn_max n3 o3), .long n4, .long n5, .long n6]))]) [2] (by decide) rfl) rfl rfl rfl rfl hl.1 (Nat.le_of_ble_eq_true rfl) d_Reckoner_same_69 ⟨(Nat.le_of_ble_eq_true rfl), (Nat.le_of_ble_eq_true rfl)⟩) hP hD hK hS hA [2] [0, 1] rfl rfl (by decide) (by decide) (fun  u H locs hw69_4 hP hD hK hS => ?_)
    obtain ⟨y1_69_5, rfl⟩ : ∃ z, z = u := ⟨_, rfl⟩
    try dsimp only at hw69_4
    have hP : va_P D classes [(h0, .inr (8, [.ref a1, .ref a2, .ref a3, .ref a4, .ref a5])), (h2, .inr (11, [.long o1, .long o2, .long o3, .long o4, .long o5, .long o6])), (h1, .inr (11, [.long (n1 ||| o1), .long (n2 &&& o2), .long (fn_max n3 o3), .long y1_69_5, .long n5, .long n6]))] H := hP
    have hD : va_D A [(h0, .inr (8, [.ref a1, .ref a2, .ref a3, .ref a4, .ref a5])), (h2, .inr (11, [.long o1, .long o2, .long o3, .long o4, .long o5, .long o6])), (h1, .inr (11, [.long (n1 ||| o1), .long (n2 &&& o2), .long (fn_max n3 o3), .long y1_69_5, .long n5, .long n6]))] := hD
    have hK : va_K D classes [] s := hK
    refine W.widen (k := 0) (n := 0) (Nat.le_of_ble_eq_true rfl) (Nat.le_of_ble_eq_true rfl) ?_
    subst hw69_4
    have hP : va_P D classes [(h0, .inr (8, [.ref a1, .ref a2, .ref a3, .ref a4, .ref a5])), (h2, .inr (11, [.long o1, .long o2, .long o3, .long o4, .long o5, .long o6])), (h1, .inr (11, [.long (n1 ||| o1), .long (n2 &&& o2), .long (fn_max n3 o3), .long (fn_min n4 o4), .long n5, .long n6]))] H := hP
    have hD : va_D A [(h0, .inr (8, [.ref a1, .ref a2, .ref a3, .ref a4, .ref a5])), (h2, .inr (11, [.long o1, .long o2, .long o3, .long o4, .long o5, .long o6])), (h1, .inr (11, [.long (n1 ||| o1), .long (n2 &&& o2), .long (fn_max n3 o3), .long (fn_min n4 o4), .long n5, .long n6]))] := hD
    refine lv_aload_n hx hb d_Reckoner_same_72 rfl (lv_at hl 1 rfl) ?_
    refine lv_aload_n hx hb d_Reckoner_same_73 rfl (lv_at hl 1 rfl) ?_
    refine va_get (D := D) (ci := 11) (v := .long n5) (C := "FilterGuard$Num") (T := F_Num) (N := 6) hx hb hts i_Num hown hK hP 2 rfl rfl 4 (by decide) (hts _ u_380) (fun _ h9 => h9) rfl d_Reckoner_same_74 ?_
    refine lv_aload_n hx hb d_Reckoner_same_77 rfl (lv_at hl 2 rfl) ?_
    refine va_get (D := D) (ci := 11) (v := .long o5) (C := "FilterGuard$Num") (T := F_Num) (N := 6) hx hb hts i_Num hown hK hP 1 rfl rfl 4 (by decide) (hts _ u_380) (fun _ h9 => h9) rfl d_Reckoner_same_78 ?_
    refine va_mmax_long hx hb (hml.trans hl.1.symm) hown (hts _ u_1287) (hts _ u_1228) (hts _ u_193) (hts _ u_1229) (Nat.le_of_ble_eq_true rfl) (Nat.le_of_ble_eq_true rfl) (Nat.le_of_ble_eq_true rfl) (Nat.le_of_ble_eq_true rfl) d_Reckoner_same_81 ?_
    refine fg_topl (y := fn_smax n5 o5) rfl ?_
    refine va_put (D := D) (ci := 11) (v := .long (fn_smax n5 o5)) (ty := .long) (C := "FilterGuard$Num") (T := F_Num) (N := 6) hx hb hts i_Num t_Num t_Num_ok n_Num hown hK hP hD hS 2 rfl rfl 4 (by decide) (hts _ u_380) (fun _ h9 => h9) rfl (by decide +kernel) rfl rfl (Nat.le_of_ble_eq_true rfl) d_Reckoner_same_84 (fun H locs hP hD hS => ?_)
    have hP : va_P D classes [(h0, .inr (8, [.ref a1, .ref a2, .ref a3, .ref a4, .ref a5])), (h2, .inr (11, [.long o1, .long o2, .long o3, .long o4, .long o5, .long o6])), (h1, .inr (11, [.long (n1 ||| o1), .long (n2 &&& o2), .long (fn_max n3 o3), .long (fn_min n4 o4), .long (fn_smax n5 o5), .long n6]))] H := hP
    have hD : va_D A [(h0, .inr (8, [.ref a1, .ref a2, .ref a3, .ref a4, .ref a5])), (h2, .inr (11, [.long o1, .long o2, .long o3, .long o4, .long o5, .long o6])), (h1, .inr (11, [.long (n1 ||| o1), .long (n2 &&& o2), .long (fn_max n3 o3), .long (fn_min n4 o4), .long (fn_smax n5 o5), .long n6]))] := hD
    refine lv_aload_n hx hb d_Reckoner_same_87 rfl (lv_at hl 1 rfl) ?_
    refine lv_aload_n hx hb d_Reckoner_same_88 rfl (lv_at hl 1 rfl) ?_
    refine va_get (D := D) (ci := 11) (v := .long n6) (C := "FilterGuard$Num") (T := F_Num) (N := 6) hx hb hts i_Num hown hK hP 2 rfl rfl 5 (by decide) (hts _ u_382) (fun _ h9 => h9) rfl d_Reckoner_same_89 ?_
    refine lv_aload_n hx hb d_Reckoner_same_92 rfl (lv_at hl 2 rfl) ?_
    refine va_get (D := D) (ci := 11) (v := .long o6) (C := "FilterGuard$Num") (T := F_Num) (N := 6) hx hb hts i_Num hown hK hP 1 rfl rfl 5 (by decide) (hts _ u_382) (fun _ h9 => h9) rfl d_Reckoner_same_93 ?_
    refine va_mmin_long hx hb (hml.trans hl.1.symm) hown (hts _ u_1288) (hts _ u_1231) (hts _ u_193) (hts _ u_1232) (Nat.le_of_ble_eq_true rfl) (Nat.le_of_ble_eq_true rfl) (Nat.le_of_ble_eq_true rfl) (Nat.le_of_ble_eq_true rfl) d_Reckoner_same_96 ?_
    refine fg_topl (y := fn_smin n6 o6) rfl ?_
    refine va_put (D := D) (ci := 11) (v := .long (fn_smin n6 o6)) (ty := .long) (C := "FilterGuard$Num") (T := F_Num) (N := 6) hx hb hts i_Num t_Num t_Num_ok n_Num hown hK hP hD hS 2 rfl rfl 5 (by decide) (hts _ u_382) (fun _ h9 => h9) rfl (by decide +kernel) rfl rfl (Nat.le_of_ble_eq_true rfl) d_Reckoner_same_99 (fun H locs hP hD hS => ?_)
    have hP : va_P D classes [(h0, .inr (8, [.ref a1, .ref a2, .ref a3, .ref a4, .ref a5])), (h2, .inr (11, [.long o1, .long o2, .long o3, .long o4, .long o5, .long o6])), (h1, .inr (11, [.long (n1 ||| o1), .long (n2 &&& o2), .long (fn_max n3 o3), .long (fn_min n4 o4), .long (fn_smax n5 o5), .long (fn_smin n6 o6)]))] H := hP
    have hD : va_D A [(h0, .inr (8, [.ref a1, .ref a2, .ref a3, .ref a4, .ref a5])), (h2, .inr (11, [.long o1, .long o2, .long o3, .long o4, .long o5, .long o6])), (h1, .inr (11, [.long (n1 ||| o1), .long (n2 &&& o2), .long (fn_max n3 o3), .long (fn_min n4 o4), .long (fn_smax n5 o5), .long (fn_smin n6 o6)]))] := hD
    refine lv_aload_n hx hb d_Reckoner_same_102 rfl (lv_at hl 2 rfl) ?_
    refine lv_aload_n hx hb d_Reckoner_same_103 rfl (lv_at hl 1 rfl) ?_
    refine fg_thenv (wr := [(h0, .inr (8, [.ref a1, .ref a2, .ref a3, .ref a4, .ref a5]))]) (fg_runV (C := "FilterGuard$Num") (As := [.ref h1]) (rest := []) (ci := 11) (q0 := 0) ⟨hx, hb, hml, hown, hts⟩ (c_Num_copy l D h2 o1 o2 o3 o4 o5 o6 h1 (n1 ||| o1) (n2 &&& o2) (fn_max n3 o3) (fn_min n4 o4) (fn_smax n5 o5) (fn_smin n6 o6) H.size) rfl (by show fg_nm y_Num_copy 1; decide +kernel) u_1189 u_1083 u_1084 u_187 u_1085 ⟨Nat.le_of_ble_eq_true rfl, Nat.le_of_ble_eq_true rfl⟩ hX (hP.sub (ws' := [(h2, .inr (11, [.long o1, .long o2, .long o3, .long o4, .long o5, .long o6])), (h1, .inr (11, [.long (n1 ||| o1), .long (n2 &&& o2), .long (fn_max n3 o3), .long (fn_min n4 o4), .long (fn_smax n5 o5), .long (fn_smin n6 o6)]))]) [1, 2] rfl) (hK.sub (tys' := []) [] rfl) (hD.sub (ws' := [(h2, .inr (11, [.long o1, .long o2, .long o3, .long o4, .long o5, .long o6])), (h1, .inr (11, [.long (n1 ||| o1), .long (n2 &&& o2), .long (fn_max n3 o3), .long (fn_min n4 o4), .long (fn_smax n5 o5), .long (fn_smin n6 o6)]))]) [1, 2] (by decide) rfl) rfl rfl rfl rfl hl.1 (Nat.le_of_ble_eq_true rfl) d_Reckoner_same_104 ⟨(Nat.le_of_ble_eq_true rfl), (Nat.le_of_ble_eq_true rfl)⟩) hP hD hK hS hA [1, 2] [0] rfl rfl (by decide) (by decide) (fun  u H locs hw104_6 hP hD hK hS => ?_)
    try dsimp only at hw104_6
    have hP : va_P D classes [(h0, .inr (8, [.ref a1, .ref a2, .ref a3, .ref a4, .ref a5])), (h2, .inr (11, [.long (n1 ||| o1), .long (n2 &&& o2), .long (fn_max n3 o3), .long (fn_min n4 o4), .long (fn_smax n5 o5), .long (fn_smin n6 o6)])), (h1, .inr (11, [.long (n1 ||| o1), .long (n2 &&& o2), .long (fn_max n3 o3), .long (fn_min n4 o4), .long (fn_smax n5 o5), .long (fn_smin n6 o6)]))] H := hP
    have hD : va_D A [(h0, .inr (8, [.ref a1, .ref a2, .ref a3, .ref a4, .ref a5])), (h2, .inr (11, [.long (n1 ||| o1), .long (n2 &&& o2), .long (fn_max n3 o3), .long (fn_min n4 o4), .long (fn_smax n5 o5), .long (fn_smin n6 o6)])), (h1, .inr (11, [.long (n1 ||| o1), .long (n2 &&& o2), .long (fn_max n3 o3), .long (fn_min n4 o4), .long (fn_smax n5 o5), .long (fn_smin n6 o6)]))] := hD
    have hK : va_K D classes [] s := hK
    refine W.widen (k := 0) (n := 0) (Nat.le_of_ble_eq_true rfl) (Nat.le_of_ble_eq_true rfl) ?_
    refine lv_iconst (v := 1) hx hb d_Reckoner_same_107 (by decide) ?_
    exact fg_retz ((n1 ||| o1), (n2 &&& o2), (fn_max n3 o3), (fn_min n4 o4), (fn_smax n5 o5), (fn_smin n6 o6), (n1 ||| o1), (n2 &&& o2), (fn_max n3 o3), (fn_min n4 o4), (fn_smax n5 o5), (fn_smin n6 o6)) hx hb hr hlocks rfl (Or.inl ⟨rfl, by unfold fn_same; (repeat rw [if_pos gc_1]); first | done | rfl | contradiction⟩) (hP.sub (ws' := [(h0, .inr (8, [.ref a1, .ref a2, .ref a3, .ref a4, .ref a5])), (h1, .inr (11, [.long (n1 ||| o1), .long (n2 &&& o2), .long (fn_max n3 o3), .long (fn_min n4 o4), .long (fn_smax n5 o5), .long (fn_smin n6 o6)])), (h2, .inr (11, [.long (n1 ||| o1), .long (n2 &&& o2), .long (fn_max n3 o3), .long (fn_min n4 o4), .long (fn_smax n5 o5), .long (fn_smin n6 o6)]))]) [0, 2, 1] rfl) (hK.sub (tys' := []) [] rfl) (hD.sub (ws' := [(h0, .inr (8, [.ref a1, .ref a2, .ref a3, .ref a4, .ref a5])), (h1, .inr (11, [.long (n1 ||| o1), .long (n2 &&& o2), .long (fn_max n3 o3), .long (fn_min n4 o4), .long (fn_smax n5 o5), .long (fn_smin n6 o6)])), (h2, .inr (11, [.long (n1 ||| o1), .long (n2 &&& o2), .long (fn_max n3 o3), .long (fn_min n4 o4), .long (fn_smax n5 o5), .long (fn_smin n6 o6)]))]) [0, 2, 1] (by decide) rfl) hS (Nat.le_of_ble_eq_true rfl) (Nat.le_of_ble_eq_true rfl) d_Reckoner_same_108
  · have gc_1 : ¬ (((n1 ^^^ o1) &&& (n2 ^^^ (-1))) &&& (o2 ^^^ (-1))) = 0 := fun z => c_1 ((lg_cmp_eq _ _).mpr z)
    refine lv_iconst (v := 0) hx hb d_Reckoner_same_32 (by decide) ?_
    exact fg_retz (n1, n2, n3, n4, n5, n6, o1, o2, o3, o4, o5, o6) hx hb hr hlocks rfl (Or.inr ⟨rfl, by unfold fn_same; (repeat rw [if_neg gc_1]); first | done | rfl | contradiction⟩) (hP.sub (ws' := [(h0, .inr (8, [.ref a1, .ref a2, .ref a3, .ref a4, .ref a5])), (h1, .inr (11, [.long n1, .long n2, .long n3, .long n4, .long n5, .long n6])), (h2, .inr (11, [.long o1, .long o2, .long o3, .long o4, .long o5, .long o6]))]) [0, 1, 2] rfl) (hK.sub (tys' := []) [] rfl) (hD.sub (ws' := [(h0, .inr (8, [.ref a1, .ref a2, .ref a3, .ref a4, .ref a5])), (h1, .inr (11, [.long n1, .long n2, .long n3, .long n4, .long n5, .long n6])), (h2, .inr (11, [.long o1, .long o2, .long o3, .long o4, .long o5, .long o6]))]) [0, 1, 2] (by decide) rfl) hS (Nat.le_of_ble_eq_true rfl) (Nat.le_of_ble_eq_true rfl) d_Reckoner_same_33
abbrev y_Reckoner_meet : MethodName := ⟨"FilterGuard$Reckoner", "meet", "(LFilterGuard$Num;LFilterGuard$Num;)Z"⟩
theorem d_Reckoner_meet_0 : decode prog_9_method_24_code 0 = .ok (.aload_n 1, 1) := by decide +kernel
theorem d_Reckoner_meet_1 : decode prog_9_method_24_code 1 = .ok (.invokevirtual 45, 3) := by decide +kernel
theorem d_Reckoner_meet_4 : decode prog_9_method_24_code 4 = .ok (.ifCond .eq 18, 3) := by decide +kernel
theorem d_Reckoner_meet_22 : decode prog_9_method_24_code 22 = .ok (.iconst 0, 1) := by decide +kernel
theorem d_Reckoner_meet_23 : decode prog_9_method_24_code 23 = .ok (.istore_n 3, 1) := by decide +kernel
theorem d_Reckoner_meet_24 : decode prog_9_method_24_code 24 = .ok (.aload_n 1, 1) := by decide +kernel
theorem d_Reckoner_meet_25 : decode prog_9_method_24_code 25 = .ok (.getfield 49, 3) := by decide +kernel
theorem d_Reckoner_meet_28 : decode prog_9_method_24_code 28 = .ok (.lstore 4, 2) := by decide +kernel
theorem d_Reckoner_meet_30 : decode prog_9_method_24_code 30 = .ok (.aload_n 1, 1) := by decide +kernel
theorem d_Reckoner_meet_31 : decode prog_9_method_24_code 31 = .ok (.getfield 49, 3) := by decide +kernel
theorem d_Reckoner_meet_34 : decode prog_9_method_24_code 34 = .ok (.aload_n 1, 1) := by decide +kernel
theorem d_Reckoner_meet_35 : decode prog_9_method_24_code 35 = .ok (.getfield 87, 3) := by decide +kernel
theorem d_Reckoner_meet_38 : decode prog_9_method_24_code 38 = .ok (.lor, 1) := by decide +kernel
theorem d_Reckoner_meet_39 : decode prog_9_method_24_code 39 = .ok (.aload_n 2, 1) := by decide +kernel
theorem d_Reckoner_meet_40 : decode prog_9_method_24_code 40 = .ok (.getfield 49, 3) := by decide +kernel
theorem d_Reckoner_meet_43 : decode prog_9_method_24_code 43 = .ok (.aload_n 2, 1) := by decide +kernel
theorem d_Reckoner_meet_44 : decode prog_9_method_24_code 44 = .ok (.getfield 87, 3) := by decide +kernel
theorem d_Reckoner_meet_47 : decode prog_9_method_24_code 47 = .ok (.lor, 1) := by decide +kernel
theorem d_Reckoner_meet_48 : decode prog_9_method_24_code 48 = .ok (.land, 1) := by decide +kernel
theorem d_Reckoner_meet_49 : decode prog_9_method_24_code 49 = .ok (.lconst 0, 1) := by decide +kernel
theorem d_Reckoner_meet_50 : decode prog_9_method_24_code 50 = .ok (.lcmp, 1) := by decide +kernel
theorem d_Reckoner_meet_51 : decode prog_9_method_24_code 51 = .ok (.ifCond .ne 5, 3) := by decide +kernel
theorem d_Reckoner_meet_56 : decode prog_9_method_24_code 56 = .ok (.aload_n 2, 1) := by decide +kernel
theorem d_Reckoner_meet_57 : decode prog_9_method_24_code 57 = .ok (.invokevirtual 45, 3) := by decide +kernel
theorem d_Reckoner_meet_60 : decode prog_9_method_24_code 60 = .ok (.ifCond .eq 40, 3) := by decide +kernel
theorem d_Reckoner_meet_100 : decode prog_9_method_24_code 100 = .ok (.iload_n 3, 1) := by decide +kernel
theorem d_Reckoner_meet_101 : decode prog_9_method_24_code 101 = .ok (.ifCond .eq 25, 3) := by decide +kernel
theorem d_Reckoner_meet_126 : decode prog_9_method_24_code 126 = .ok (.iconst 1, 1) := by decide +kernel
theorem d_Reckoner_meet_127 : decode prog_9_method_24_code 127 = .ok (.ireturn, 1) := by decide +kernel
theorem d_Reckoner_meet_63 : decode prog_9_method_24_code 63 = .ok (.aload_n 2, 1) := by decide +kernel
theorem d_Reckoner_meet_64 : decode prog_9_method_24_code 64 = .ok (.getfield 49, 3) := by decide +kernel
theorem d_Reckoner_meet_67 : decode prog_9_method_24_code 67 = .ok (.invokestatic 196, 3) := by decide +kernel
theorem u_1301 : Cond.methodLink "FilterGuard$Reckoner" 196 ⟨"java/lang/Long", "bitCount", "(J)I"⟩ ∈ fg_g := fg_in (List.mem_of_getElem? (i := 1301) (by decide +kernel)) rfl
theorem d_Reckoner_meet_70 : decode prog_9_method_24_code 70 = .ok (.iconst 1, 1) := by decide +kernel
theorem d_Reckoner_meet_71 : decode prog_9_method_24_code 71 = .ok (.if_icmp .ne 29, 3) := by decide +kernel
theorem d_Reckoner_meet_74 : decode prog_9_method_24_code 74 = .ok (.aload_n 1, 1) := by decide +kernel
theorem d_Reckoner_meet_75 : decode prog_9_method_24_code 75 = .ok (.aload_n 1, 1) := by decide +kernel
theorem d_Reckoner_meet_76 : decode prog_9_method_24_code 76 = .ok (.getfield 49, 3) := by decide +kernel
theorem d_Reckoner_meet_79 : decode prog_9_method_24_code 79 = .ok (.aload_n 2, 1) := by decide +kernel
theorem d_Reckoner_meet_80 : decode prog_9_method_24_code 80 = .ok (.getfield 49, 3) := by decide +kernel
theorem d_Reckoner_meet_83 : decode prog_9_method_24_code 83 = .ok (.lor, 1) := by decide +kernel
theorem d_Reckoner_meet_84 : decode prog_9_method_24_code 84 = .ok (.aload_n 1, 1) := by decide +kernel
theorem d_Reckoner_meet_85 : decode prog_9_method_24_code 85 = .ok (.getfield 87, 3) := by decide +kernel
theorem d_Reckoner_meet_88 : decode prog_9_method_24_code 88 = .ok (.aload_n 2, 1) := by decide +kernel
theorem d_Reckoner_meet_89 : decode prog_9_method_24_code 89 = .ok (.getfield 49, 3) := by decide +kernel
theorem d_Reckoner_meet_92 : decode prog_9_method_24_code 92 = .ok (.ldc2_w 90, 3) := by decide +kernel
theorem d_Reckoner_meet_95 : decode prog_9_method_24_code 95 = .ok (.lxor, 1) := by decide +kernel
theorem d_Reckoner_meet_96 : decode prog_9_method_24_code 96 = .ok (.land, 1) := by decide +kernel
theorem d_Reckoner_meet_97 : decode prog_9_method_24_code 97 = .ok (.invokevirtual 92, 3) := by decide +kernel
theorem d_Reckoner_meet_54 : decode prog_9_method_24_code 54 = .ok (.iconst 0, 1) := by decide +kernel
theorem d_Reckoner_meet_55 : decode prog_9_method_24_code 55 = .ok (.ireturn, 1) := by decide +kernel
theorem d_Reckoner_meet_7 : decode prog_9_method_24_code 7 = .ok (.aload_n 1, 1) := by decide +kernel
theorem d_Reckoner_meet_8 : decode prog_9_method_24_code 8 = .ok (.getfield 49, 3) := by decide +kernel
theorem d_Reckoner_meet_11 : decode prog_9_method_24_code 11 = .ok (.invokestatic 196, 3) := by decide +kernel
theorem d_Reckoner_meet_14 : decode prog_9_method_24_code 14 = .ok (.iconst 1, 1) := by decide +kernel
theorem d_Reckoner_meet_15 : decode prog_9_method_24_code 15 = .ok (.if_icmp .ne 7, 3) := by decide +kernel
theorem d_Reckoner_meet_18 : decode prog_9_method_24_code 18 = .ok (.iconst 1, 1) := by decide +kernel
theorem d_Reckoner_meet_19 : decode prog_9_method_24_code 19 = .ok (.goto 4, 3) := by decide +kernel
theorem d_Reckoner_meet_104 : decode prog_9_method_24_code 104 = .ok (.aload_n 2, 1) := by decide +kernel
theorem d_Reckoner_meet_105 : decode prog_9_method_24_code 105 = .ok (.aload_n 2, 1) := by decide +kernel
theorem d_Reckoner_meet_106 : decode prog_9_method_24_code 106 = .ok (.getfield 49, 3) := by decide +kernel
theorem d_Reckoner_meet_109 : decode prog_9_method_24_code 109 = .ok (.lload 4, 2) := by decide +kernel
theorem d_Reckoner_meet_111 : decode prog_9_method_24_code 111 = .ok (.lor, 1) := by decide +kernel
theorem d_Reckoner_meet_112 : decode prog_9_method_24_code 112 = .ok (.aload_n 2, 1) := by decide +kernel
theorem d_Reckoner_meet_113 : decode prog_9_method_24_code 113 = .ok (.getfield 87, 3) := by decide +kernel
theorem d_Reckoner_meet_116 : decode prog_9_method_24_code 116 = .ok (.lload 4, 2) := by decide +kernel
theorem d_Reckoner_meet_118 : decode prog_9_method_24_code 118 = .ok (.ldc2_w 90, 3) := by decide +kernel
theorem d_Reckoner_meet_121 : decode prog_9_method_24_code 121 = .ok (.lxor, 1) := by decide +kernel
theorem d_Reckoner_meet_122 : decode prog_9_method_24_code 122 = .ok (.land, 1) := by decide +kernel
theorem d_Reckoner_meet_123 : decode prog_9_method_24_code 123 = .ok (.invokevirtual 92, 3) := by decide +kernel
def rm_Reck_meet : Room := { frames := 2, cells := 0, slots := 0, locals := 60 }
abbrev q_Reck_meet (D : va_G) (h0 : Nat) (a1 : Nat) (a2 : Nat) (a3 : Nat) (a4 : Nat) (a5 : Nat) (h1 : Nat) (n1 : Int64) (n2 : Int64) (n3 : Int64) (n4 : Int64) (n5 : Int64) (n6 : Int64) (h2 : Nat) (o1 : Int64) (o2 : Int64) (o3 : Int64) (o4 : Int64) (o5 : Int64) (o6 : Int64) (A : Nat → Prop) : Array Value → Jvm.State → Outcome → Jvm.State → Prop := va_Qi (fun (r : Int32) (u : Int64 × Int64 × Int64 × Int64 × Int64 × Int64 × Int64 × Int64 × Int64 × Int64 × Int64 × Int64) => (r = 1 ∧ fn_meet n1 n2 n3 n4 n5 n6 o1 o2 o3 o4 o5 o6 = some ((u.1, u.2.1, u.2.2.1, u.2.2.2.1, u.2.2.2.2.1, u.2.2.2.2.2.1), (u.2.2.2.2.2.2.1, u.2.2.2.2.2.2.2.1, u.2.2.2.2.2.2.2.2.1, u.2.2.2.2.2.2.2.2.2.1, u.2.2.2.2.2.2.2.2.2.2.1, u.2.2.2.2.2.2.2.2.2.2.2))) ∨ (r = 0 ∧ fn_meet n1 n2 n3 n4 n5 n6 o1 o2 o3 o4 o5 o6 = none)) (fg_B D A (fun (u : Int64 × Int64 × Int64 × Int64 × Int64 × Int64 × Int64 × Int64 × Int64 × Int64 × Int64 × Int64) => [(h0, .inr (8, [.ref a1, .ref a2, .ref a3, .ref a4, .ref a5])), (h1, .inr (11, [.long u.1, .long u.2.1, .long u.2.2.1, .long u.2.2.2.1, .long u.2.2.2.2.1, .long u.2.2.2.2.2.1])), (h2, .inr (11, [.long u.2.2.2.2.2.2.1, .long u.2.2.2.2.2.2.2.1, .long u.2.2.2.2.2.2.2.2.1, .long u.2.2.2.2.2.2.2.2.2.1, .long u.2.2.2.2.2.2.2.2.2.2.1, .long u.2.2.2.2.2.2.2.2.2.2.2]))]) (fun (u : Int64 × Int64 × Int64 × Int64 × Int64 × Int64 × Int64 × Int64 × Int64 × Int64 × Int64 × Int64) => [])) A
set_option maxHeartbeats 4000000 in
set_option maxRecDepth 100000 in
theorem c_Reck_meet (l : Launch) (D : va_G) (h0 : Nat) (a1 : Nat) (a2 : Nat) (a3 : Nat) (a4 : Nat) (a5 : Nat) (h1 : Nat) (n1 : Int64) (n2 : Int64) (n3 : Int64) (n4 : Int64) (n5 : Int64) (n6 : Int64) (h2 : Nat) (o1 : Int64) (o2 : Int64) (o3 : Int64) (o4 : Int64) (o5 : Int64) (o6 : Int64) (sz : Nat) : Met l y_Reckoner_meet (fg_w y_Reckoner_meet prog_9_method_24_code 6 (some .boolean)) rm_Reck_meet (va_Pc [.ref h0, .ref h1, .ref h2] (fg_P D [] [(h0, .inr (8, [.ref a1, .ref a2, .ref a3, .ref a4, .ref a5])), (h1, .inr (11, [.long n1, .long n2, .long n3, .long n4, .long n5, .long n6])), (h2, .inr (11, [.long o1, .long o2, .long o3, .long o4, .long o5, .long o6]))] sz)) (q_Reck_meet D h0 a1 a2 a3 a4 a5 h1 n1 n2 n3 n4 n5 n6 h2 o1 o2 o3 o4 o5 o6 (va_A [(h0, .inr (8, [.ref a1, .ref a2, .ref a3, .ref a4, .ref a5])), (h1, .inr (11, [.long n1, .long n2, .long n3, .long n4, .long n5, .long n6])), (h2, .inr (11, [.long o1, .long o2, .long o3, .long o4, .long o5, .long o6]))] sz)) rm_Reck_meet.cells rm_Reck_meet.slots (va_A [(h0, .inr (8, [.ref a1, .ref a2, .ref a3, .ref a4, .ref a5])), (h1, .inr (11, [.long n1, .long n2, .long n3, .long n4, .long n5, .long n6])), (h2, .inr (11, [.long o1, .long o2, .long o3, .long o4, .long o5, .long o6]))] sz) := by
  refine fg_enter (fun A => q_Reck_meet D h0 a1 a2 a3 a4 a5 h1 n1 n2 n3 n4 n5 n6 h2 o1 o2 o3 o4 o5 o6 A) (by decide +kernel) (Nat.le_of_ble_eq_true rfl) ?_
  intro p e s m below meth c ls A hx hb hml hown hts hr hlocks hin hP hK hD hS hA hX hl
  have hl : lv_has ls 6 [(0, .ref h0), (1, .ref h1), (2, .ref h2)] := hl
  refine lv_aload_n hx hb d_Reckoner_meet_0 rfl (lv_at hl 1 rfl) ?_
  refine fg_theni (wr := [(h0, .inr (8, [.ref a1, .ref a2, .ref a3, .ref a4, .ref a5])), (h2, .inr (11, [.long o1, .long o2, .long o3, .long o4, .long o5, .long o6]))]) (fg_runV (C := "FilterGuard$Num") (As := []) (rest := []) (ci := 11) (q0 := 0) ⟨hx, hb, hml, hown, hts⟩ (c_Num_isExact l D h1 n1 n2 n3 n4 n5 n6 s.heap.size) rfl (by show fg_nm y_Num_isExact0 0; decide +kernel) u_1157 u_1158 u_1159 u_187 u_1160 ⟨Nat.le_of_ble_eq_true rfl, Nat.le_of_ble_eq_true rfl⟩ hX (hP.sub (ws' := [(h1, .inr (11, [.long n1, .long n2, .long n3, .long n4, .long n5, .long n6]))]) [1] rfl) (hK.sub (tys' := []) [] rfl) (hD.sub (ws' := [(h1, .inr (11, [.long n1, .long n2, .long n3, .long n4, .long n5, .long n6]))]) [1] (by decide) rfl) rfl rfl rfl rfl hl.1 (Nat.le_of_ble_eq_true rfl) d_Reckoner_meet_1 ⟨(Nat.le_of_ble_eq_true rfl), (Nat.le_of_ble_eq_true rfl)⟩) hP hD hK hS hA [1] [0, 2] rfl rfl (by decide) (by decide) (fun r1_1 u H locs hw1_0 hP hD hK hS => ?_)
  try dsimp only at hw1_0
  have hP : va_P D classes [(h0, .inr (8, [.ref a1, .ref a2, .ref a3, .ref a4, .ref a5])), (h2, .inr (11, [.long o1, .long o2, .long o3, .long o4, .long o5, .long o6])), (h1, .inr (11, [.long n1, .long n2, .long n3, .long n4, .long n5, .long n6]))] H := hP
  have hD : va_D A [(h0, .inr (8, [.ref a1, .ref a2, .ref a3, .ref a4, .ref a5])), (h2, .inr (11, [.long o1, .long o2, .long o3, .long o4, .long o5, .long o6])), (h1, .inr (11, [.long n1, .long n2, .long n3, .long n4, .long n5, .long n6]))] := hD
  have hK : va_K D classes [] s := hK
  refine W.widen (k := 0) (n := 0) (Nat.le_of_ble_eq_true rfl) (Nat.le_of_ble_eq_true rfl) ?_
  refine lv_if_eq (tgt := 22) hx hb d_Reckoner_meet_4 (by decide) (fun c_2 => ?_) (fun c_2 => ?_)
  · have gc_2 : ¬ (n2 = 0) := fg_ifz hw1_0 c_2
    refine lv_iconst (v := 0) hx hb d_Reckoner_meet_22 (by decide) ?_
    refine lv_istore_n (lv' := [(3, .int 0), (0, .ref h0), (1, .ref h1), (2, .ref h2)]) hx hb d_Reckoner_meet_23 rfl hl (by decide) rfl (fun ls hl => ?_)
    refine lv_aload_n hx hb d_Reckoner_meet_24 rfl (lv_at hl 2 rfl) ?_
    refine va_get (D := D) (ci := 11) (v := .long n1) (C := "FilterGuard$Num") (T := F_Num) (N := 6) hx hb hts i_Num hown hK hP 2 rfl rfl 0 (by decide) (hts _ u_368) (fun _ h9 => h9) rfl d_Reckoner_meet_25 ?_
    refine lv_lstore (lv' := [(4, .long n1), (3, .int 0), (0, .ref h0), (1, .ref h1), (2, .ref h2)]) hx hb d_Reckoner_meet_28 hl (by decide) rfl (fun ls hl => ?_)
    refine lv_aload_n hx hb d_Reckoner_meet_30 rfl (lv_at hl 3 rfl) ?_
    refine va_get (D := D) (ci := 11) (v := .long n1) (C := "FilterGuard$Num") (T := F_Num) (N := 6) hx hb hts i_Num hown hK hP 2 rfl rfl 0 (by decide) (hts _ u_368) (fun _ h9 => h9) rfl d_Reckoner_meet_31 ?_
    refine lv_aload_n hx hb d_Reckoner_meet_34 rfl (lv_at hl 3 rfl) ?_
    refine va_get (D := D) (ci := 11) (v := .long n2) (C := "FilterGuard$Num") (T := F_Num) (N := 6) hx hb hts i_Num hown hK hP 2 rfl rfl 1 (by decide) (hts _ u_372) (fun _ h9 => h9) rfl d_Reckoner_meet_35 ?_
    refine lv_lor hx hb d_Reckoner_meet_38 ?_
    refine lv_aload_n hx hb d_Reckoner_meet_39 rfl (lv_at hl 4 rfl) ?_
    refine va_get (D := D) (ci := 11) (v := .long o1) (C := "FilterGuard$Num") (T := F_Num) (N := 6) hx hb hts i_Num hown hK hP 1 rfl rfl 0 (by decide) (hts _ u_368) (fun _ h9 => h9) rfl d_Reckoner_meet_40 ?_
    refine lv_aload_n hx hb d_Reckoner_meet_43 rfl (lv_at hl 4 rfl) ?_
    refine va_get (D := D) (ci := 11) (v := .long o2) (C := "FilterGuard$Num") (T := F_Num) (N := 6) hx hb hts i_Num hown hK hP 1 rfl rfl 1 (by decide) (hts _ u_372) (fun _ h9 => h9) rfl d_Reckoner_meet_44 ?_
    refine lv_lor hx hb d_Reckoner_meet_47 ?_
    refine lv_land hx hb d_Reckoner_meet_48 ?_
    refine lv_lconst (v := 0) hx hb d_Reckoner_meet_49 (by decide) ?_
    refine W.lcmp hx hb d_Reckoner_meet_50 ?_
    refine lv_if_ne (tgt := 56) hx hb d_Reckoner_meet_51 (by decide) (fun c_3 => ?_) (fun c_3 => ?_)
    · have gc_3 : ¬ ((n1 ||| n2) &&& (o1 ||| o2)) = 0 := fun z => c_3 ((lg_cmp_eq _ _).mpr z)
      refine lv_aload_n hx hb d_Reckoner_meet_56 rfl (lv_at hl 4 rfl) ?_
      refine fg_theni (wr := [(h0, .inr (8, [.ref a1, .ref a2, .ref a3, .ref a4, .ref a5])), (h1, .inr (11, [.long n1, .long n2, .long n3, .long n4, .long n5, .long n6]))]) (fg_runV (C := "FilterGuard$Num") (As := []) (rest := []) (ci := 11) (q0 := 0) ⟨hx, hb, hml, hown, hts⟩ (c_Num_isExact l D h2 o1 o2 o3 o4 o5 o6 H.size) rfl (by show fg_nm y_Num_isExact0 0; decide +kernel) u_1157 u_1158 u_1159 u_187 u_1160 ⟨Nat.le_of_ble_eq_true rfl, Nat.le_of_ble_eq_true rfl⟩ hX (hP.sub (ws' := [(h2, .inr (11, [.long o1, .long o2, .long o3, .long o4, .long o5, .long o6]))]) [1] rfl) (hK.sub (tys' := []) [] rfl) (hD.sub (ws' := [(h2, .inr (11, [.long o1, .long o2, .long o3, .long o4, .long o5, .long o6]))]) [1] (by decide) rfl) rfl rfl rfl rfl hl.1 (Nat.le_of_ble_eq_true rfl) d_Reckoner_meet_57 ⟨(Nat.le_of_ble_eq_true rfl), (Nat.le_of_ble_eq_true rfl)⟩) hP hD hK hS hA [1] [0, 2] rfl rfl (by decide) (by decide) (fun r57_4 u H locs hw57_3 hP hD hK hS => ?_)
      try dsimp only at hw57_3
      have hP : va_P D classes [(h0, .inr (8, [.ref a1, .ref a2, .ref a3, .ref a4, .ref a5])), (h1, .inr (11, [.long n1, .long n2, .long n3, .long n4, .long n5, .long n6])), (h2, .inr (11, [.long o1, .long o2, .long o3, .long o4, .long o5, .long o6]))] H := hP
      have hD : va_D A [(h0, .inr (8, [.ref a1, .ref a2, .ref a3, .ref a4, .ref a5])), (h1, .inr (11, [.long n1, .long n2, .long n3, .long n4, .long n5, .long n6])), (h2, .inr (11, [.long o1, .long o2, .long o3, .long o4, .long o5, .long o6]))] := hD
      have hK : va_K D classes [] s := hK
      refine W.widen (k := 0) (n := 0) (Nat.le_of_ble_eq_true rfl) (Nat.le_of_ble_eq_true rfl) ?_
      refine lv_if_eq (tgt := 100) hx hb d_Reckoner_meet_60 (by decide) (fun c_5 => ?_) (fun c_5 => ?_)
      · have gc_5 : ¬ (o2 = 0) := fg_ifz hw57_3 c_5
        refine lv_iload_n hx hb d_Reckoner_meet_100 rfl (lv_at hl 1 rfl) ?_
        refine lv_if_eq (tgt := 126) hx hb d_Reckoner_meet_101 (by decide) (fun c_6 => ?_) (fun c_6 => absurd (by decide) c_6)
        refine lv_iconst (v := 1) hx hb d_Reckoner_meet_126 (by decide) ?_
        exact fg_retz (n1, n2, n3, n4, n5, n6, o1, o2, o3, o4, o5, o6) hx hb hr hlocks rfl (Or.inl ⟨rfl, by unfold fn_meet fn_meet1; (repeat rw [if_neg gc_2]); (repeat rw [if_neg gc_3]); (repeat rw [if_neg gc_5]); first | done | rfl | contradiction⟩) (hP.sub (ws' := [(h0, .inr (8, [.ref a1, .ref a2, .ref a3, .ref a4, .ref a5])), (h1, .inr (11, [.long n1, .long n2, .long n3, .long n4, .long n5, .long n6])), (h2, .inr (11, [.long o1, .long o2, .long o3, .long o4, .long o5, .long o6]))]) [0, 1, 2] rfl) (hK.sub (tys' := []) [] rfl) (hD.sub (ws' := [(h0, .inr (8, [.ref a1, .ref a2, .ref a3, .ref a4, .ref a5])), (h1, .inr (11, [.long n1, .long n2, .long n3, .long n4, .long n5, .long n6])), (h2, .inr (11, [.long o1, .long o2, .long o3, .long o4, .long o5, .long o6]))]) [0, 1, 2] (by decide) rfl) hS (Nat.le_of_ble_eq_true rfl) (Nat.le_of_ble_eq_true rfl) d_Reckoner_meet_127
      · have gc_5 : (o2 = 0) := fg_ifnz hw57_3 c_5
        refine lv_aload_n hx hb d_Reckoner_meet_63 rfl (lv_at hl 4 rfl) ?_
        refine va_get (D := D) (ci := 11) (v := .long o1) (C := "FilterGuard$Num") (T := F_Num) (N := 6) hx hb hts i_Num hown hK hP 2 rfl rfl 0 (by decide) (hts _ u_368) (fun _ h9 => h9) rfl d_Reckoner_meet_64 ?_
        refine fg_theni (wr := [(h0, .inr (8, [.ref a1, .ref a2, .ref a3, .ref a4, .ref a5])), (h1, .inr (11, [.long n1, .long n2, .long n3, .long n4, .long n5, .long n6])), (h2, .inr (11, [.long o1, .long o2, .long o3, .long o4, .long o5, .long o6]))]) (fg_runS (As := [.long o1]) (rest := []) ⟨hx, hb, hml, hown, hts⟩ (c_Long_bitCount l D o1 H.size) (by show fg_nm y_Long_bitCount 1; decide +kernel) u_1301 u_1167 u_202 u_1168 ⟨Nat.le_of_ble_eq_true rfl, Nat.le_of_ble_eq_true rfl⟩ hX (hP.sub (ws' := []) [] rfl) (hK.sub (tys' := []) [] rfl) (hD.sub (ws' := []) [] (by decide) rfl) rfl hl.1 (Nat.le_of_ble_eq_true rfl) d_Reckoner_meet_67 ⟨(Nat.le_of_ble_eq_true rfl), (Nat.le_of_ble_eq_true rfl)⟩) hP hD hK hS hA [] [0, 1, 2] rfl rfl (by decide) (by decide) (fun r67_7 u H locs hw67_6 hP hD hK hS => ?_)
        try dsimp only at hw67_6
        have hP : va_P D classes [(h0, .inr (8, [.ref a1, .ref a2, .ref a3, .ref a4, .ref a5])), (h1, .inr (11, [.long n1, .long n2, .long n3, .long n4, .long n5, .long n6])), (h2, .inr (11, [.long o1, .long o2, .long o3, .long o4, .long o5, .long o6]))] H := hP
        have hD : va_D A [(h0, .inr (8, [.ref a1, .ref a2, .ref a3, .ref a4, .ref a5])), (h1, .inr (11, [.long n1, .long n2, .long n3, .long n4, .long n5, .long n6])), (h2, .inr (11, [.long o1, .long o2, .long o3, .long o4, .long o5, .long o6]))] := hD
        have hK : va_K D classes [] s := hK
        refine W.widen (k := 0) (n := 0) (Nat.le_of_ble_eq_true rfl) (Nat.le_of_ble_eq_true rfl) ?_
        subst hw67_6
        have hP : va_P D classes [(h0, .inr (8, [.ref a1, .ref a2, .ref a3, .ref a4, .ref a5])), (h1, .inr (11, [.long n1, .long n2, .long n3, .long n4, .long n5, .long n6])), (h2, .inr (11, [.long o1, .long o2, .long o3, .long o4, .long o5, .long o6]))] H := hP
        have hD : va_D A [(h0, .inr (8, [.ref a1, .ref a2, .ref a3, .ref a4, .ref a5])), (h1, .inr (11, [.long n1, .long n2, .long n3, .long n4, .long n5, .long n6])), (h2, .inr (11, [.long o1, .long o2, .long o3, .long o4, .long o5, .long o6]))] := hD
        refine lv_iconst (v := 1) hx hb d_Reckoner_meet_70 (by decide) ?_
        refine lv_icmp_ne (tgt := 100) hx hb d_Reckoner_meet_71 (by decide) (fun c_8 => ?_) (fun c_8 => ?_)
        · refine lv_iload_n hx hb d_Reckoner_meet_100 rfl (lv_at hl 1 rfl) ?_
          refine lv_if_eq (tgt := 126) hx hb d_Reckoner_meet_101 (by decide) (fun c_9 => ?_) (fun c_9 => absurd (by decide) c_9)
          refine lv_iconst (v := 1) hx hb d_Reckoner_meet_126 (by decide) ?_
          exact fg_retz (n1, n2, n3, n4, n5, n6, o1, o2, o3, o4, o5, o6) hx hb hr hlocks rfl (Or.inl ⟨rfl, by unfold fn_meet fn_meet1; (repeat rw [if_neg gc_2]); (repeat rw [if_neg gc_3]); (repeat rw [if_pos gc_5]); (repeat rw [if_neg c_8]); first | done | rfl | contradiction⟩) (hP.sub (ws' := [(h0, .inr (8, [.ref a1, .ref a2, .ref a3, .ref a4, .ref a5])), (h1, .inr (11, [.long n1, .long n2, .long n3, .long n4, .long n5, .long n6])), (h2, .inr (11, [.long o1, .long o2, .long o3, .long o4, .long o5, .long o6]))]) [0, 1, 2] rfl) (hK.sub (tys' := []) [] rfl) (hD.sub (ws' := [(h0, .inr (8, [.ref a1, .ref a2, .ref a3, .ref a4, .ref a5])), (h1, .inr (11, [.long n1, .long n2, .long n3, .long n4, .long n5, .long n6])), (h2, .inr (11, [.long o1, .long o2, .long o3, .long o4, .long o5, .long o6]))]) [0, 1, 2] (by decide) rfl) hS (Nat.le_of_ble_eq_true rfl) (Nat.le_of_ble_eq_true rfl) d_Reckoner_meet_127
        · refine lv_aload_n hx hb d_Reckoner_meet_74 rfl (lv_at hl 3 rfl) ?_
          refine lv_aload_n hx hb d_Reckoner_meet_75 rfl (lv_at hl 3 rfl) ?_
          refine va_get (D := D) (ci := 11) (v := .long n1) (C := "FilterGuard$Num") (T := F_Num) (N := 6) hx hb hts i_Num hown hK hP 1 rfl rfl 0 (by decide) (hts _ u_368) (fun _ h9 => h9) rfl d_Reckoner_meet_76 ?_
          refine lv_aload_n hx hb d_Reckoner_meet_79 rfl (lv_at hl 4 rfl) ?_
          refine va_get (D := D) (ci := 11) (v := .long o1) (C := "FilterGuard$Num") (T := F_Num) (N := 6) hx hb hts i_Num hown hK hP 2 rfl rfl 0 (by decide) (hts _ u_368) (fun _ h9 => h9) rfl d_Reckoner_meet_80 ?_
          refine lv_lor hx hb d_Reckoner_meet_83 ?_
          refine lv_aload_n hx hb d_Reckoner_meet_84 rfl (lv_at hl 3 rfl) ?_
          refine va_get (D := D) (ci := 11) (v := .long n2) (C := "FilterGuard$Num") (T := F_Num) (N := 6) hx hb hts i_Num hown hK hP 1 rfl rfl 1 (by decide) (hts _ u_372) (fun _ h9 => h9) rfl d_Reckoner_meet_85 ?_
          refine lv_aload_n hx hb d_Reckoner_meet_88 rfl (lv_at hl 4 rfl) ?_
          refine va_get (D := D) (ci := 11) (v := .long o1) (C := "FilterGuard$Num") (T := F_Num) (N := 6) hx hb hts i_Num hown hK hP 2 rfl rfl 0 (by decide) (hts _ u_368) (fun _ h9 => h9) rfl d_Reckoner_meet_89 ?_
          refine lv_ldc2 hx hb hown (hts _ u_1139) d_Reckoner_meet_92 ?_
          refine lv_lxor hx hb d_Reckoner_meet_95 ?_
          refine lv_land hx hb d_Reckoner_meet_96 ?_
          refine fg_thenv (wr := [(h0, .inr (8, [.ref a1, .ref a2, .ref a3, .ref a4, .ref a5])), (h2, .inr (11, [.long o1, .long o2, .long o3, .long o4, .long o5, .long o6]))]) (fg_runV (C := "FilterGuard$Num") (As := [.long (n1 ||| o1), .long (n2 &&& (o1 ^^^ (-1)))]) (rest := []) (ci := 11) (q0 := 0) ⟨hx, hb, hml, hown, hts⟩ (c_Num_bits l D h1 n1 n2 n3 n4 n5 n6 (n1 ||| o1) (n2 &&& (o1 ^^^ (-1))) H.size) rfl (by show fg_nm y_Num_bits 2; decide +kernel) u_1140 u_1141 u_1142 u_187 u_1143 ⟨Nat.le_of_ble_eq_true rfl, Nat.le_of_ble_eq_true rfl⟩ hX (hP.sub (ws' := [(h1, .inr (11, [.long n1, .long n2, .long n3, .long n4, .long n5, .long n6]))]) [1] rfl) (hK.sub (tys' := []) [] rfl) (hD.sub (ws' := [(h1, .inr (11, [.long n1, .long n2, .long n3, .long n4, .long n5, .long n6]))]) [1] (by decide) rfl) rfl rfl rfl rfl hl.1 (Nat.le_of_ble_eq_true rfl) d_Reckoner_meet_97 ⟨(Nat.le_of_ble_eq_true rfl), (Nat.le_of_ble_eq_true rfl)⟩) hP hD hK hS hA [1] [0, 2] rfl rfl (by decide) (by decide) (fun  u H locs hw97_9 hP hD hK hS => ?_)
          try dsimp only at hw97_9
          have hP : va_P D classes [(h0, .inr (8, [.ref a1, .ref a2, .ref a3, .ref a4, .ref a5])), (h2, .inr (11, [.long o1, .long o2, .long o3, .long o4, .long o5, .long o6])), (h1, .inr (11, [.long (n1 ||| o1), .long (n2 &&& (o1 ^^^ (-1))), .long n3, .long n4, .long n5, .long n6]))] H := hP
          have hD : va_D A [(h0, .inr (8, [.ref a1, .ref a2, .ref a3, .ref a4, .ref a5])), (h2, .inr (11, [.long o1, .long o2, .long o3, .long o4, .long o5, .long o6])), (h1, .inr (11, [.long (n1 ||| o1), .long (n2 &&& (o1 ^^^ (-1))), .long n3, .long n4, .long n5, .long n6]))] := hD
          have hK : va_K D classes [] s := hK
          refine W.widen (k := 0) (n := 0) (Nat.le_of_ble_eq_true rfl) (Nat.le_of_ble_eq_true rfl) ?_
          refine lv_iload_n hx hb d_Reckoner_meet_100 rfl (lv_at hl 1 rfl) ?_
          refine lv_if_eq (tgt := 126) hx hb d_Reckoner_meet_101 (by decide) (fun c_11 => ?_) (fun c_11 => absurd (by decide) c_11)
          refine lv_iconst (v := 1) hx hb d_Reckoner_meet_126 (by decide) ?_
          exact fg_retz ((n1 ||| o1), (n2 &&& (o1 ^^^ (-1))), n3, n4, n5, n6, o1, o2, o3, o4, o5, o6) hx hb hr hlocks rfl (Or.inl ⟨rfl, by unfold fn_meet fn_meet1; (repeat rw [if_neg gc_2]); (repeat rw [if_neg gc_3]); (repeat rw [if_pos gc_5]); (repeat rw [if_pos c_8]); first | done | rfl | contradiction⟩) (hP.sub (ws' := [(h0, .inr (8, [.ref a1, .ref a2, .ref a3, .ref a4, .ref a5])), (h1, .inr (11, [.long (n1 ||| o1), .long (n2 &&& (o1 ^^^ (-1))), .long n3, .long n4, .long n5, .long n6])), (h2, .inr (11, [.long o1, .long o2, .long o3, .long o4, .long o5, .long o6]))]) [0, 2, 1] rfl) (hK.sub (tys' := []) [] rfl) (hD.sub (ws' := [(h0, .inr (8, [.ref a1, .ref a2, .ref a3, .ref a4, .ref a5])), (h1, .inr (11, [.long (n1 ||| o1), .long (n2 &&& (o1 ^^^ (-1))), .long n3, .long n4, .long n5, .long n6])), (h2, .inr (11, [.long o1, .long o2, .long o3, .long o4, .long o5, .long o6]))]) [0, 2, 1] (by decide) rfl) hS (Nat.le_of_ble_eq_true rfl) (Nat.le_of_ble_eq_true rfl) d_Reckoner_meet_127
    · have gc_3 : ((n1 ||| n2) &&& (o1 ||| o2)) = 0 := (lg_cmp_eq _ _).mp c_3
      refine lv_iconst (v := 0) hx hb d_Reckoner_meet_54 (by decide) ?_
      exact fg_retz (n1, n2, n3, n4, n5, n6, o1, o2, o3, o4, o5, o6) hx hb hr hlocks rfl (Or.inr ⟨rfl, by unfold fn_meet fn_meet1; (repeat rw [if_neg gc_2]); (repeat rw [if_pos gc_3]); first | done | rfl | contradiction⟩) (hP.sub (ws' := [(h0, .inr (8, [.ref a1, .ref a2, .ref a3, .ref a4, .ref a5])), (h1, .inr (11, [.long n1, .long n2, .long n3, .long n4, .long n5, .long n6])), (h2, .inr (11, [.long o1, .long o2, .long o3, .long o4, .long o5, .long o6]))]) [0, 2, 1] rfl) (hK.sub (tys' := []) [] rfl) (hD.sub (ws' := [(h0, .inr (8, [.ref a1, .ref a2, .ref a3, .ref a4, .ref a5])), (h1, .inr (11, [.long n1, .long n2, .long n3, .long n4, .long n5, .long n6])), (h2, .inr (11, [.long o1, .long o2, .long o3, .long o4, .long o5, .long o6]))]) [0, 2, 1] (by decide) rfl) hS (Nat.le_of_ble_eq_true rfl) (Nat.le_of_ble_eq_true rfl) d_Reckoner_meet_55
  · have gc_2 : (n2 = 0) := fg_ifnz hw1_0 c_2
    refine lv_aload_n hx hb d_Reckoner_meet_7 rfl (lv_at hl 1 rfl) ?_
    refine va_get (D := D) (ci := 11) (v := .long n1) (C := "FilterGuard$Num") (T := F_Num) (N := 6) hx hb hts i_Num hown hK hP 2 rfl rfl 0 (by decide) (hts _ u_368) (fun _ h9 => h9) rfl d_Reckoner_meet_8 ?_
    refine fg_theni (wr := [(h0, .inr (8, [.ref a1, .ref a2, .ref a3, .ref a4, .ref a5])), (h2, .inr (11, [.long o1, .long o2, .long o3, .long o4, .long o5, .long o6])), (h1, .inr (11, [.long n1, .long n2, .long n3, .long n4, .long n5, .long n6]))]) (fg_runS (As := [.long n1]) (rest := []) ⟨hx, hb, hml, hown, hts⟩ (c_Long_bitCount l D n1 H.size) (by show fg_nm y_Long_bitCount 1; decide +kernel) u_1301 u_1167 u_202 u_1168 ⟨Nat.le_of_ble_eq_true rfl, Nat.le_of_ble_eq_true rfl⟩ hX (hP.sub (ws' := []) [] rfl) (hK.sub (tys' := []) [] rfl) (hD.sub (ws' := []) [] (by decide) rfl) rfl hl.1 (Nat.le_of_ble_eq_true rfl) d_Reckoner_meet_11 ⟨(Nat.le_of_ble_eq_true rfl), (Nat.le_of_ble_eq_true rfl)⟩) hP hD hK hS hA [] [0, 1, 2] rfl rfl (by decide) (by decide) (fun r11_12 u H locs hw11_11 hP hD hK hS => ?_)
    try dsimp only at hw11_11
    have hP : va_P D classes [(h0, .inr (8, [.ref a1, .ref a2, .ref a3, .ref a4, .ref a5])), (h2, .inr (11, [.long o1, .long o2, .long o3, .long o4, .long o5, .long o6])), (h1, .inr (11, [.long n1, .long n2, .long n3, .long n4, .long n5, .long n6]))] H := hP
    have hD : va_D A [(h0, .inr (8, [.ref a1, .ref a2, .ref a3, .ref a4, .ref a5])), (h2, .inr (11, [.long o1, .long o2, .long o3, .long o4, .long o5, .long o6])), (h1, .inr (11, [.long n1, .long n2, .long n3, .long n4, .long n5, .long n6]))] := hD
    have hK : va_K D classes [] s := hK
    refine W.widen (k := 0) (n := 0) (Nat.le_of_ble_eq_true rfl) (Nat.le_of_ble_eq_true rfl) ?_
    subst hw11_11
    have hP : va_P D classes [(h0, .inr (8, [.ref a1, .ref a2, .ref a3, .ref a4, .ref a5])), (h2, .inr (11, [.long o1, .long o2, .long o3, .long o4, .long o5, .long o6])), (h1, .inr (11, [.long n1, .long n2, .long n3, .long n4, .long n5, .long n6]))] H := hP
    have hD : va_D A [(h0, .inr (8, [.ref a1, .ref a2, .ref a3, .ref a4, .ref a5])), (h2, .inr (11, [.long o1, .long o2, .long o3, .long o4, .long o5, .long o6])), (h1, .inr (11, [.long n1, .long n2, .long n3, .long n4, .long n5, .long n6]))] := hD
    refine lv_iconst (v := 1) hx hb d_Reckoner_meet_14 (by decide) ?_
    refine lv_icmp_ne (tgt := 22) hx hb d_Reckoner_meet_15 (by decide) (fun c_13 => ?_) (fun c_13 => ?_)
    · refine lv_iconst (v := 0) hx hb d_Reckoner_meet_22 (by decide) ?_
      refine lv_istore_n (lv' := [(3, .int 0), (0, .ref h0), (1, .ref h1), (2, .ref h2)]) hx hb d_Reckoner_meet_23 rfl hl (by decide) rfl (fun ls hl => ?_)
      refine lv_aload_n hx hb d_Reckoner_meet_24 rfl (lv_at hl 2 rfl) ?_
      refine va_get (D := D) (ci := 11) (v := .long n1) (C := "FilterGuard$Num") (T := F_Num) (N := 6) hx hb hts i_Num hown hK hP 2 rfl rfl 0 (by decide) (hts _ u_368) (fun _ h9 => h9) rfl d_Reckoner_meet_25 ?_
      refine lv_lstore (lv' := [(4, .long n1), (3, .int 0), (0, .ref h0), (1, .ref h1), (2, .ref h2)]) hx hb d_Reckoner_meet_28 hl (by decide) rfl (fun ls hl => ?_)
      refine lv_aload_n hx hb d_Reckoner_meet_30 rfl (lv_at hl 3 rfl) ?_
      refine va_get (D := D) (ci := 11) (v := .long n1) (C := "FilterGuard$Num") (T := F_Num) (N := 6) hx hb hts i_Num hown hK hP 2 rfl rfl 0 (by decide) (hts _ u_368) (fun _ h9 => h9) rfl d_Reckoner_meet_31 ?_
      refine lv_aload_n hx hb d_Reckoner_meet_34 rfl (lv_at hl 3 rfl) ?_
      refine va_get (D := D) (ci := 11) (v := .long n2) (C := "FilterGuard$Num") (T := F_Num) (N := 6) hx hb hts i_Num hown hK hP 2 rfl rfl 1 (by decide) (hts _ u_372) (fun _ h9 => h9) rfl d_Reckoner_meet_35 ?_
      refine lv_lor hx hb d_Reckoner_meet_38 ?_
      refine lv_aload_n hx hb d_Reckoner_meet_39 rfl (lv_at hl 4 rfl) ?_
      refine va_get (D := D) (ci := 11) (v := .long o1) (C := "FilterGuard$Num") (T := F_Num) (N := 6) hx hb hts i_Num hown hK hP 1 rfl rfl 0 (by decide) (hts _ u_368) (fun _ h9 => h9) rfl d_Reckoner_meet_40 ?_
      refine lv_aload_n hx hb d_Reckoner_meet_43 rfl (lv_at hl 4 rfl) ?_
      refine va_get (D := D) (ci := 11) (v := .long o2) (C := "FilterGuard$Num") (T := F_Num) (N := 6) hx hb hts i_Num hown hK hP 1 rfl rfl 1 (by decide) (hts _ u_372) (fun _ h9 => h9) rfl d_Reckoner_meet_44 ?_
      refine lv_lor hx hb d_Reckoner_meet_47 ?_
      refine lv_land hx hb d_Reckoner_meet_48 ?_
      refine lv_lconst (v := 0) hx hb d_Reckoner_meet_49 (by decide) ?_
      refine W.lcmp hx hb d_Reckoner_meet_50 ?_
      refine lv_if_ne (tgt := 56) hx hb d_Reckoner_meet_51 (by decide) (fun c_14 => ?_) (fun c_14 => ?_)
      · have gc_14 : ¬ ((n1 ||| n2) &&& (o1 ||| o2)) = 0 := fun z => c_14 ((lg_cmp_eq _ _).mpr z)
        refine lv_aload_n hx hb d_Reckoner_meet_56 rfl (lv_at hl 4 rfl) ?_
        refine fg_theni (wr := [(h0, .inr (8, [.ref a1, .ref a2, .ref a3, .ref a4, .ref a5])), (h1, .inr (11, [.long n1, .long n2, .long n3, .long n4, .long n5, .long n6]))]) (fg_runV (C := "FilterGuard$Num") (As := []) (rest := []) (ci := 11) (q0 := 0) ⟨hx, hb, hml, hown, hts⟩ (c_Num_isExact l D h2 o1 o2 o3 o4 o5 o6 H.size) rfl (by show fg_nm y_Num_isExact0 0; decide +kernel) u_1157 u_1158 u_1159 u_187 u_1160 ⟨Nat.le_of_ble_eq_true rfl, Nat.le_of_ble_eq_true rfl⟩ hX (hP.sub (ws' := [(h2, .inr (11, [.long o1, .long o2, .long o3, .long o4, .long o5, .long o6]))]) [1] rfl) (hK.sub (tys' := []) [] rfl) (hD.sub (ws' := [(h2, .inr (11, [.long o1, .long o2, .long o3, .long o4, .long o5, .long o6]))]) [1] (by decide) rfl) rfl rfl rfl rfl hl.1 (Nat.le_of_ble_eq_true rfl) d_Reckoner_meet_57 ⟨(Nat.le_of_ble_eq_true rfl), (Nat.le_of_ble_eq_true rfl)⟩) hP hD hK hS hA [1] [0, 2] rfl rfl (by decide) (by decide) (fun r57_15 u H locs hw57_14 hP hD hK hS => ?_)
        try dsimp only at hw57_14
        have hP : va_P D classes [(h0, .inr (8, [.ref a1, .ref a2, .ref a3, .ref a4, .ref a5])), (h1, .inr (11, [.long n1, .long n2, .long n3, .long n4, .long n5, .long n6])), (h2, .inr (11, [.long o1, .long o2, .long o3, .long o4, .long o5, .long o6]))] H := hP
        have hD : va_D A [(h0, .inr (8, [.ref a1, .ref a2, .ref a3, .ref a4, .ref a5])), (h1, .inr (11, [.long n1, .long n2, .long n3, .long n4, .long n5, .long n6])), (h2, .inr (11, [.long o1, .long o2, .long o3, .long o4, .long o5, .long o6]))] := hD
        have hK : va_K D classes [] s := hK
        refine W.widen (k := 0) (n := 0) (Nat.le_of_ble_eq_true rfl) (Nat.le_of_ble_eq_true rfl) ?_
        refine lv_if_eq (tgt := 100) hx hb d_Reckoner_meet_60 (by decide) (fun c_16 => ?_) (fun c_16 => ?_)
        · have gc_16 : ¬ (o2 = 0) := fg_ifz hw57_14 c_16
          refine lv_iload_n hx hb d_Reckoner_meet_100 rfl (lv_at hl 1 rfl) ?_
          refine lv_if_eq (tgt := 126) hx hb d_Reckoner_meet_101 (by decide) (fun c_17 => ?_) (fun c_17 => absurd (by decide) c_17)
          refine lv_iconst (v := 1) hx hb d_Reckoner_meet_126 (by decide) ?_
          exact fg_retz (n1, n2, n3, n4, n5, n6, o1, o2, o3, o4, o5, o6) hx hb hr hlocks rfl (Or.inl ⟨rfl, by unfold fn_meet fn_meet1; (repeat rw [if_pos gc_2]); (repeat rw [if_neg c_13]); (repeat rw [if_neg gc_14]); (repeat rw [if_neg gc_16]); first | done | rfl | contradiction⟩) (hP.sub (ws' := [(h0, .inr (8, [.ref a1, .ref a2, .ref a3, .ref a4, .ref a5])), (h1, .inr (11, [.long n1, .long n2, .long n3, .long n4, .long n5, .long n6])), (h2, .inr (11, [.long o1, .long o2, .long o3, .long o4, .long o5, .long o6]))]) [0, 1, 2] rfl) (hK.sub (tys' := []) [] rfl) (hD.sub (ws' := [(h0, .inr (8, [.ref a1, .ref a2, .ref a3, .ref a4, .ref a5])), (h1, .inr (11, [.long n1, .long n2, .long n3, .long n4, .long n5, .long n6])), (h2, .inr (11, [.long o1, .long o2, .long o3, .long o4, .long o5, .long o6]))]) [0, 1, 2] (by decide) rfl) hS (Nat.le_of_ble_eq_true rfl) (Nat.le_of_ble_eq_true rfl) d_Reckoner_meet_127
        · have gc_16 : (o2 = 0) := fg_ifnz hw57_14 c_16
          refine lv_aload_n hx hb d_Reckoner_meet_63 rfl (lv_at hl 4 rfl) ?_
          refine va_get (D := D) (ci := 11) (v := .long o1) (C := "FilterGuard$Num") (T := F_Num) (N := 6) hx hb hts i_Num hown hK hP 2 rfl rfl 0 (by decide) (hts _ u_368) (fun _ h9 => h9) rfl d_Reckoner_meet_64 ?_
          refine fg_theni (wr := [(h0, .inr (8, [.ref a1, .ref a2, .ref a3, .ref a4, .ref a5])), (h1, .inr (11, [.long n1, .long n2, .long n3, .long n4, .long n5, .long n6])), (h2, .inr (11, [.long o1, .long o2, .long o3, .long o4, .long o5, .long o6]))]) (fg_runS (As := [.long o1]) (rest := []) ⟨hx, hb, hml, hown, hts⟩ (c_Long_bitCount l D o1 H.size) (by show fg_nm y_Long_bitCount 1; decide +kernel) u_1301 u_1167 u_202 u_1168 ⟨Nat.le_of_ble_eq_true rfl, Nat.le_of_ble_eq_true rfl⟩ hX (hP.sub (ws' := []) [] rfl) (hK.sub (tys' := []) [] rfl) (hD.sub (ws' := []) [] (by decide) rfl) rfl hl.1 (Nat.le_of_ble_eq_true rfl) d_Reckoner_meet_67 ⟨(Nat.le_of_ble_eq_true rfl), (Nat.le_of_ble_eq_true rfl)⟩) hP hD hK hS hA [] [0, 1, 2] rfl rfl (by decide) (by decide) (fun r67_18 u H locs hw67_17 hP hD hK hS => ?_)
          try dsimp only at hw67_17
          have hP : va_P D classes [(h0, .inr (8, [.ref a1, .ref a2, .ref a3, .ref a4, .ref a5])), (h1, .inr (11, [.long n1, .long n2, .long n3, .long n4, .long n5, .long n6])), (h2, .inr (11, [.long o1, .long o2, .long o3, .long o4, .long o5, .long o6]))] H := hP
          have hD : va_D A [(h0, .inr (8, [.ref a1, .ref a2, .ref a3, .ref a4, .ref a5])), (h1, .inr (11, [.long n1, .long n2, .long n3, .long n4, .long n5, .long n6])), (h2, .inr (11, [.long o1, .long o2, .long o3, .long o4, .long o5, .long o6]))] := hD
          have hK : va_K D classes [] s := hK
          refine W.widen (k := 0) (n := 0) (Nat.le_of_ble_eq_true rfl) (Nat.le_of_ble_eq_true rfl) ?_
          subst hw67_17
          have hP : va_P D classes [(h0, .inr (8, [.ref a1, .ref a2, .ref a3, .ref a4, .ref a5])), (h1, .inr (11, [.long n1, .long n2, .long n3, .long n4, .long n5, .long n6])), (h2, .inr (11, [.long o1, .long o2, .long o3, .long o4, .long o5, .long o6]))] H := hP
          have hD : va_D A [(h0, .inr (8, [.ref a1, .ref a2, .ref a3, .ref a4, .ref a5])), (h1, .inr (11, [.long n1, .long n2, .long n3, .long n4, .long n5, .long n6])), (h2, .inr (11, [.long o1, .long o2, .long o3, .long o4, .long o5, .long o6]))] := hD
          refine lv_iconst (v := 1) hx hb d_Reckoner_meet_70 (by decide) ?_
          refine lv_icmp_ne (tgt := 100) hx hb d_Reckoner_meet_71 (by decide) (fun c_19 => ?_) (fun c_19 => ?_)
          · refine lv_iload_n hx hb d_Reckoner_meet_100 rfl (lv_at hl 1 rfl) ?_
            refine lv_if_eq (tgt := 126) hx hb d_Reckoner_meet_101 (by decide) (fun c_20 => ?_) (fun c_20 => absurd (by decide) c_20)
            refine lv_iconst (v := 1) hx hb d_Reckoner_meet_126 (by decide) ?_
            exact fg_retz (n1, n2, n3, n4, n5, n6, o1, o2, o3, o4, o5, o6) hx hb hr hlocks rfl (Or.inl ⟨rfl, by unfold fn_meet fn_meet1; (repeat rw [if_pos gc_2]); (repeat rw [if_neg c_13]); (repeat rw [if_neg gc_14]); (repeat rw [if_pos gc_16]); (repeat rw [if_neg c_19]); first | done | rfl | contradiction⟩) (hP.sub (ws' := [(h0, .inr (8, [.ref a1, .ref a2, .ref a3, .ref a4, .ref a5])), (h1, .inr (11, [.long n1, .long n2, .long n3, .long n4, .long n5, .long n6])), (h2, .inr (11, [.long o1, .long o2, .long o3, .long o4, .long o5, .long o6]))]) [0, 1, 2] rfl) (hK.sub (tys' := []) [] rfl) (hD.sub (ws' := [(h0, .inr (8, [.ref a1, .ref a2, .ref a3, .ref a4, .ref a5])), (h1, .inr (11, [.long n1, .long n2, .long n3, .long n4, .long n5, .long n6])), (h2, .inr (11, [.long o1, .long o2, .long o3, .long o4, .long o5, .long o6]))]) [0, 1, 2] (by decide) rfl) hS (Nat.le_of_ble_eq_true rfl) (Nat.le_of_ble_eq_true rfl) d_Reckoner_meet_127
          · refine lv_aload_n hx hb d_Reckoner_meet_74 rfl (lv_at hl 3 rfl) ?_
            refine lv_aload_n hx hb d_Reckoner_meet_75 rfl (lv_at hl 3 rfl) ?_
            refine va_get (D := D) (ci := 11) (v := .long n1) (C := "FilterGuard$Num") (T := F_Num) (N := 6) hx hb hts i_Num hown hK hP 1 rfl rfl 0 (by decide) (hts _ u_368) (fun _ h9 => h9) rfl d_Reckoner_meet_76 ?_
            refine lv_aload_n hx hb d_Reckoner_meet_79 rfl (lv_at hl 4 rfl) ?_
            refine va_get (D := D) (ci := 11) (v := .long o1) (C := "FilterGuard$Num") (T := F_Num) (N := 6) hx hb hts i_Num hown hK hP 2 rfl rfl 0 (by decide) (hts _ u_368) (fun _ h9 => h9) rfl d_Reckoner_meet_80 ?_
            refine lv_lor hx hb d_Reckoner_meet_83 ?_
            refine lv_aload_n hx hb d_Reckoner_meet_84 rfl (lv_at hl 3 rfl) ?_
            refine va_get (D := D) (ci := 11) (v := .long n2) (C := "FilterGuard$Num") (T := F_Num) (N := 6) hx hb hts i_Num hown hK hP 1 rfl rfl 1 (by decide) (hts _ u_372) (fun _ h9 => h9) rfl d_Reckoner_meet_85 ?_
            refine lv_aload_n hx hb d_Reckoner_meet_88 rfl (lv_at hl 4 rfl) ?_
            refine va_get (D := D) (ci := 11) (v := .long o1) (C := "FilterGuard$Num") (T := F_Num) (N := 6) hx hb hts i_Num hown hK hP 2 rfl rfl 0 (by decide) (hts _ u_368) (fun _ h9 => h9) rfl d_Reckoner_meet_89 ?_
            refine lv_ldc2 hx hb hown (hts _ u_1139) d_Reckoner_meet_92 ?_
            refine lv_lxor hx hb d_Reckoner_meet_95 ?_
            refine lv_land hx hb d_Reckoner_meet_96 ?_
            refine fg_thenv (wr := [(h0, .inr (8, [.ref a1, .ref a2, .ref a3, .ref a4, .ref a5])), (h2, .inr (11, [.long o1, .long o2, .long o3, .long o4, .long o5, .long o6]))]) (fg_runV (C := "FilterGuard$Num") (As := [.long (n1 ||| o1), .long (n2 &&& (o1 ^^^ (-1)))]) (rest := []) (ci := 11) (q0 := 0) ⟨hx, hb, hml, hown, hts⟩ (c_Num_bits l D h1 n1 n2 n3 n4 n5 n6 (n1 ||| o1) (n2 &&& (o1 ^^^ (-1))) H.size) rfl (by show fg_nm y_Num_bits 2; decide +kernel) u_1140 u_1141 u_1142 u_187 u_1143 ⟨Nat.le_of_ble_eq_true rfl, Nat.le_of_ble_eq_true rfl⟩ hX (hP.sub (ws' := [(h1, .inr (11, [.long n1, .long n2, .long n3, .long n4, .long n5, .long n6]))]) [1] rfl) (hK.sub (tys' := []) [] rfl) (hD.sub (ws' := [(h1, .inr (11, [.long n1, .long n2, .long n3, .long n4, .long n5, .long n6]))]) [1] (by decide) rfl) rfl rfl rfl rfl hl.1 (Nat.le_of_ble_eq_true rfl) d_Reckoner_meet_97 ⟨(Nat.le_of_ble_eq_true rfl), (Nat.le_of_ble_eq_true rfl)⟩) hP hD hK hS hA [1] [0, 2] rfl rfl (by decide) (by decide) (fun  u H locs hw97_20 hP hD hK hS => ?_)
            try dsimp only at hw97_20
            have hP : va_P D classes [(h0, .inr (8, [.ref a1, .ref a2, .ref a3, .ref a4, .ref a5])), (h2, .inr (11, [.long o1, .long o2, .long o3, .long o4, .long o5, .long o6])), (h1, .inr (11, [.long (n1 ||| o1), .long (n2 &&& (o1 ^^^ (-1))), .long n3, .long n4, .long n5, .long n6]))] H := hP
            have hD : va_D A [(h0, .inr (8, [.ref a1, .ref a2, .ref a3, .ref a4, .ref a5])), (h2, .inr (11, [.long o1, .long o2, .long o3, .long o4, .long o5, .long o6])), (h1, .inr (11, [.long (n1 ||| o1), .long (n2 &&& (o1 ^^^ (-1))), .long n3, .long n4, .long n5, .long n6]))] := hD
            have hK : va_K D classes [] s := hK
            refine W.widen (k := 0) (n := 0) (Nat.le_of_ble_eq_true rfl) (Nat.le_of_ble_eq_true rfl) ?_
            refine lv_iload_n hx hb d_Reckoner_meet_100 rfl (lv_at hl 1 rfl) ?_
            refine lv_if_eq (tgt := 126) hx hb d_Reckoner_meet_101 (by decide) (fun c_22 => ?_) (fun c_22 => absurd (by decide) c_22)
            refine lv_iconst (v := 1) hx hb d_Reckoner_meet_126 (by decide) ?_
            exact fg_retz ((n1 ||| o1), (n2 &&& (o1 ^^^ (-1))), n3, n4, n5, n6, o1, o2, o3, o4, o5, o6) hx hb hr hlocks rfl (Or.inl ⟨rfl, by unfold fn_meet fn_meet1; (repeat rw [if_pos gc_2]); (repeat rw [if_neg c_13]); (repeat rw [if_neg gc_14]); (repeat rw [if_pos gc_16]); (repeat rw [if_pos c_19]); first | done | rfl | contradiction⟩) (hP.sub (ws' := [(h0, .inr (8, [.ref a1, .ref a2, .ref a3, .ref a4, .ref a5])), (h1, .inr (11, [.long (n1 ||| o1), .long (n2 &&& (o1 ^^^ (-1))), .long n3, .long n4, .long n5, .long n6])), (h2, .inr (11, [.long o1, .long o2, .long o3, .long o4, .long o5, .long o6]))]) [0, 2, 1] rfl) (hK.sub (tys' := []) [] rfl) (hD.sub (ws' := [(h0, .inr (8, [.ref a1, .ref a2, .ref a3, .ref a4, .ref a5])), (h1, .inr (11, [.long (n1 ||| o1), .long (n2 &&& (o1 ^^^ (-1))), .long n3, .long n4, .long n5, .long n6])), (h2, .inr (11, [.long o1, .long o2, .long o3, .long o4, .long o5, .long o6]))]) [0, 2, 1] (by decide) rfl) hS (Nat.le_of_ble_eq_true rfl) (Nat.le_of_ble_eq_true rfl) d_Reckoner_meet_127
      · have gc_14 : ((n1 ||| n2) &&& (o1 ||| o2)) = 0 := (lg_cmp_eq _ _).mp c_14
        refine lv_iconst (v := 0) hx hb d_Reckoner_meet_54 (by decide) ?_
        exact fg_retz (n1, n2, n3, n4, n5, n6, o1, o2, o3, o4, o5, o6) hx hb hr hlocks rfl (Or.inr ⟨rfl, by unfold fn_meet fn_meet1; (repeat rw [if_pos gc_2]); (repeat rw [if_neg c_13]); (repeat rw [if_pos gc_14]); first | done | rfl | contradiction⟩) (hP.sub (ws' := [(h0, .inr (8, [.ref a1, .ref a2, .ref a3, .ref a4, .ref a5])), (h1, .inr (11, [.long n1, .long n2, .long n3, .long n4, .long n5, .long n6])), (h2, .inr (11, [.long o1, .long o2, .long o3, .long o4, .long o5, .long o6]))]) [0, 2, 1] rfl) (hK.sub (tys' := []) [] rfl) (hD.sub (ws' := [(h0, .inr (8, [.ref a1, .ref a2, .ref a3, .ref a4, .ref a5])), (h1, .inr (11, [.long n1, .long n2, .long n3, .long n4, .long n5, .long n6])), (h2, .inr (11, [.long o1, .long o2, .long o3, .long o4, .long o5, .long o6]))]) [0, 2, 1] (by decide) rfl) hS (Nat.le_of_ble_eq_true rfl) (Nat.le_of_ble_eq_true rfl) d_Reckoner_meet_55
    · refine lv_iconst (v := 1) hx hb d_Reckoner_meet_18 (by decide) ?_
      refine lv_goto (tgt := 23) hx hb d_Reckoner_meet_19 (by decide) ?_
      refine lv_istore_n (lv' := [(3, .int 1), (0, .ref h0), (1, .ref h1), (2, .ref h2)]) hx hb d_Reckoner_meet_23 rfl hl (by decide) rfl (fun ls hl => ?_)
      refine lv_aload_n hx hb d_Reckoner_meet_24 rfl (lv_at hl 2 rfl) ?_
      refine va_get (D := D) (ci := 11) (v := .long n1) (C := "FilterGuard$Num") (T := F_Num) (N := 6) hx hb hts i_Num hown hK hP 2 rfl rfl 0 (by decide) (hts _ u_368) (fun _ h9 => h9) rfl d_Reckoner_meet_25 ?_
      refine lv_lstore (lv' := [(4, .long n1), (3, .int 1), (0, .ref h0), (1, .ref h1), (2, .ref h2)]) hx hb d_Reckoner_meet_28 hl (by decide) rfl (fun ls hl => ?_)
      refine lv_aload_n hx hb d_Reckoner_meet_30 rfl (lv_at hl 3 rfl) ?_
      refine va_get (D := D) (ci := 11) (v := .long n1) (C := "FilterGuard$Num") (T := F_Num) (N := 6) hx hb hts i_Num hown hK hP 2 rfl rfl 0 (by decide) (hts _ u_368) (fun _ h9 => h9) rfl d_Reckoner_meet_31 ?_
      refine lv_aload_n hx hb d_Reckoner_meet_34 rfl (lv_at hl 3 rfl) ?_
      refine va_get (D := D) (ci := 11) (v := .long n2) (C := "FilterGuard$Num") (T := F_Num) (N := 6) hx hb hts i_Num hown hK hP 2 rfl rfl 1 (by decide) (hts _ u_372) (fun _ h9 => h9) rfl d_Reckoner_meet_35 ?_
      refine lv_lor hx hb d_Reckoner_meet_38 ?_
      refine lv_aload_n hx hb d_Reckoner_meet_39 rfl (lv_at hl 4 rfl) ?_
      refine va_get (D := D) (ci := 11) (v := .long o1) (C := "FilterGuard$Num") (T := F_Num) (N := 6) hx hb hts i_Num hown hK hP 1 rfl rfl 0 (by decide) (hts _ u_368) (fun _ h9 => h9) rfl d_Reckoner_meet_40 ?_
      refine lv_aload_n hx hb d_Reckoner_meet_43 rfl (lv_at hl 4 rfl) ?_
      refine va_get (D := D) (ci := 11) (v := .long o2) (C := "FilterGuard$Num") (T := F_Num) (N := 6) hx hb hts i_Num hown hK hP 1 rfl rfl 1 (by decide) (hts _ u_372) (fun _ h9 => h9) rfl d_Reckoner_meet_44 ?_
      refine lv_lor hx hb d_Reckoner_meet_47 ?_
      refine lv_land hx hb d_Reckoner_meet_48 ?_
      refine lv_lconst (v := 0) hx hb d_Reckoner_meet_49 (by decide) ?_
      refine W.lcmp hx hb d_Reckoner_meet_50 ?_
      refine lv_if_ne (tgt := 56) hx hb d_Reckoner_meet_51 (by decide) (fun c_23 => ?_) (fun c_23 => ?_)
      · have gc_23 : ¬ ((n1 ||| n2) &&& (o1 ||| o2)) = 0 := fun z => c_23 ((lg_cmp_eq _ _).mpr z)
        refine lv_aload_n hx hb d_Reckoner_meet_56 rfl (lv_at hl 4 rfl) ?_
        refine fg_theni (wr := [(h0, .inr (8, [.ref a1, .ref a2, .ref a3, .ref a4, .ref a5])), (h1, .inr (11, [.long n1, .long n2, .long n3, .long n4, .long n5, .long n6]))]) (fg_runV (C := "FilterGuard$Num") (As := []) (rest := []) (ci := 11) (q0 := 0) ⟨hx, hb, hml, hown, hts⟩ (c_Num_isExact l D h2 o1 o2 o3 o4 o5 o6 H.size) rfl (by show fg_nm y_Num_isExact0 0; decide +kernel) u_1157 u_1158 u_1159 u_187 u_1160 ⟨Nat.le_of_ble_eq_true rfl, Nat.le_of_ble_eq_true rfl⟩ hX (hP.sub (ws' := [(h2, .inr (11, [.long o1, .long o2, .long o3, .long o4, .long o5, .long o6]))]) [1] rfl) (hK.sub (tys' := []) [] rfl) (hD.sub (ws' := [(h2, .inr (11, [.long o1, .long o2, .long o3, .long o4, .long o5, .long o6]))]) [1] (by decide) rfl) rfl rfl rfl rfl hl.1 (Nat.le_of_ble_eq_true rfl) d_Reckoner_meet_57 ⟨(Nat.le_of_ble_eq_true rfl), (Nat.le_of_ble_eq_true rfl)⟩) hP hD hK hS hA [1] [0, 2] rfl rfl (by decide) (by decide) (fun r57_24 u H locs hw57_23 hP hD hK hS => ?_)
        try dsimp only at hw57_23
        have hP : va_P D classes [(h0, .inr (8, [.ref a1, .ref a2, .ref a3, .ref a4, .ref a5])), (h1, .inr (11, [.long n1, .long n2, .long n3, .long n4, .long n5, .long n6])), (h2, .inr (11, [.long o1, .long o2, .long o3, .long o4, .long o5, .long o6]))] H := hP
        have hD : va_D A [(h0, .inr (8, [.ref a1, .ref a2, .ref a3, .ref a4, .ref a5])), (h1, .inr (11, [.long n1, .long n2, .long n3, .long n4, .long n5, .long n6])), (h2, .inr (11, [.long o1, .long o2, .long o3, .long o4, .long o5, .long o6]))] := hD
        have hK : va_K D classes [] s := hK
        refine W.widen (k := 0) (n := 0) (Nat.le_of_ble_eq_true rfl) (Nat.le_of_ble_eq_true rfl) ?_
        refine lv_if_eq (tgt := 100) hx hb d_Reckoner_meet_60 (by decide) (fun c_25 => ?_) (fun c_25 => ?_)
        · have gc_25 : ¬ (o2 = 0) := fg_ifz hw57_23 c_25
          refine lv_iload_n hx hb d_Reckoner_meet_100 rfl (lv_at hl 1 rfl) ?_
          refine lv_if_eq (tgt := 126) hx hb d_Reckoner_meet_101 (by decide) (fun c_26 => absurd c_26 (by decide)) (fun c_26 => ?_)
          refine lv_aload_n hx hb d_Reckoner_meet_104 rfl (lv_at hl 4 rfl) ?_
          refine lv_aload_n hx hb d_Reckoner_meet_105 rfl (lv_at hl 4 rfl) ?_
          refine va_get (D := D) (ci := 11) (v := .long o1) (C := "FilterGuard$Num") (T := F_Num) (N := 6) hx hb hts i_Num hown hK hP 2 rfl rfl 0 (by decide) (hts _ u_368) (fun _ h9 => h9) rfl d_Reckoner_meet_106 ?_
          refine lv_lload hx hb d_Reckoner_meet_109 (lv_at hl 0 rfl) ?_
          refine lv_lor hx hb d_Reckoner_meet_111 ?_
          refine lv_aload_n hx hb d_Reckoner_meet_112 rfl (lv_at hl 4 rfl) ?_
          refine va_get (D := D) (ci := 11) (v := .long o2) (C := "FilterGuard$Num") (T := F_Num) (N := 6) hx hb hts i_Num hown hK hP 2 rfl rfl 1 (by decide) (hts _ u_372) (fun _ h9 => h9) rfl d_Reckoner_meet_113 ?_
          refine lv_lload hx hb d_Reckoner_meet_116 (lv_at hl 0 rfl) ?_
          refine lv_ldc2 hx hb hown (hts _ u_1139) d_Reckoner_meet_118 ?_
          refine lv_lxor hx hb d_Reckoner_meet_121 ?_
          refine lv_land hx hb d_Reckoner_meet_122 ?_
          refine fg_thenv (wr := [(h0, .inr (8, [.ref a1, .ref a2, .ref a3, .ref a4, .ref a5])), (h1, .inr (11, [.long n1, .long n2, .long n3, .long n4, .long n5, .long n6]))]) (fg_runV (C := "FilterGuard$Num") (As := [.long (o1 ||| n1), .long (o2 &&& (n1 ^^^ (-1)))]) (rest := []) (ci := 11) (q0 := 0) ⟨hx, hb, hml, hown, hts⟩ (c_Num_bits l D h2 o1 o2 o3 o4 o5 o6 (o1 ||| n1) (o2 &&& (n1 ^^^ (-1))) H.size) rfl (by show fg_nm y_Num_bits 2; decide +kernel) u_1140 u_1141 u_1142 u_187 u_1143 ⟨Nat.le_of_ble_eq_true rfl, Nat.le_of_ble_eq_true rfl⟩ hX (hP.sub (ws' := [(h2, .inr (11, [.long o1, .long o2, .long o3, .long o4, .long o5, .long o6]))]) [2] rfl) (hK.sub (tys' := []) [] rfl) (hD.sub (ws' := [(h2, .inr (11, [.long o1, .long o2, .long o3, .long o4, .long o5, .long o6]))]) [2] (by decide) rfl) rfl rfl rfl rfl hl.1 (Nat.le_of_ble_eq_true rfl) d_Reckoner_meet_123 ⟨(Nat.le_of_ble_eq_true rfl), (Nat.le_of_ble_eq_true rfl)⟩) hP hD hK hS hA [2] [0, 1] rfl rfl (by decide) (by decide) (fun  u H locs hw123_26 hP hD hK hS => ?_)
          try dsimp only at hw123_26
          have hP : va_P D classes [(h0, .inr (8, [.ref a1, .ref a2, .ref a3, .ref a4, .ref a5])), (h1, .inr (11, [.long n1, .long n2, .long n3, .long n4, .long n5, .long n6])), (h2, .inr (11, [.long (o1 ||| n1), .long (o2 &&& (n1 ^^^ (-1))), .long o3, .long o4, .long o5, .long o6]))] H := hP
          have hD : va_D A [(h0, .inr (8, [.ref a1, .ref a2, .ref a3, .ref a4, .ref a5])), (h1, .inr (11, [.long n1, .long n2, .long n3, .long n4, .long n5, .long n6])), (h2, .inr (11, [.long (o1 ||| n1), .long (o2 &&& (n1 ^^^ (-1))), .long o3, .long o4, .long o5, .long o6]))] := hD
          have hK : va_K D classes [] s := hK
          refine W.widen (k := 0) (n := 0) (Nat.le_of_ble_eq_true rfl) (Nat.le_of_ble_eq_true rfl) ?_
          refine lv_iconst (v := 1) hx hb d_Reckoner_meet_126 (by decide) ?_
          exact fg_retz (n1, n2, n3, n4, n5, n6, (o1 ||| n1), (o2 &&& (n1 ^^^ (-1))), o3, o4, o5, o6) hx hb hr hlocks rfl (Or.inl ⟨rfl, by unfold fn_meet fn_meet1; (repeat rw [if_pos gc_2]); (repeat rw [if_pos c_13]); (repeat rw [if_neg gc_23]); (repeat rw [if_neg gc_25]); first | done | rfl | contradiction⟩) (hP.sub (ws' := [(h0, .inr (8, [.ref a1, .ref a2, .ref a3, .ref a4, .ref a5])), (h1, .inr (11, [.long n1, .long n2, .long n3, .long n4, .long n5, .long n6])), (h2, .inr (11, [.long (o1 ||| n1), .long (o2 &&& (n1 ^^^ (-1))), .long o3, .long o4, .long o5, .long o6]))]) [0, 1, 2] rfl) (hK.sub (tys' := []) [] rfl) (hD.sub (ws' := [(h0, .inr (8, [.ref a1, .ref a2, .ref a3, .ref a4, .ref a5])), (h1, .inr (11, [.long n1, .long n2, .long n3, .long n4, .long n5, .long n6])), (h2, .inr (11, [.long (o1 ||| n1), .long (o2 &&& (n1 ^^^ (-1))), .long o3, .long o4, .long o5, .long o6]))]) [0, 1, 2] (by decide) rfl) hS (Nat.le_of_ble_eq_true rfl) (Nat.le_of_ble_eq_true rfl) d_Reckoner_meet_127
        · have gc_25 : (o2 = 0) := fg_ifnz hw57_23 c_25
          refine lv_aload_n hx hb d_Reckoner_meet_63 rfl (lv_at hl 4 rfl) ?_
          refine va_get (D := D) (ci := 11) (v := .long o1) (C := "FilterGuard$Num") (T := F_Num) (N := 6) hx hb hts i_Num hown hK hP 2 rfl rfl 0 (by decide) (hts _ u_368) (fun _ h9 => h9) rfl d_Reckoner_meet_64 ?_
          refine fg_theni (wr := [(h0, .inr (8, [.ref a1, .ref a2, .ref a3, .ref a4, .ref a5])), (h1, .inr (11, [.long n1, .long n2, .long n3, .long n4, .long n5, .long n6])), (h2, .inr (11, [.long o1, .long o2, .long o3, .long o4, .long o5, .long o6]))]) (fg_runS (As := [.long o1]) (rest := []) ⟨hx, hb, hml, hown, hts⟩ (c_Long_bitCount l D o1 H.size) (by show fg_nm y_Long_bitCount 1; decide +kernel) u_1301 u_1167 u_202 u_1168 ⟨Nat.le_of_ble_eq_true rfl, Nat.le_of_ble_eq_true rfl⟩ hX (hP.sub (ws' := []) [] rfl) (hK.sub (tys' := []) [] rfl) (hD.sub (ws' := []) [] (by decide) rfl) rfl hl.1 (Nat.le_of_ble_eq_true rfl) d_Reckoner_meet_67 ⟨(Nat.le_of_ble_eq_true rfl), (Nat.le_of_ble_eq_true rfl)⟩) hP hD hK hS hA [] [0, 1, 2] rfl rfl (by decide) (by decide) (fun r67_28 u H locs hw67_27 hP hD hK hS => ?_)
          try dsimp only at hw67_27
          have hP : va_P D classes [(h0, .inr (8, [.ref a1, .ref a2, .ref a3, .ref a4, .ref a5])), (h1, .inr (11, [.long n1, .long n2, .long n3, .long n4, .long n5, .long n6])), (h2, .inr (11, [.long o1, .long o2, .long o3, .long o4, .long o5, .long o6]))] H := hP
          have hD : va_D A [(h0, .inr (8, [.ref a1, .ref a2, .ref a3, .ref a4, .ref a5])), (h1, .inr (11, [.long n1, .long n2, .long n3, .long n4, .long n5, .long n6])), (h2, .inr (11, [.long o1, .long o2, .long o3, .long o4, .long o5, .long o6]))] := hD
          have hK : va_K D classes [] s := hK
          refine W.widen (k := 0) (n := 0) (Nat.le_of_ble_eq_true rfl) (Nat.le_of_ble_eq_true rfl) ?_
          subst hw67_27
          have hP : va_P D classes [(h0, .inr (8, [.ref a1, .ref a2, .ref a3, .ref a4, .ref a5])), (h1, .inr (11, [.long n1, .long n2, .long n3, .long n4, .long n5, .long n6])), (h2, .inr (11, [.long o1, .long o2, .long o3, .long o4, .long o5, .long o6]))] H := hP
          have hD : va_D A [(h0, .inr (8, [.ref a1, .ref a2, .ref a3, .ref a4, .ref a5])), (h1, .inr (11, [.long n1, .long n2, .long n3, .long n4, .long n5, .long n6])), (h2, .inr (11, [.long o1, .long o2, .long o3, .long o4, .long o5, .long o6]))] := hD
          refine lv_iconst (v := 1) hx hb d_Reckoner_meet_70 (by decide) ?_
          refine lv_icmp_ne (tgt := 100) hx hb d_Reckoner_meet_71 (by decide) (fun c_29 => ?_) (fun c_29 => ?_)
          · refine lv_iload_n hx hb d_Reckoner_meet_100 rfl (lv_at hl 1 rfl) ?_
            refine lv_if_eq (tgt := 126) hx hb d_Reckoner_meet_101 (by decide) (fun c_30 => absurd c_30 (by decide)) (fun c_30 => ?_)
            refine lv_aload_n hx hb d_Reckoner_meet_104 rfl (lv_at hl 4 rfl) ?_
            refine lv_aload_n hx hb d_Reckoner_meet_105 rfl (lv_at hl 4 rfl) ?_
            refine va_get (D := D) (ci := 11) (v := .long o1) (C := "FilterGuard$Num") (T := F_Num) (N := 6) hx hb hts i_Num hown hK hP 2 rfl rfl 0 (by decide) (hts _ u_368) (fun _ h9 => h9) rfl d_Reckoner_meet_106 ?_
            refine lv_lload hx hb d_Reckoner_meet_109 (lv_at hl 0 rfl) ?_
            refine lv_lor hx hb d_Reckoner_meet_111 ?_
            refine lv_aload_n hx hb d_Reckoner_meet_112 rfl (lv_at hl 4 rfl) ?_
            refine va_get (D := D) (ci := 11) (v := .long o2) (C := "FilterGuard$Num") (T := F_Num) (N := 6) hx hb hts i_Num hown hK hP 2 rfl rfl 1 (by decide) (hts _ u_372) (fun _ h9 => h9) rfl d_Reckoner_meet_113 ?_
            refine lv_lload hx hb d_Reckoner_meet_116 (lv_at hl 0 rfl) ?_
            refine lv_ldc2 hx hb hown (hts _ u_1139) d_Reckoner_meet_118 ?_
            refine lv_lxor hx hb d_Reckoner_meet_121 ?_
            refine lv_land hx hb d_Reckoner_meet_122 ?_
            refine fg_thenv (wr := [(h0, .inr (8, [.ref a1, .ref a2, .ref a3, .ref a4, .ref a5])), (h1, .inr (11, [.long n1, .long n2, .long n3, .long n4, .long n5, .long n6]))]) (fg_runV (C := "FilterGuard$Num") (As := [.long (o1 ||| n1), .long (o2 &&& (n1 ^^^ (-1)))]) (rest := []) (ci := 11) (q0 := 0) ⟨hx, hb, hml, hown, hts⟩ (c_Num_bits l D h2 o1 o2 o3 o4 o5 o6 (o1 ||| n1) (o2 &&& (n1 ^^^ (-1))) H.size) rfl (by show fg_nm y_Num_bits 2; decide +kernel) u_1140 u_1141 u_1142 u_187 u_1143 ⟨Nat.le_of_ble_eq_true rfl, Nat.le_of_ble_eq_true rfl⟩ hX (hP.sub (ws' := [(h2, .inr (11, [.long o1, .long o2, .long o3, .long o4, .long o5, .long o6]))]) [2] rfl) (hK.sub (tys' := []) [] rfl) (hD.sub (ws' := [(h2, .inr (11, [.long o1, .long o2, .long o3, .long o4, .long o5, .long o6]))]) [2] (by decide) rfl) rfl rfl rfl rfl hl.1 (Nat.le_of_ble_eq_true rfl) d_Reckoner_meet_123 ⟨(Nat.le_of_ble_eq_true rfl), (Nat.le_of_ble_eq_true rfl)⟩) hP hD hK hS hA [2] [0, 1] rfl rfl (by decide) (by decide) (fun  u H locs hw123_30 hP hD hK hS => ?_)
            try dsimp only at hw123_30
            have hP : va_P D classes [(h0, .inr (8, [.ref a1, .ref a2, .ref a3, .ref a4, .ref a5])), (h1, .inr (11, [.long n1, .long n2, .long n3, .long n4, .long n5, .long n6])), (h2, .inr (11, [.long (o1 ||| n1), .long (o2 &&& (n1 ^^^ (-1))), .long o3, .long o4, .long o5, .long o6]))] H := hP
            have hD : va_D A [(h0, .inr (8, [.ref a1, .ref a2, .ref a3, .ref a4, .ref a5])), (h1, .inr (11, [.long n1, .long n2, .long n3, .long n4, .long n5, .long n6])), (h2, .inr (11, [.long (o1 ||| n1), .long (o2 &&& (n1 ^^^ (-1))), .long o3, .long o4, .long o5, .long o6]))] := hD
            have hK : va_K D classes [] s := hK
            refine W.widen (k := 0) (n := 0) (Nat.le_of_ble_eq_true rfl) (Nat.le_of_ble_eq_true rfl) ?_
            refine lv_iconst (v := 1) hx hb d_Reckoner_meet_126 (by decide) ?_
            exact fg_retz (n1, n2, n3, n4, n5, n6, (o1 ||| n1), (o2 &&& (n1 ^^^ (-1))), o3, o4, o5, o6) hx hb hr hlocks rfl (Or.inl ⟨rfl, by unfold fn_meet fn_meet1; (repeat rw [if_pos gc_2]); (repeat rw [if_pos c_13]); (repeat rw [if_neg gc_23]); (repeat rw [if_pos gc_25]); (repeat rw [if_neg c_29]); first | done | rfl | contradiction⟩) (hP.sub (ws' := [(h0, .inr (8, [.ref a1, .ref a2, .ref a3, .ref a4, .ref a5])), (h1, .inr (11, [.long n1, .long n2, .long n3, .long n4, .long n5, .long n6])), (h2, .inr (11, [.long (o1 ||| n1), .long (o2 &&& (n1 ^^^ (-1))), .long o3, .long o4, .long o5, .long o6]))]) [0, 1, 2] rfl) (hK.sub (tys' := []) [] rfl) (hD.sub (ws' := [(h0, .inr (8, [.ref a1, .ref a2, .ref a3, .ref a4, .ref a5])), (h1, .inr (11, [.long n1, .long n2, .long n3, .long n4, .long n5, .long n6])), (h2, .inr (11, [.long (o1 ||| n1), .long (o2 &&& (n1 ^^^ (-1))), .long o3, .long o4, .long o5, .long o6]))]) [0, 1, 2] (by decide) rfl) hS (Nat.le_of_ble_eq_true rfl) (Nat.le_of_ble_eq_true rfl) d_Reckoner_meet_127
          · refine lv_aload_n hx hb d_Reckoner_meet_74 rfl (lv_at hl 3 rfl) ?_
            refine lv_aload_n hx hb d_Reckoner_meet_75 rfl (lv_at hl 3 rfl) ?_
            refine va_get (D := D) (ci := 11) (v := .long n1) (C := "FilterGuard$Num") (T := F_Num) (N := 6) hx hb hts i_Num hown hK hP 1 rfl rfl 0 (by decide) (hts _ u_368) (fun _ h9 => h9) rfl d_Reckoner_meet_76 ?_
            refine lv_aload_n hx hb d_Reckoner_meet_79 rfl (lv_at hl 4 rfl) ?_
            refine va_get (D := D) (ci := 11) (v := .long o1) (C := "FilterGuard$Num") (T := F_Num) (N := 6) hx hb hts i_Num hown hK hP 2 rfl rfl 0 (by decide) (hts _ u_368) (fun _ h9 => h9) rfl d_Reckoner_meet_80 ?_
            refine lv_lor hx hb d_Reckoner_meet_83 ?_
            refine lv_aload_n hx hb d_Reckoner_meet_84 rfl (lv_at hl 3 rfl) ?_
            refine va_get (D := D) (ci := 11) (v := .long n2) (C := "FilterGuard$Num") (T := F_Num) (N := 6) hx hb hts i_Num hown hK hP 1 rfl rfl 1 (by decide) (hts _ u_372) (fun _ h9 => h9) rfl d_Reckoner_meet_85 ?_
            refine lv_aload_n hx hb d_Reckoner_meet_88 rfl (lv_at hl 4 rfl) ?_
            refine va_get (D := D) (ci := 11) (v := .long o1) (C := "FilterGuard$Num") (T := F_Num) (N := 6) hx hb hts i_Num hown hK hP 2 rfl rfl 0 (by decide) (hts _ u_368) (fun _ h9 => h9) rfl d_Reckoner_meet_89 ?_
            refine lv_ldc2 hx hb hown (hts _ u_1139) d_Reckoner_meet_92 ?_
            refine lv_lxor hx hb d_Reckoner_meet_95 ?_
            refine lv_land hx hb d_Reckoner_meet_96 ?_
            refine fg_thenv (wr := [(h0, .inr (8, [.ref a1, .ref a2, .ref a3, .ref a4, .ref a5])), (h2, .inr (11, [.long o1, .long o2, .long o3, .long o4, .long o5, .long o6]))]) (fg_runV (C := "FilterGuard$Num") (As := [.long (n1 ||| o1), .long (n2 &&& (o1 ^^^ (-1)))]) (rest := []) (ci := 11) (q0 := 0) ⟨hx, hb, hml, hown, hts⟩ (c_Num_bits l D h1 n1 n2 n3 n4 n5 n6 (n1 ||| o1) (n2 &&& (o1 ^^^ (-1))) H.size) rfl (by show fg_nm y_Num_bits 2; decide +kernel) u_1140 u_1141 u_1142 u_187 u_1143 ⟨Nat.le_of_ble_eq_true rfl, Nat.le_of_ble_eq_true rfl⟩ hX (hP.sub (ws' := [(h1, .inr (11, [.long n1, .long n2, .long n3, .long n4, .long n5, .long n6]))]) [1] rfl) (hK.sub (tys' := []) [] rfl) (hD.sub (ws' := [(h1, .inr (11, [.long n1, .long n2, .long n3, .long n4, .long n5, .long n6]))]) [1] (by decide) rfl) rfl rfl rfl rfl hl.1 (Nat.le_of_ble_eq_true rfl) d_Reckoner_meet_97 ⟨(Nat.le_of_ble_eq_true rfl), (Nat.le_of_ble_eq_true rfl)⟩) hP hD hK hS hA [1] [0, 2] rfl rfl (by decide) (by decide) (fun  u H locs hw97_31 hP hD hK hS => ?_)
            try dsimp only at hw97_31
            have hP : va_P D classes [(h0, .inr (8, [.ref a1, .ref a2, .ref a3, .ref a4, .ref a5])), (h2, .inr (11, [.long o1, .long o2, .long o3, .long o4, .long o5, .long o6])), (h1, .inr (11, [.long (n1 ||| o1), .long (n2 &&& (o1 ^^^ (-1))), .long n3, .long n4, .long n5, .long n6]))] H := hP
            have hD : va_D A [(h0, .inr (8, [.ref a1, .ref a2, .ref a3, .ref a4, .ref a5])), (h2, .inr (11, [.long o1, .long o2, .long o3, .long o4, .long o5, .long o6])), (h1, .inr (11, [.long (n1 ||| o1), .long (n2 &&& (o1 ^^^ (-1))), .long n3, .long n4, .long n5, .long n6]))] := hD
            have hK : va_K D classes [] s := hK
            refine W.widen (k := 0) (n := 0) (Nat.le_of_ble_eq_true rfl) (Nat.le_of_ble_eq_true rfl) ?_
            refine lv_iload_n hx hb d_Reckoner_meet_100 rfl (lv_at hl 1 rfl) ?_
            refine lv_if_eq (tgt := 126) hx hb d_Reckoner_meet_101 (by decide) (fun c_33 => absurd c_33 (by decide)) (fun c_33 => ?_)
            refine lv_aload_n hx hb d_Reckoner_meet_104 rfl (lv_at hl 4 rfl) ?_
            refine lv_aload_n hx hb d_Reckoner_meet_105 rfl (lv_at hl 4 rfl) ?_
            refine va_get (D := D) (ci := 11) (v := .long o1) (C := "FilterGuard$Num") (T := F_Num) (N := 6) hx hb hts i_Num hown hK hP 1 rfl rfl 0 (by decide) (hts _ u_368) (fun _ h9 => h9) rfl d_Reckoner_meet_106 ?_
            refine lv_lload hx hb d_Reckoner_meet_109 (lv_at hl 0 rfl) ?_
            refine lv_lor hx hb d_Reckoner_meet_111 ?_
            refine lv_aload_n hx hb d_Reckoner_meet_112 rfl (lv_at hl 4 rfl) ?_
            refine va_get (D := D) (ci := 11) (v := .long o2) (C := "FilterGuard$Num") (T := F_Num) (N := 6) hx hb hts i_Num hown hK hP 1 rfl rfl 1 (by decide) (hts _ u_372) (fun _ h9 => h9) rfl d_Reckoner_meet_113 ?_
            refine lv_lload hx hb d_Reckoner_meet_116 (lv_at hl 0 rfl) ?_
            refine lv_ldc2 hx hb hown (hts _ u_1139) d_Reckoner_meet_118 ?_
            refine lv_lxor hx hb d_Reckoner_meet_121 ?_
            refine lv_land hx hb d_Reckoner_meet_122 ?_
            refine fg_thenv (wr := [(h0, .inr (8, [.ref a1, .ref a2, .ref a3, .ref a4, .ref a5])), (h1, .inr (11, [.long (n1 ||| o1), .long (n2 &&& (o1 ^^^ (-1))), .long n3, .long n4, .long n5, .long n6]))]) (fg_runV (C := "FilterGuard$Num") (As := [.long (o1 ||| n1), .long (o2 &&& (n1 ^^^ (-1)))]) (rest := []) (ci := 11) (q0 := 0) ⟨hx, hb, hml, hown, hts⟩ (c_Num_bits l D h2 o1 o2 o3 o4 o5 o6 (o1 ||| n1) (o2 &&& (n1 ^^^ (-1))) H.size) rfl (by show fg_nm y_Num_bits 2; decide +kernel) u_1140 u_1141 u_1142 u_187 u_1143 ⟨Nat.le_of_ble_eq_true rfl, Nat.le_of_ble_eq_true rfl⟩ hX (hP.sub (ws' := [(h2, .inr (11, [.long o1, .long o2, .long o3, .long o4, .long o5, .long o6]))]) [1] rfl) (hK.sub (tys' := []) [] rfl) (hD.sub (ws' := [(h2, .inr (11, [.long o1, .long o2, .long o3, .long o4, .long o5, .long o6]))]) [1] (by decide) rfl) rfl rfl rfl rfl hl.1 (Nat.le_of_ble_eq_true rfl) d_Reckoner_meet_123 ⟨(Nat.le_of_ble_eq_true rfl), (Nat.le_of_ble_eq_true rfl)⟩) hP hD hK hS hA [1] [0, 2] rfl rfl (by decide) (by decide) (fun  u H locs hw123_33 hP hD hK hS => ?_)
            try dsimp only at hw123_33
            have hP : va_P D classes [(h0, .inr (8, [.ref a1, .ref a2, .ref a3, .ref a4, .ref a5])), (h1, .inr (11, [.long (n1 ||| o1), .long (n2 &&& (o1 ^^^ (-1))), .long n3, .long n4, .long n5, .long n6])), (h2, .inr (11, [.long (o1 ||| n1), .long (o2 &&& (n1 ^^^ (-1))), .long o3, .long o4, .long o5, .long o6]))] H := hP
            have hD : va_D A [(h0, .inr (8, [.ref a1, .ref a2, .ref a3, .ref a4, .ref a5])), (h1, .inr (11, [.long (n1 ||| o1), .long (n2 &&& (o1 ^^^ (-1))), .long n3, .long n4, .long n5, .long n6])), (h2, .inr (11, [.long (o1 ||| n1), .long (o2 &&& (n1 ^^^ (-1))), .long o3, .long o4, .long o5, .long o6]))] := hD
            have hK : va_K D classes [] s := hK
            refine W.widen (k := 0) (n := 0) (Nat.le_of_ble_eq_true rfl) (Nat.le_of_ble_eq_true rfl) ?_
            refine lv_iconst (v := 1) hx hb d_Reckoner_meet_126 (by decide) ?_
            exact fg_retz ((n1 ||| o1), (n2 &&& (o1 ^^^ (-1))), n3, n4, n5, n6, (o1 ||| n1), (o2 &&& (n1 ^^^ (-1))), o3, o4, o5, o6) hx hb hr hlocks rfl (Or.inl ⟨rfl, by unfold fn_meet fn_meet1; (repeat rw [if_pos gc_2]); (repeat rw [if_pos c_13]); (repeat rw [if_neg gc_23]); (repeat rw [if_pos gc_25]); (repeat rw [if_pos c_29]); first | done | rfl | contradiction⟩) (hP.sub (ws' := [(h0, .inr (8, [.ref a1, .ref a2, .ref a3, .ref a4, .ref a5])), (h1, .inr (11, [.long (n1 ||| o1), .long (n2 &&& (o1 ^^^ (-1))), .long n3, .long n4, .long n5, .long n6])), (h2, .inr (11, [.long (o1 ||| n1), .long (o2 &&& (n1 ^^^ (-1))), .long o3, .long o4, .long o5, .long o6]))]) [0, 1, 2] rfl) (hK.sub (tys' := []) [] rfl) (hD.sub (ws' := [(h0, .inr (8, [.ref a1, .ref a2, .ref a3, .ref a4, .ref a5])), (h1, .inr (11, [.long (n1 ||| o1), .long (n2 &&& (o1 ^^^ (-1))), .long n3, .long n4, .long n5, .long n6])), (h2, .inr (11, [.long (o1 ||| n1), .long (o2 &&& (n1 ^^^ (-1))), .long o3, .long o4, .long o5, .long o6]))]) [0, 1, 2] (by decide) rfl) hS (Nat.le_of_ble_eq_true rfl) (Nat.le_of_ble_eq_true rfl) d_Reckoner_meet_127
      · have gc_23 : ((n1 ||| n2) &&& (o1 ||| o2)) = 0 := (lg_cmp_eq _ _).mp c_23
        refine lv_iconst (v := 0) hx hb d_Reckoner_meet_54 (by decide) ?_
        exact fg_retz (n1, n2, n3, n4, n5, n6, o1, o2, o3, o4, o5, o6) hx hb hr hlocks rfl (Or.inr ⟨rfl, by unfold fn_meet fn_meet1; (repeat rw [if_pos gc_2]); (repeat rw [if_pos c_13]); (repeat rw [if_pos gc_23]); first | done | rfl | contradiction⟩) (hP.sub (ws' := [(h0, .inr (8, [.ref a1, .ref a2, .ref a3, .ref a4, .ref a5])), (h1, .inr (11, [.long n1, .long n2, .long n3, .long n4, .long n5, .long n6])), (h2, .inr (11, [.long o1, .long o2, .long o3, .long o4, .long o5, .long o6]))]) [0, 2, 1] rfl) (hK.sub (tys' := []) [] rfl) (hD.sub (ws' := [(h0, .inr (8, [.ref a1, .ref a2, .ref a3, .ref a4, .ref a5])), (h1, .inr (11, [.long n1, .long n2, .long n3, .long n4, .long n5, .long n6])), (h2, .inr (11, [.long o1, .long o2, .long o3, .long o4, .long o5, .long o6]))]) [0, 2, 1] (by decide) rfl) hS (Nat.le_of_ble_eq_true rfl) (Nat.le_of_ble_eq_true rfl) d_Reckoner_meet_55
abbrev y_Reckoner_notMeet : MethodName := ⟨"FilterGuard$Reckoner", "notMeet", "(LFilterGuard$Num;LFilterGuard$Num;)Z"⟩
theorem d_Reckoner_notMeet_0 : decode prog_9_method_25_code 0 = .ok (.aload_n 1, 1) := by decide +kernel
theorem d_Reckoner_notMeet_1 : decode prog_9_method_25_code 1 = .ok (.invokevirtual 45, 3) := by decide +kernel
theorem d_Reckoner_notMeet_4 : decode prog_9_method_25_code 4 = .ok (.istore_n 3, 1) := by decide +kernel
theorem d_Reckoner_notMeet_5 : decode prog_9_method_25_code 5 = .ok (.aload_n 1, 1) := by decide +kernel
theorem d_Reckoner_notMeet_6 : decode prog_9_method_25_code 6 = .ok (.getfield 49, 3) := by decide +kernel
theorem d_Reckoner_notMeet_9 : decode prog_9_method_25_code 9 = .ok (.aload_n 2, 1) := by decide +kernel
theorem d_Reckoner_notMeet_10 : decode prog_9_method_25_code 10 = .ok (.getfield 49, 3) := by decide +kernel
theorem d_Reckoner_notMeet_13 : decode prog_9_method_25_code 13 = .ok (.land, 1) := by decide +kernel
theorem d_Reckoner_notMeet_14 : decode prog_9_method_25_code 14 = .ok (.lconst 0, 1) := by decide +kernel
theorem d_Reckoner_notMeet_15 : decode prog_9_method_25_code 15 = .ok (.lcmp, 1) := by decide +kernel
theorem d_Reckoner_notMeet_16 : decode prog_9_method_25_code 16 = .ok (.ifCond .eq 5, 3) := by decide +kernel
theorem d_Reckoner_notMeet_21 : decode prog_9_method_25_code 21 = .ok (.aload_n 2, 1) := by decide +kernel
theorem d_Reckoner_notMeet_22 : decode prog_9_method_25_code 22 = .ok (.invokevirtual 45, 3) := by decide +kernel
theorem d_Reckoner_notMeet_25 : decode prog_9_method_25_code 25 = .ok (.ifCond .eq 20, 3) := by decide +kernel
theorem d_Reckoner_notMeet_45 : decode prog_9_method_25_code 45 = .ok (.iload_n 3, 1) := by decide +kernel
theorem d_Reckoner_notMeet_46 : decode prog_9_method_25_code 46 = .ok (.ifCond .eq 20, 3) := by decide +kernel
theorem d_Reckoner_notMeet_66 : decode prog_9_method_25_code 66 = .ok (.iconst 1, 1) := by decide +kernel
theorem d_Reckoner_notMeet_67 : decode prog_9_method_25_code 67 = .ok (.ireturn, 1) := by decide +kernel
theorem d_Reckoner_notMeet_49 : decode prog_9_method_25_code 49 = .ok (.aload_n 2, 1) := by decide +kernel
theorem d_Reckoner_notMeet_50 : decode prog_9_method_25_code 50 = .ok (.dup, 1) := by decide +kernel
theorem d_Reckoner_notMeet_51 : decode prog_9_method_25_code 51 = .ok (.getfield 87, 3) := by decide +kernel
theorem d_Reckoner_notMeet_54 : decode prog_9_method_25_code 54 = .ok (.aload_n 1, 1) := by decide +kernel
theorem d_Reckoner_notMeet_55 : decode prog_9_method_25_code 55 = .ok (.getfield 49, 3) := by decide +kernel
theorem d_Reckoner_notMeet_58 : decode prog_9_method_25_code 58 = .ok (.ldc2_w 90, 3) := by decide +kernel
theorem d_Reckoner_notMeet_61 : decode prog_9_method_25_code 61 = .ok (.lxor, 1) := by decide +kernel
theorem d_Reckoner_notMeet_62 : decode prog_9_method_25_code 62 = .ok (.land, 1) := by decide +kernel
theorem d_Reckoner_notMeet_63 : decode prog_9_method_25_code 63 = .ok (.putfield 87, 3) := by decide +kernel
theorem d_Reckoner_notMeet_28 : decode prog_9_method_25_code 28 = .ok (.aload_n 1, 1) := by decide +kernel
theorem d_Reckoner_notMeet_29 : decode prog_9_method_25_code 29 = .ok (.dup, 1) := by decide +kernel
theorem d_Reckoner_notMeet_30 : decode prog_9_method_25_code 30 = .ok (.getfield 87, 3) := by decide +kernel
theorem d_Reckoner_notMeet_33 : decode prog_9_method_25_code 33 = .ok (.aload_n 2, 1) := by decide +kernel
theorem d_Reckoner_notMeet_34 : decode prog_9_method_25_code 34 = .ok (.getfield 49, 3) := by decide +kernel
theorem d_Reckoner_notMeet_37 : decode prog_9_method_25_code 37 = .ok (.ldc2_w 90, 3) := by decide +kernel
theorem d_Reckoner_notMeet_40 : decode prog_9_method_25_code 40 = .ok (.lxor, 1) := by decide +kernel
theorem d_Reckoner_notMeet_41 : decode prog_9_method_25_code 41 = .ok (.land, 1) := by decide +kernel
theorem d_Reckoner_notMeet_42 : decode prog_9_method_25_code 42 = .ok (.putfield 87, 3) := by decide +kernel
theorem d_Reckoner_notMeet_19 : decode prog_9_method_25_code 19 = .ok (.iconst 0, 1) := by decide +kernel
theorem d_Reckoner_notMeet_20 : decode prog_9_method_25_code 20 = .ok (.ireturn, 1) := by decide +kernel
def rm_Reck_notMeet : Room := { frames := 2, cells := 0, slots := 0, locals := 60 }
abbrev q_Reck_notMeet (D : va_G) (h0 : Nat) (a1 : Nat) (a2 : Nat) (a3 : Nat) (a4 : Nat) (a5 : Nat) (h1 : Nat) (n1 : Int64) (n2 : Int64) (n3 : Int64) (n4 : Int64) (n5 : Int64) (n6 : Int64) (h2 : Nat) (o1 : Int64) (o2 : Int64) (o3 : Int64) (o4 : Int64) (o5 : Int64) (o6 : Int64) (A : Nat → Prop) : Array Value → Jvm.State → Outcome → Jvm.State → Prop := va_Qi (fun (r : Int32) (u : Int64 × Int64 × Int64 × Int64 × Int64 × Int64 × Int64 × Int64 × Int64 × Int64 × Int64 × Int64) => (r = 1 ∧ fn_nmeet n1 n2 n3 n4 n5 n6 o1 o2 o3 o4 o5 o6 = some ((u.1, u.2.1, u.2.2.1, u.2.2.2.1, u.2.2.2.2.1, u.2.2.2.2.2.1), (u.2.2.2.2.2.2.1, u.2.2.2.2.2.2.2.1, u.2.2.2.2.2.2.2.2.1, u.2.2.2.2.2.2.2.2.2.1, u.2.2.2.2.2.2.2.2.2.2.1, u.2.2.2.2.2.2.2.2.2.2.2))) ∨ (r = 0 ∧ fn_nmeet n1 n2 n3 n4 n5 n6 o1 o2 o3 o4 o5 o6 = none)) (fg_B D A (fun (u : Int64 × Int64 × Int64 × Int64 × Int64 × Int64 × Int64 × Int64 × Int64 × Int64 × Int64 × Int64) => [(h0, .inr (8, [.ref a1, .ref a2, .ref a3, .ref a4, .ref a5])), (h1, .inr (11, [.long u.1, .long u.2.1, .long u.2.2.1, .long u.2.2.2.1, .long u.2.2.2.2.1, .long u.2.2.2.2.2.1])), (h2, .inr (11, [.long u.2.2.2.2.2.2.1, .long u.2.2.2.2.2.2.2.1, .long u.2.2.2.2.2.2.2.2.1, .long u.2.2.2.2.2.2.2.2.2.1, .long u.2.2.2.2.2.2.2.2.2.2.1, .long u.2.2.2.2.2.2.2.2.2.2.2]))]) (fun (u : Int64 × Int64 × Int64 × Int64 × Int64 × Int64 × Int64 × Int64 × Int64 × Int64 × Int64 × Int64) => [])) A
set_option maxHeartbeats 4000000 in
set_option maxRecDepth 100000 in
theorem c_Reck_notMeet (l : Launch) (D : va_G) (h0 : Nat) (a1 : Nat) (a2 : Nat) (a3 : Nat) (a4 : Nat) (a5 : Nat) (h1 : Nat) (n1 : Int64) (n2 : Int64) (n3 : Int64) (n4 : Int64) (n5 : Int64) (n6 : Int64) (h2 : Nat) (o1 : Int64) (o2 : Int64) (o3 : Int64) (o4 : Int64) (o5 : Int64) (o6 : Int64) (sz : Nat) : Met l y_Reckoner_notMeet (fg_w y_Reckoner_notMeet prog_9_method_25_code 4 (some .boolean)) rm_Reck_notMeet (va_Pc [.ref h0, .ref h1, .ref h2] (fg_P D [] [(h0, .inr (8, [.ref a1, .ref a2, .ref a3, .ref a4, .ref a5])), (h1, .inr (11, [.long n1, .long n2, .long n3, .long n4, .long n5, .long n6])), (h2, .inr (11, [.long o1, .long o2, .long o3, .long o4, .long o5, .long o6]))] sz)) (q_Reck_notMeet D h0 a1 a2 a3 a4 a5 h1 n1 n2 n3 n4 n5 n6 h2 o1 o2 o3 o4 o5 o6 (va_A [(h0, .inr (8, [.ref a1, .ref a2, .ref a3, .ref a4, .ref a5])), (h1, .inr (11, [.long n1, .long n2, .long n3, .long n4, .long n5, .long n6])), (h2, .inr (11, [.long o1, .long o2, .long o3, .long o4, .long o5, .long o6]))] sz)) rm_Reck_notMeet.cells rm_Reck_notMeet.slots (va_A [(h0, .inr (8, [.ref a1, .ref a2, .ref a3, .ref a4, .ref a5])), (h1, .inr (11, [.long n1, .long n2, .long n3, .long n4, .long n5, .long n6])), (h2, .inr (11, [.long o1, .long o2, .long o3, .long o4, .long o5, .long o6]))] sz) := by
  refine fg_enter (fun A => q_Reck_notMeet D h0 a1 a2 a3 a4 a5 h1 n1 n2 n3 n4 n5 n6 h2 o1 o2 o3 o4 o5 o6 A) (by decide +kernel) (Nat.le_of_ble_eq_true rfl) ?_
  intro p e s m below meth c ls A hx hb hml hown hts hr hlocks hin hP hK hD hS hA hX hl
  have hl : lv_has ls 4 [(0, .ref h0), (1, .ref h1), (2, .ref h2)] := hl
  refine lv_aload_n hx hb d_Reckoner_notMeet_0 rfl (lv_at hl 1 rfl) ?_
  refine fg_theni (wr := [(h0, .inr (8, [.ref a1, .ref a2, .ref a3, .ref a4, .ref a5])), (h2, .inr (11, [.long o1, .long o2, .long o3, .long o4, .long o5, .long o6]))]) (fg_runV (C := "FilterGuard$Num") (As := []) (rest := []) (ci := 11) (q0 := 0) ⟨hx, hb, hml, hown, hts⟩ (c_Num_isExact l D h1 n1 n2 n3 n4 n5 n6 s.heap.size) rfl (by show fg_nm y_Num_isExact0 0; decide +kernel) u_1157 u_1158 u_1159 u_187 u_1160 ⟨Nat.le_of_ble_eq_true rfl, Nat.le_of_ble_eq_true rfl⟩ hX (hP.sub (ws' := [(h1, .inr (11, [.long n1, .long n2, .long n3, .long n4, .long n5, .long n6]))]) [1] rfl) (hK.sub (tys' := []) [] rfl) (hD.sub (ws' := [(h1, .inr (11, [.long n1, .long n2, .long n3, .long n4, .long n5, .long n6]))]) [1] (by decide) rfl) rfl rfl rfl rfl hl.1 (Nat.le_of_ble_eq_true rfl) d_Reckoner_notMeet_1 ⟨(Nat.le_of_ble_eq_true rfl), (Nat.le_of_ble_eq_true rfl)⟩) hP hD hK hS hA [1] [0, 2] rfl rfl (by decide) (by decide) (fun r1_1 u H locs hw1_0 hP hD hK hS => ?_)
  try dsimp only at hw1_0
  have hP : va_P D classes [(h0, .inr (8, [.ref a1, .ref a2, .ref a3, .ref a4, .ref a5])), (h2, .inr (11, [.long o1, .long o2, .long o3, .long o4, .long o5, .long o6])), (h1, .inr (11, [.long n1, .long n2, .long n3, .long n4, .long n5, .long n6]))] H := hP
  have hD : va_D A [(h0, .inr (8, [.ref a1, .ref a2, .ref a3, .ref a4, .ref a5])), (h2, .inr (11, [.long o1, .long o2, .long o3, .long o4, .long o5, .long o6])), (h1, .inr (11, [.long n1, .long n2, .long n3, .long n4, .long n5, .long n6]))] := hD
  have hK : va_K D classes [] s := hK
  refine W.widen (k := 0) (n := 0) (Nat.le_of_ble_eq_true rfl) (Nat.le_of_ble_eq_true rfl) ?_
  refine lv_istore_n (lv' := [(3, .int r1_1), (0, .ref h0), (1, .ref h1), (2, .ref h2)]) hx hb d_Reckoner_notMeet_4 rfl hl (by decide) rfl (fun ls hl => ?_)
  refine lv_aload_n hx hb d_Reckoner_notMeet_5 rfl (lv_at hl 2 rfl) ?_
  refine va_get (D := D) (ci := 11) (v := .long n1) (C := "FilterGuard$Num") (T := F_Num) (N := 6) hx hb hts i_Num hown hK hP 2 rfl rfl 0 (by decide) (hts _ u_368) (fun _ h9 => h9) rfl d_Reckoner_notMeet_6 ?_
  refine lv_aload_n hx hb d_Reckoner_notMeet_9 rfl (lv_at hl 3 rfl) ?_
  refine va_get (D := D) (ci := 11) (v := .long o1) (C := "FilterGuard$Num") (T := F_Num) (N := 6) hx hb hts i_Num hown hK hP 1 rfl rfl 0 (by decide) (hts _ u_368) (fun _ h9 => h9) rfl d_Reckoner_notMeet_10 ?_
  refine lv_land hx hb d_Reckoner_notMeet_13 ?_
  refine lv_lconst (v := 0) hx hb d_Reckoner_notMeet_14 (by decide) ?_
  refine W.lcmp hx hb d_Reckoner_notMeet_15 ?_
  refine lv_if_eq (tgt := 21) hx hb d_Reckoner_notMeet_16 (by decide) (fun c_2 => ?_) (fun c_2 => ?_)
  · have gc_2 : (n1 &&& o1) = 0 := (lg_cmp_eq _ _).mp c_2
    refine lv_aload_n hx hb d_Reckoner_notMeet_21 rfl (lv_at hl 3 rfl) ?_
    refine fg_theni (wr := [(h0, .inr (8, [.ref a1, .ref a2, .ref a3, .ref a4, .ref a5])), (h1, .inr (11, [.long n1, .long n2, .long n3, .long n4, .long n5, .long n6]))]) (fg_runV (C := "FilterGuard$Num") (As := []) (rest := []) (ci := 11) (q0 := 0) ⟨hx, hb, hml, hown, hts⟩ (c_Num_isExact l D h2 o1 o2 o3 o4 o5 o6 H.size) rfl (by show fg_nm y_Num_isExact0 0; decide +kernel) u_1157 u_1158 u_1159 u_187 u_1160 ⟨Nat.le_of_ble_eq_true rfl, Nat.le_of_ble_eq_true rfl⟩ hX (hP.sub (ws' := [(h2, .inr (11, [.long o1, .long o2, .long o3, .long o4, .long o5, .long o6]))]) [1] rfl) (hK.sub (tys' := []) [] rfl) (hD.sub (ws' := [(h2, .inr (11, [.long o1, .long o2, .long o3, .long o4, .long o5, .long o6]))]) [1] (by decide) rfl) rfl rfl rfl rfl hl.1 (Nat.le_of_ble_eq_true rfl) d_Reckoner_notMeet_22 ⟨(Nat.le_of_ble_eq_true rfl), (Nat.le_of_ble_eq_true rfl)⟩) hP hD hK hS hA [1] [0, 2] rfl rfl (by decide) (by decide) (fun r22_3 u H locs hw22_2 hP hD hK hS => ?_)
    try dsimp only at hw22_2
    have hP : va_P D classes [(h0, .inr (8, [.ref a1, .ref a2, .ref a3, .ref a4, .ref a5])), (h1, .inr (11, [.long n1, .long n2, .long n3, .long n4, .long n5, .long n6])), (h2, .inr (11, [.long o1, .long o2, .long o3, .long o4, .long o5, .long o6]))] H := hP
    have hD : va_D A [(h0, .inr (8, [.ref a1, .ref a2, .ref a3, .ref a4, .ref a5])), (h1, .inr (11, [.long n1, .long n2, .long n3, .long n4, .long n5, .long n6])), (h2, .inr (11, [.long o1, .long o2, .long o3, .long o4, .long o5, .long o6]))] := hD
    have hK : va_K D classes [] s := hK
    refine W.widen (k := 0) (n := 0) (Nat.le_of_ble_eq_true rfl) (Nat.le_of_ble_eq_true rfl) ?_
    refine lv_if_eq (tgt := 45) hx hb d_Reckoner_notMeet_25 (by decide) (fun c_4 => ?_) (fun c_4 => ?_)
    · have gc_4 : ¬ (o2 = 0) := fg_ifz hw22_2 c_4
      refine lv_iload_n hx hb d_Reckoner_notMeet_45 rfl (lv_at hl 0 rfl) ?_
      refine lv_if_eq (tgt := 66) hx hb d_Reckoner_notMeet_46 (by decide) (fun c_5 => ?_) (fun c_5 => ?_)
      · have gc_5 : ¬ (n2 = 0) := fg_ifz hw1_0 c_5
        refine lv_iconst (v := 1) hx hb d_Reckoner_notMeet_66 (by decide) ?_
        exact fg_retz (n1, n2, n3, n4, n5, n6, o1, o2, o3, o4, o5, o6) hx hb hr hlocks rfl (Or.inl ⟨rfl, by unfold fn_nmeet; (repeat rw [if_pos gc_2]); (repeat rw [if_neg gc_4]); (repeat rw [if_neg gc_5]); first | done | rfl | contradiction⟩) (hP.sub (ws' := [(h0, .inr (8, [.ref a1, .ref a2, .ref a3, .ref a4, .ref a5])), (h1, .inr (11, [.long n1, .long n2, .long n3, .long n4, .long n5, .long n6])), (h2, .inr (11, [.long o1, .long o2, .long o3, .long o4, .long o5, .long o6]))]) [0, 1, 2] rfl) (hK.sub (tys' := []) [] rfl) (hD.sub (ws' := [(h0, .inr (8, [.ref a1, .ref a2, .ref a3, .ref a4, .ref a5])), (h1, .inr (11, [.long n1, .long n2, .long n3, .long n4, .long n5, .long n6])), (h2, .inr (11, [.long o1, .long o2, .long o3, .long o4, .long o5, .long o6]))]) [0, 1, 2] (by decide) rfl) hS (Nat.le_of_ble_eq_true rfl) (Nat.le_of_ble_eq_true rfl) d_Reckoner_notMeet_67
      · have gc_5 : (n2 = 0) := fg_ifnz hw1_0 c_5
        refine lv_aload_n hx hb d_Reckoner_notMeet_49 rfl (lv_at hl 3 rfl) ?_
        refine lv_dup hx hb d_Reckoner_notMeet_50 rfl ?_
        refine va_get (D := D) (ci := 11) (v := .long o2) (C := "FilterGuard$Num") (T := F_Num) (N := 6) hx hb hts i_Num hown hK hP 2 rfl rfl 1 (by decide) (hts _ u_372) (fun _ h9 => h9) rfl d_Reckoner_notMeet_51 ?_
        refine lv_aload_n hx hb d_Reckoner_notMeet_54 rfl (lv_at hl 2 rfl) ?_
        refine va_get (D := D) (ci := 11) (v := .long n1) (C := "FilterGuard$Num") (T := F_Num) (N := 6) hx hb hts i_Num hown hK hP 1 rfl rfl 0 (by decide) (hts _ u_368) (fun _ h9 => h9) rfl d_Reckoner_notMeet_55 ?_
        refine lv_ldc2 hx hb hown (hts _ u_1139) d_Reckoner_notMeet_58 ?_
        refine lv_lxor hx hb d_Reckoner_notMeet_61 ?_
        refine lv_land hx hb d_Reckoner_notMeet_62 ?_
        refine va_put (D := D) (ci := 11) (v := .long (o2 &&& (n1 ^^^ (-1)))) (ty := .long) (C := "FilterGuard$Num") (T := F_Num) (N := 6) hx hb hts i_Num t_Num t_Num_ok n_Num hown hK hP hD hS 2 rfl rfl 1 (by decide) (hts _ u_372) (fun _ h9 => h9) rfl (by decide +kernel) rfl rfl (Nat.le_of_ble_eq_true rfl) d_Reckoner_notMeet_63 (fun H locs hP hD hS => ?_)
        have hP : va_P D classes [(h0, .inr (8, [.ref a1, .ref a2, .ref a3, .ref a4, .ref a5])), (h1, .inr (11, [.long n1, .long n2, .long n3, .long n4, .long n5, .long n6])), (h2, .inr (11, [.long o1, .long (o2 &&& (n1 ^^^ (-1))), .long o3, .long o4, .long o5, .long o6]))] H := hP
        have hD : va_D A [(h0, .inr (8, [.ref a1, .ref a2, .ref a3, .ref a4, .ref a5])), (h1, .inr (11, [.long n1, .long n2, .long n3, .long n4, .long n5, .long n6])), (h2, .inr (11, [.long o1, .long (o2 &&& (n1 ^^^ (-1))), .long o3, .long o4, .long o5, .long o6]))] := hD
        refine lv_iconst (v := 1) hx hb d_Reckoner_notMeet_66 (by decide) ?_
        exact fg_retz (n1, n2, n3, n4, n5, n6, o1, o2 &&& (n1 ^^^ (-1)), o3, o4, o5, o6) hx hb hr hlocks rfl (Or.inl ⟨rfl, by unfold fn_nmeet; (repeat rw [if_pos gc_2]); (repeat rw [if_neg gc_4]); (repeat rw [if_pos gc_5]); first | done | rfl | contradiction⟩) (hP.sub (ws' := [(h0, .inr (8, [.ref a1, .ref a2, .ref a3, .ref a4, .ref a5])), (h1, .inr (11, [.long n1, .long n2, .long n3, .long n4, .long n5, .long n6])), (h2, .inr (11, [.long o1, .long (o2 &&& (n1 ^^^ (-1))), .long o3, .long o4, .long o5, .long o6]))]) [0, 1, 2] rfl) (hK.sub (tys' := []) [] rfl) (hD.sub (ws' := [(h0, .inr (8, [.ref a1, .ref a2, .ref a3, .ref a4, .ref a5])), (h1, .inr (11, [.long n1, .long n2, .long n3, .long n4, .long n5, .long n6])), (h2, .inr (11, [.long o1, .long (o2 &&& (n1 ^^^ (-1))), .long o3, .long o4, .long o5, .long o6]))]) [0, 1, 2] (by decide) rfl) hS (Nat.le_of_ble_eq_true rfl) (Nat.le_of_ble_eq_true rfl) d_Reckoner_notMeet_67
    · have gc_4 : (o2 = 0) := fg_ifnz hw22_2 c_4
      refine lv_aload_n hx hb d_Reckoner_notMeet_28 rfl (lv_at hl 2 rfl) ?_
      refine lv_dup hx hb d_Reckoner_notMeet_29 rfl ?_
      refine va_get (D := D) (ci := 11) (v := .long n2) (C := "FilterGuard$Num") (T := F_Num) (N := 6) hx hb hts i_Num hown hK hP 1 rfl rfl 1 (by decide) (hts _ u_372) (fun _ h9 => h9) rfl d_Reckoner_notMeet_30 ?_
      refine lv_aload_n hx hb d_Reckoner_notMeet_33 rfl (lv_at hl 3 rfl) ?_
      refine va_get (D := D) (ci := 11) (v := .long o1) (C := "FilterGuard$Num") (T := F_Num) (N := 6) hx hb hts i_Num hown hK hP 2 rfl rfl 0 (by decide) (hts _ u_368) (fun _ h9 => h9) rfl d_Reckoner_notMeet_34 ?_
      refine lv_ldc2 hx hb hown (hts _ u_1139) d_Reckoner_notMeet_37 ?_
      refine lv_lxor hx hb d_Reckoner_notMeet_40 ?_
      refine lv_land hx hb d_Reckoner_notMeet_41 ?_
      refine va_put (D := D) (ci := 11) (v := .long (n2 &&& (o1 ^^^ (-1)))) (ty := .long) (C := "FilterGuard$Num") (T := F_Num) (N := 6) hx hb hts i_Num t_Num t_Num_ok n_Num hown hK hP hD hS 1 rfl rfl 1 (by decide) (hts _ u_372) (fun _ h9 => h9) rfl (by decide +kernel) rfl rfl (Nat.le_of_ble_eq_true rfl) d_Reckoner_notMeet_42 (fun H locs hP hD hS => ?_)
      have hP : va_P D classes [(h0, .inr (8, [.ref a1, .ref a2, .ref a3, .ref a4, .ref a5])), (h1, .inr (11, [.long n1, .long (n2 &&& (o1 ^^^ (-1))), .long n3, .long n4, .long n5, .long n6])), (h2, .inr (11, [.long o1, .long o2, .long o3, .long o4, .long o5, .long o6]))] H := hP
      have hD : va_D A [(h0, .inr (8, [.ref a1, .ref a2, .ref a3, .ref a4, .ref a5])), (h1, .inr (11, [.long n1, .long (n2 &&& (o1 ^^^ (-1))), .long n3, .long n4, .long n5, .long n6])), (h2, .inr (11, [.long o1, .long o2, .long o3, .long o4, .long o5, .long o6]))] := hD
      refine lv_iload_n hx hb d_Reckoner_notMeet_45 rfl (lv_at hl 0 rfl) ?_
      refine lv_if_eq (tgt := 66) hx hb d_Reckoner_notMeet_46 (by decide) (fun c_6 => ?_) (fun c_6 => ?_)
      · have gc_6 : ¬ (n2 = 0) := fg_ifz hw1_0 c_6
        refine lv_iconst (v := 1) hx hb d_Reckoner_notMeet_66 (by decide) ?_
        exact fg_retz (n1, n2 &&& (o1 ^^^ (-1)), n3, n4, n5, n6, o1, o2, o3, o4, o5, o6) hx hb hr hlocks rfl (Or.inl ⟨rfl, by unfold fn_nmeet; (repeat rw [if_pos gc_2]); (repeat rw [if_pos gc_4]); (repeat rw [if_neg gc_6]); first | done | rfl | contradiction⟩) (hP.sub (ws' := [(h0, .inr (8, [.ref a1, .ref a2, .ref a3, .ref a4, .ref a5])), (h1, .inr (11, [.long n1, .long (n2 &&& (o1 ^^^ (-1))), .long n3, .long n4, .long n5, .long n6])), (h2, .inr (11, [.long o1, .long o2, .long o3, .long o4, .long o5, .long o6]))]) [0, 1, 2] rfl) (hK.sub (tys' := []) [] rfl) (hD.sub (ws' := [(h0, .inr (8, [.ref a1, .ref a2, .ref a3, .ref a4, .ref a5])), (h1, .inr (11, [.long n1, .long (n2 &&& (o1 ^^^ (-1))), .long n3, .long n4, .long n5, .long n6])), (h2, .inr (11, [.long o1, .long o2, .long o3, .long o4, .long o5, .long o6]))]) [0, 1, 2] (by decide) rfl) hS (Nat.le_of_ble_eq_true rfl) (Nat.le_of_ble_eq_true rfl) d_Reckoner_notMeet_67
      · have gc_6 : (n2 = 0) := fg_ifnz hw1_0 c_6
        refine lv_aload_n hx hb d_Reckoner_notMeet_49 rfl (lv_at hl 3 rfl) ?_
        refine lv_dup hx hb d_Reckoner_notMeet_50 rfl ?_
        refine va_get (D := D) (ci := 11) (v := .long o2) (C := "FilterGuard$Num") (T := F_Num) (N := 6) hx hb hts i_Num hown hK hP 2 rfl rfl 1 (by decide) (hts _ u_372) (fun _ h9 => h9) rfl d_Reckoner_notMeet_51 ?_
        refine lv_aload_n hx hb d_Reckoner_notMeet_54 rfl (lv_at hl 2 rfl) ?_
        refine va_get (D := D) (ci := 11) (v := .long n1) (C := "FilterGuard$Num") (T := F_Num) (N := 6) hx hb hts i_Num hown hK hP 1 rfl rfl 0 (by decide) (hts _ u_368) (fun _ h9 => h9) rfl d_Reckoner_notMeet_55 ?_
        refine lv_ldc2 hx hb hown (hts _ u_1139) d_Reckoner_notMeet_58 ?_
        refine lv_lxor hx hb d_Reckoner_notMeet_61 ?_
        refine lv_land hx hb d_Reckoner_notMeet_62 ?_
        refine va_put (D := D) (ci := 11) (v := .long (o2 &&& (n1 ^^^ (-1)))) (ty := .long) (C := "FilterGuard$Num") (T := F_Num) (N := 6) hx hb hts i_Num t_Num t_Num_ok n_Num hown hK hP hD hS 2 rfl rfl 1 (by decide) (hts _ u_372) (fun _ h9 => h9) rfl (by decide +kernel) rfl rfl (Nat.le_of_ble_eq_true rfl) d_Reckoner_notMeet_63 (fun H locs hP hD hS => ?_)
        have hP : va_P D classes [(h0, .inr (8, [.ref a1, .ref a2, .ref a3, .ref a4, .ref a5])), (h1, .inr (11, [.long n1, .long (n2 &&& (o1 ^^^ (-1))), .long n3, .long n4, .long n5, .long n6])), (h2, .inr (11, [.long o1, .long (o2 &&& (n1 ^^^ (-1))), .long o3, .long o4, .long o5, .long o6]))] H := hP
        have hD : va_D A [(h0, .inr (8, [.ref a1, .ref a2, .ref a3, .ref a4, .ref a5])), (h1, .inr (11, [.long n1, .long (n2 &&& (o1 ^^^ (-1))), .long n3, .long n4, .long n5, .long n6])), (h2, .inr (11, [.long o1, .long (o2 &&& (n1 ^^^ (-1))), .long o3, .long o4, .long o5, .long o6]))] := hD
        refine lv_iconst (v := 1) hx hb d_Reckoner_notMeet_66 (by decide) ?_
        exact fg_retz (n1, n2 &&& (o1 ^^^ (-1)), n3, n4, n5, n6, o1, o2 &&& (n1 ^^^ (-1)), o3, o4, o5, o6) hx hb hr hlocks rfl (Or.inl ⟨rfl, by unfold fn_nmeet; (repeat rw [if_pos gc_2]); (repeat rw [if_pos gc_4]); (repeat rw [if_pos gc_6]); first | done | rfl | contradiction⟩) (hP.sub (ws' := [(h0, .inr (8, [.ref a1, .ref a2, .ref a3, .ref a4, .ref a5])), (h1, .inr (11, [.long n1, .long (n2 &&& (o1 ^^^ (-1))), .long n3, .long n4, .long n5, .long n6])), (h2, .inr (11, [.long o1, .long (o2 &&& (n1 ^^^ (-1))), .long o3, .long o4, .long o5, .long o6]))]) [0, 1, 2] rfl) (hK.sub (tys' := []) [] rfl) (hD.sub (ws' := [(h0, .inr (8, [.ref a1, .ref a2, .ref a3, .ref a4, .ref a5])), (h1, .inr (11, [.long n1, .long (n2 &&& (o1 ^^^ (-1))), .long n3, .long n4, .long n5, .long n6])), (h2, .inr (11, [.long o1, .long (o2 &&& (n1 ^^^ (-1))), .long o3, .long o4, .long o5, .long o6]))]) [0, 1, 2] (by decide) rfl) hS (Nat.le_of_ble_eq_true rfl) (Nat.le_of_ble_eq_true rfl) d_Reckoner_notMeet_67
  · have gc_2 : ¬ (n1 &&& o1) = 0 := fun z => c_2 ((lg_cmp_eq _ _).mpr z)
    refine lv_iconst (v := 0) hx hb d_Reckoner_notMeet_19 (by decide) ?_
    exact fg_retz (n1, n2, n3, n4, n5, n6, o1, o2, o3, o4, o5, o6) hx hb hr hlocks rfl (Or.inr ⟨rfl, by unfold fn_nmeet; (repeat rw [if_neg gc_2]); first | done | rfl | contradiction⟩) (hP.sub (ws' := [(h0, .inr (8, [.ref a1, .ref a2, .ref a3, .ref a4, .ref a5])), (h1, .inr (11, [.long n1, .long n2, .long n3, .long n4, .long n5, .long n6])), (h2, .inr (11, [.long o1, .long o2, .long o3, .long o4, .long o5, .long o6]))]) [0, 2, 1] rfl) (hK.sub (tys' := []) [] rfl) (hD.sub (ws' := [(h0, .inr (8, [.ref a1, .ref a2, .ref a3, .ref a4, .ref a5])), (h1, .inr (11, [.long n1, .long n2, .long n3, .long n4, .long n5, .long n6])), (h2, .inr (11, [.long o1, .long o2, .long o3, .long o4, .long o5, .long o6]))]) [0, 2, 1] (by decide) rfl) hS (Nat.le_of_ble_eq_true rfl) (Nat.le_of_ble_eq_true rfl) d_Reckoner_notMeet_20
