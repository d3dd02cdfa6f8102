abbrev y_Code_familyOfMemory : MethodName := ⟨"FilterGuard$Code", "familyOfMemory", "()I"⟩
theorem d_Code_familyOfMemory_18 : decode prog_4_method_4_code 18 = .ok (.istore_n 1, 1) := by decide +kernel
theorem d_Code_familyOfMemory_19 : decode prog_4_method_4_code 19 = .ok (.aload_n 0, 1) := by decide +kernel
theorem d_Code_familyOfMemory_20 : decode prog_4_method_4_code 20 = .ok (.getfield 29, 3) := by decide +kernel
theorem u_231 : Cond.fieldLink "FilterGuard$Code" 29 "FilterGuard$Code" "op" "I" ∈ fg_g := fg_in (List.mem_of_getElem? (i := 231) (by decide +kernel)) rfl
theorem d_Code_familyOfMemory_23 : decode prog_4_method_4_code 23 = .ok (.bipush 7, 2) := by decide +kernel
theorem d_Code_familyOfMemory_25 : decode prog_4_method_4_code 25 = .ok (.iand, 1) := by decide +kernel
theorem d_Code_familyOfMemory_26 : decode prog_4_method_4_code 26 = .ok (.tableswitch 99 0 3 #[30, 45, 55, 65], 30) := by decide +kernel
theorem d_Code_familyOfMemory_56 : decode prog_4_method_4_code 56 = .ok (.aload_n 0, 1) := by decide +kernel
theorem d_Code_familyOfMemory_57 : decode prog_4_method_4_code 57 = .ok (.getfield 29, 3) := by decide +kernel
theorem d_Code_familyOfMemory_60 : decode prog_4_method_4_code 60 = .ok (.bipush 24, 2) := by decide +kernel
theorem d_Code_familyOfMemory_62 : decode prog_4_method_4_code 62 = .ok (.if_icmp .ne 7, 3) := by decide +kernel
theorem d_Code_familyOfMemory_69 : decode prog_4_method_4_code 69 = .ok (.iconst 0, 1) := by decide +kernel
theorem d_Code_familyOfMemory_70 : decode prog_4_method_4_code 70 = .ok (.ireturn, 1) := by decide +kernel
theorem d_Code_familyOfMemory_65 : decode prog_4_method_4_code 65 = .ok (.iconst 1, 1) := by decide +kernel
theorem d_Code_familyOfMemory_66 : decode prog_4_method_4_code 66 = .ok (.goto 4, 3) := by decide +kernel
theorem d_Code_familyOfMemory_71 : decode prog_4_method_4_code 71 = .ok (.iload_n 1, 1) := by decide +kernel
theorem d_Code_familyOfMemory_72 : decode prog_4_method_4_code 72 = .ok (.ifCond .eq 7, 3) := by decide +kernel
theorem d_Code_familyOfMemory_79 : decode prog_4_method_4_code 79 = .ok (.iconst 0, 1) := by decide +kernel
theorem d_Code_familyOfMemory_80 : decode prog_4_method_4_code 80 = .ok (.ireturn, 1) := by decide +kernel
theorem d_Code_familyOfMemory_75 : decode prog_4_method_4_code 75 = .ok (.iconst 2, 1) := by decide +kernel
theorem d_Code_familyOfMemory_76 : decode prog_4_method_4_code 76 = .ok (.goto 4, 3) := by decide +kernel
theorem d_Code_familyOfMemory_81 : decode prog_4_method_4_code 81 = .ok (.iload_n 1, 1) := by decide +kernel
theorem d_Code_familyOfMemory_82 : decode prog_4_method_4_code 82 = .ok (.ifCond .eq 7, 3) := by decide +kernel
theorem d_Code_familyOfMemory_89 : decode prog_4_method_4_code 89 = .ok (.iconst 0, 1) := by decide +kernel
theorem d_Code_familyOfMemory_90 : decode prog_4_method_4_code 90 = .ok (.ireturn, 1) := by decide +kernel
theorem d_Code_familyOfMemory_85 : decode prog_4_method_4_code 85 = .ok (.iconst 4, 1) := by decide +kernel
theorem d_Code_familyOfMemory_86 : decode prog_4_method_4_code 86 = .ok (.goto 4, 3) := by decide +kernel
theorem d_Code_familyOfMemory_91 : decode prog_4_method_4_code 91 = .ok (.iload_n 1, 1) := by decide +kernel
theorem d_Code_familyOfMemory_92 : decode prog_4_method_4_code 92 = .ok (.ifCond .eq 7, 3) := by decide +kernel
theorem d_Code_familyOfMemory_99 : decode prog_4_method_4_code 99 = .ok (.aload_n 0, 1) := by decide +kernel
theorem d_Code_familyOfMemory_100 : decode prog_4_method_4_code 100 = .ok (.getfield 29, 3) := by decide +kernel
theorem d_Code_familyOfMemory_103 : decode prog_4_method_4_code 103 = .ok (.sipush 219, 3) := by decide +kernel
theorem d_Code_familyOfMemory_106 : decode prog_4_method_4_code 106 = .ok (.if_icmp .eq 13, 3) := by decide +kernel
theorem d_Code_familyOfMemory_119 : decode prog_4_method_4_code 119 = .ok (.iconst 5, 1) := by decide +kernel
theorem d_Code_familyOfMemory_120 : decode prog_4_method_4_code 120 = .ok (.goto 4, 3) := by decide +kernel
theorem d_Code_familyOfMemory_124 : decode prog_4_method_4_code 124 = .ok (.ireturn, 1) := by decide +kernel
theorem d_Code_familyOfMemory_109 : decode prog_4_method_4_code 109 = .ok (.aload_n 0, 1) := by decide +kernel
theorem d_Code_familyOfMemory_110 : decode prog_4_method_4_code 110 = .ok (.getfield 29, 3) := by decide +kernel
theorem d_Code_familyOfMemory_113 : decode prog_4_method_4_code 113 = .ok (.sipush 195, 3) := by decide +kernel
theorem d_Code_familyOfMemory_116 : decode prog_4_method_4_code 116 = .ok (.if_icmp .ne 7, 3) := by decide +kernel
theorem d_Code_familyOfMemory_123 : decode prog_4_method_4_code 123 = .ok (.iconst 0, 1) := by decide +kernel
theorem d_Code_familyOfMemory_95 : decode prog_4_method_4_code 95 = .ok (.iconst 3, 1) := by decide +kernel
theorem d_Code_familyOfMemory_96 : decode prog_4_method_4_code 96 = .ok (.goto 28, 3) := by decide +kernel
theorem d_Code_familyOfMemory_125 : decode prog_4_method_4_code 125 = .ok (.iconst 0, 1) := by decide +kernel
theorem d_Code_familyOfMemory_126 : decode prog_4_method_4_code 126 = .ok (.ireturn, 1) := by decide +kernel
theorem d_Code_familyOfMemory_0 : decode prog_4_method_4_code 0 = .ok (.aload_n 0, 1) := by decide +kernel
theorem d_Code_familyOfMemory_1 : decode prog_4_method_4_code 1 = .ok (.getfield 29, 3) := by decide +kernel
theorem d_Code_familyOfMemory_4 : decode prog_4_method_4_code 4 = .ok (.sipush 224, 3) := by decide +kernel
theorem d_Code_familyOfMemory_7 : decode prog_4_method_4_code 7 = .ok (.iand, 1) := by decide +kernel
theorem d_Code_familyOfMemory_8 : decode prog_4_method_4_code 8 = .ok (.bipush 96, 2) := by decide +kernel
theorem d_Code_familyOfMemory_10 : decode prog_4_method_4_code 10 = .ok (.if_icmp .ne 7, 3) := by decide +kernel
theorem d_Code_familyOfMemory_17 : decode prog_4_method_4_code 17 = .ok (.iconst 0, 1) := by decide +kernel
theorem d_Code_familyOfMemory_13 : decode prog_4_method_4_code 13 = .ok (.iconst 1, 1) := by decide +kernel
theorem d_Code_familyOfMemory_14 : decode prog_4_method_4_code 14 = .ok (.goto 4, 3) := by decide +kernel
def rm_Code_familyOfMemory : Room := { frames := 1, cells := 0, slots := 0, locals := 20 }
abbrev q_Code_familyOfMemory (D : va_G) (h0 : Nat) (hs : Nat) (hi : Nat) (hm : Nat) (n : Nat) (cf1 : Int32) (o : Int32) (ct1 : Int32) (ct2 : Int32) (co1 : Int32) (cf2 : Int32) (cg1 : Int32) (cb1 : Int32) (cn1 : Int32) (cn2 : Int32) (cr1 : Int32) (cr2 : Int32) (A : Nat → Prop) : Array Value → Jvm.State → Outcome → Jvm.State → Prop := va_Qi (fun (r : Int32) (_ : Unit) => r = fd_mem o) (fg_B D A (fun (_ : Unit) => [(h0, .inr (2, [.ref hs, .ref hi, .ref hm, .int (nI n), .int cf1, .int o, .int ct1, .int ct2, .int co1, .int cf2, .int cg1, .int cb1, .int cn1, .int cn2, .int cr1, .int cr2]))]) (fun (_ : Unit) => [])) A
set_option maxHeartbeats 4000000 in
set_option maxRecDepth 100000 in
theorem c_Code_familyOfMemory (l : Launch) (D : va_G) (h0 : Nat) (hs : Nat) (hi : Nat) (hm : Nat) (n : Nat) (cf1 : Int32) (o : Int32) (ct1 : Int32) (ct2 : Int32) (co1 : Int32) (cf2 : Int32) (cg1 : Int32) (cb1 : Int32) (cn1 : Int32) (cn2 : Int32) (cr1 : Int32) (cr2 : Int32) (sz : Nat) : Met l y_Code_familyOfMemory (fg_w y_Code_familyOfMemory prog_4_method_4_code 2 (some .int)) rm_Code_familyOfMemory (va_Pc [.ref h0] (fg_P D [] [(h0, .inr (2, [.ref hs, .ref hi, .ref hm, .int (nI n), .int cf1, .int o, .int ct1, .int ct2, .int co1, .int cf2, .int cg1, .int cb1, .int cn1, .int cn2, .int cr1, .int cr2]))] sz)) (q_Code_familyOfMemory D h0 hs hi hm n cf1 o ct1 ct2 co1 cf2 cg1 cb1 cn1 cn2 cr1 cr2 (va_A [(h0, .inr (2, [.ref hs, .ref hi, .ref hm, .int (nI n), .int cf1, .int o, .int ct1, .int ct2, .int co1, .int cf2, .int cg1, .int cb1, .int cn1, .int cn2, .int cr1, .int cr2]))] sz)) rm_Code_familyOfMemory.cells rm_Code_familyOfMemory.slots (va_A [(h0, .inr (2, [.ref hs, .ref hi, .ref hm, .int (nI n), .int cf1, .int o, .int ct1, .int ct2, .int co1, .int cf2, .int cg1, .int cb1, .int cn1, .int cn2, .int cr1, .int cr2]))] sz) := by
  refine fg_enter (fun A => q_Code_familyOfMemory D h0 hs hi hm n cf1 o ct1 ct2 co1 cf2 cg1 cb1 cn1 cn2 cr1 cr2 A) (by decide +kernel) (Nat.le_of_ble_eq_true rfl) ?_
  intro p e s m below meth c ls A hx hb hml hown hts hr hlocks hin hP hK hD hS hA hX hl
  have hl : lv_has ls 2 [(0, .ref h0)] := hl
  have j0_0 : ∀ v0_0 : Int32, v0_0 = fd_pl o → (v0_0 = 1 ∨ v0_0 = 0) → W p l e rm_Code_familyOfMemory s m [.ref h0].toArray below meth c s.heap [] (0) (0) (MQ below (q_Code_familyOfMemory D h0 hs hi hm n cf1 o ct1 ct2 co1 cf2 cg1 cb1 cn1 cn2 cr1 cr2 A) [.ref h0].toArray s rm_Code_familyOfMemory.cells rm_Code_familyOfMemory.slots A) (F0 m 18 ls (.int v0_0 :: [])) := by
    intro v0_0 hv0_0 zv0_0
    refine lv_istore_n (lv' := [(1, .int v0_0), (0, .ref h0)]) hx hb d_Code_familyOfMemory_18 rfl hl (by decide) rfl (fun ls hl => ?_)
    refine lv_aload_n hx hb d_Code_familyOfMemory_19 rfl (lv_at hl 1 rfl) ?_
    refine va_get (D := D) (ci := 2) (v := .int o) (C := "FilterGuard$Code") (T := F_Code) (N := 16) hx hb hts i_Code hown hK hP 0 rfl rfl 5 (by decide) (hts _ u_231) (fun _ h9 => h9) rfl d_Code_familyOfMemory_20 ?_
    refine lv_bipush (v := 7) hx hb d_Code_familyOfMemory_23 (by decide) ?_
    refine lv_iand hx hb d_Code_familyOfMemory_25 ?_
    refine lv_topi (fun y_2 ey_2 => ?_)
    by_cases n_3 : y_2 = 0
    · have gn_3 : (o &&& 7) = 0 := ey_2.symm.trans n_3
      subst n_3
      refine lv_tableIn (off := 30) (tgt := 56) hx hb d_Code_familyOfMemory_26 (by decide) (by decide) (by decide) (by decide) ?_
      refine lv_aload_n hx hb d_Code_familyOfMemory_56 rfl (lv_at hl 1 rfl) ?_
      refine va_get (D := D) (ci := 2) (v := .int o) (C := "FilterGuard$Code") (T := F_Code) (N := 16) hx hb hts i_Code hown hK hP 0 rfl rfl 5 (by decide) (hts _ u_231) (fun _ h9 => h9) rfl d_Code_familyOfMemory_57 ?_
      refine lv_bipush (v := 24) hx hb d_Code_familyOfMemory_60 (by decide) ?_
      refine lv_icmp_ne (tgt := 69) hx hb d_Code_familyOfMemory_62 (by decide) (fun c_4 => ?_) (fun c_4 => ?_)
      · refine lv_iconst (v := 0) hx hb d_Code_familyOfMemory_69 (by decide) ?_
        exact fg_reti () hx hb hr hlocks (by unfold fd_mem; rw [← hv0_0]; (repeat rw [if_pos gn_3]); (repeat rw [if_neg c_4]); first | done | rfl | contradiction) (hP.sub (ws' := [(h0, .inr (2, [.ref hs, .ref hi, .ref hm, .int (nI n), .int cf1, .int o, .int ct1, .int ct2, .int co1, .int cf2, .int cg1, .int cb1, .int cn1, .int cn2, .int cr1, .int cr2]))]) [0] rfl) (hK.sub (tys' := []) [] rfl) (hD.sub (ws' := [(h0, .inr (2, [.ref hs, .ref hi, .ref hm, .int (nI n), .int cf1, .int o, .int ct1, .int ct2, .int co1, .int cf2, .int cg1, .int cb1, .int cn1, .int cn2, .int cr1, .int cr2]))]) [0] (by decide) rfl) hS (Nat.le_of_ble_eq_true rfl) (Nat.le_of_ble_eq_true rfl) d_Code_familyOfMemory_70
      · refine lv_iconst (v := 1) hx hb d_Code_familyOfMemory_65 (by decide) ?_
        refine lv_goto (tgt := 70) hx hb d_Code_familyOfMemory_66 (by decide) ?_
        exact fg_reti () hx hb hr hlocks (by unfold fd_mem; rw [← hv0_0]; (repeat rw [if_pos gn_3]); (repeat rw [if_pos c_4]); first | done | rfl | contradiction) (hP.sub (ws' := [(h0, .inr (2, [.ref hs, .ref hi, .ref hm, .int (nI n), .int cf1, .int o, .int ct1, .int ct2, .int co1, .int cf2, .int cg1, .int cb1, .int cn1, .int cn2, .int cr1, .int cr2]))]) [0] rfl) (hK.sub (tys' := []) [] rfl) (hD.sub (ws' := [(h0, .inr (2, [.ref hs, .ref hi, .ref hm, .int (nI n), .int cf1, .int o, .int ct1, .int ct2, .int co1, .int cf2, .int cg1, .int cb1, .int cn1, .int cn2, .int cr1, .int cr2]))]) [0] (by decide) rfl) hS (Nat.le_of_ble_eq_true rfl) (Nat.le_of_ble_eq_true rfl) d_Code_familyOfMemory_70
    have gn_3 : ¬ (o &&& 7) = 0 := fun z => n_3 (ey_2.trans z)
    by_cases n_5 : y_2 = 1
    · have gn_5 : (o &&& 7) = 1 := ey_2.symm.trans n_5
      subst n_5
      refine lv_tableIn (off := 45) (tgt := 71) hx hb d_Code_familyOfMemory_26 (by decide) (by decide) (by decide) (by decide) ?_
      refine lv_iload_n hx hb d_Code_familyOfMemory_71 rfl (lv_at hl 0 rfl) ?_
      refine lv_if_eq (tgt := 79) hx hb d_Code_familyOfMemory_72 (by decide) (fun c_6 => ?_) (fun c_6 => ?_)
      · refine lv_iconst (v := 0) hx hb d_Code_familyOfMemory_79 (by decide) ?_
        exact fg_reti () hx hb hr hlocks (by unfold fd_mem; rw [← hv0_0]; (repeat rw [if_neg gn_3]); (repeat rw [if_pos gn_5]); (repeat rw [if_pos c_6]); first | done | rfl | contradiction) (hP.sub (ws' := [(h0, .inr (2, [.ref hs, .ref hi, .ref hm, .int (nI n), .int cf1, .int o, .int ct1, .int ct2, .int co1, .int cf2, .int cg1, .int cb1, .int cn1, .int cn2, .int cr1, .int cr2]))]) [0] rfl) (hK.sub (tys' := []) [] rfl) (hD.sub (ws' := [(h0, .inr (2, [.ref hs, .ref hi, .ref hm, .int (nI n), .int cf1, .int o, .int ct1, .int ct2, .int co1, .int cf2, .int cg1, .int cb1, .int cn1, .int cn2, .int cr1, .int cr2]))]) [0] (by decide) rfl) hS (Nat.le_of_ble_eq_true rfl) (Nat.le_of_ble_eq_true rfl) d_Code_familyOfMemory_80
      · refine lv_iconst (v := 2) hx hb d_Code_familyOfMemory_75 (by decide) ?_
        refine lv_goto (tgt := 80) hx hb d_Code_familyOfMemory_76 (by decide) ?_
        exact fg_reti () hx hb hr hlocks (by unfold fd_mem; rw [← hv0_0]; (repeat rw [if_neg gn_3]); (repeat rw [if_pos gn_5]); (repeat rw [if_neg c_6]); first | done | rfl | contradiction) (hP.sub (ws' := [(h0, .inr (2, [.ref hs, .ref hi, .ref hm, .int (nI n), .int cf1, .int o, .int ct1, .int ct2, .int co1, .int cf2, .int cg1, .int cb1, .int cn1, .int cn2, .int cr1, .int cr2]))]) [0] rfl) (hK.sub (tys' := []) [] rfl) (hD.sub (ws' := [(h0, .inr (2, [.ref hs, .ref hi, .ref hm, .int (nI n), .int cf1, .int o, .int ct1, .int ct2, .int co1, .int cf2, .int cg1, .int cb1, .int cn1, .int cn2, .int cr1, .int cr2]))]) [0] (by decide) rfl) hS (Nat.le_of_ble_eq_true rfl) (Nat.le_of_ble_eq_true rfl) d_Code_familyOfMemory_80
    have gn_5 : ¬ (o &&& 7) = 1 := fun z => n_5 (ey_2.trans z)
    by_cases n_7 : y_2 = 2
    · have gn_7 : (o &&& 7) = 2 := ey_2.symm.trans n_7
      subst n_7
      refine lv_tableIn (off := 55) (tgt := 81) hx hb d_Code_familyOfMemory_26 (by decide) (by decide) (by decide) (by decide) ?_
      refine lv_iload_n hx hb d_Code_familyOfMemory_81 rfl (lv_at hl 0 rfl) ?_
      refine lv_if_eq (tgt := 89) hx hb d_Code_familyOfMemory_82 (by decide) (fun c_8 => ?_) (fun c_8 => ?_)
      · refine lv_iconst (v := 0) hx hb d_Code_familyOfMemory_89 (by decide) ?_
        exact fg_reti () hx hb hr hlocks (by unfold fd_mem; rw [← hv0_0]; (repeat rw [if_neg gn_3]); (repeat rw [if_neg gn_5]); (repeat rw [if_pos gn_7]); (repeat rw [if_pos c_8]); first | done | rfl | contradiction) (hP.sub (ws' := [(h0, .inr (2, [.ref hs, .ref hi, .ref hm, .int (nI n), .int cf1, .int o, .int ct1, .int ct2, .int co1, .int cf2, .int cg1, .int cb1, .int cn1, .int cn2, .int cr1, .int cr2]))]) [0] rfl) (hK.sub (tys' := []) [] rfl) (hD.sub (ws' := [(h0, .inr (2, [.ref hs, .ref hi, .ref hm, .int (nI n), .int cf1, .int o, .int ct1, .int ct2, .int co1, .int cf2, .int cg1, .int cb1, .int cn1, .int cn2, .int cr1, .int cr2]))]) [0] (by decide) rfl) hS (Nat.le_of_ble_eq_true rfl) (Nat.le_of_ble_eq_true rfl) d_Code_familyOfMemory_90
      · refine lv_iconst (v := 4) hx hb d_Code_familyOfMemory_85 (by decide) ?_
        refine lv_goto (tgt := 90) hx hb d_Code_familyOfMemory_86 (by decide) ?_
        exact fg_reti () hx hb hr hlocks (by unfold fd_mem; rw [← hv0_0]; (repeat rw [if_neg gn_3]); (repeat rw [if_neg gn_5]); (repeat rw [if_pos gn_7]); (repeat rw [if_neg c_8]); first | done | rfl | contradiction) (hP.sub (ws' := [(h0, .inr (2, [.ref hs, .ref hi, .ref hm, .int (nI n), .int cf1, .int o, .int ct1, .int ct2, .int co1, .int cf2, .int cg1, .int cb1, .int cn1, .int cn2, .int cr1, .int cr2]))]) [0] rfl) (hK.sub (tys' := []) [] rfl) (hD.sub (ws' := [(h0, .inr (2, [.ref hs, .ref hi, .ref hm, .int (nI n), .int cf1, .int o, .int ct1, .int ct2, .int co1, .int cf2, .int cg1, .int cb1, .int cn1, .int cn2, .int cr1, .int cr2]))]) [0] (by decide) rfl) hS (Nat.le_of_ble_eq_true rfl) (Nat.le_of_ble_eq_true rfl) d_Code_familyOfMemory_90
    have gn_7 : ¬ (o &&& 7) = 2 := fun z => n_7 (ey_2.trans z)
    by_cases n_9 : y_2 = 3
    · have gn_9 : (o &&& 7) = 3 := ey_2.symm.trans n_9
      subst n_9
      refine lv_tableIn (off := 65) (tgt := 91) hx hb d_Code_familyOfMemory_26 (by decide) (by decide) (by decide) (by decide) ?_
      refine lv_iload_n hx hb d_Code_familyOfMemory_91 rfl (lv_at hl 0 rfl) ?_
      refine lv_if_eq (tgt := 99) hx hb d_Code_familyOfMemory_92 (by decide) (fun c_10 => ?_) (fun c_10 => ?_)
      · refine lv_aload_n hx hb d_Code_familyOfMemory_99 rfl (lv_at hl 1 rfl) ?_
        refine va_get (D := D) (ci := 2) (v := .int o) (C := "FilterGuard$Code") (T := F_Code) (N := 16) hx hb hts i_Code hown hK hP 0 rfl rfl 5 (by decide) (hts _ u_231) (fun _ h9 => h9) rfl d_Code_familyOfMemory_100 ?_
        refine lv_sipush (v := 219) hx hb d_Code_familyOfMemory_103 (by decide) ?_
        refine lv_icmp_eq (tgt := 119) hx hb d_Code_familyOfMemory_106 (by decide) (fun c_11 => ?_) (fun c_11 => ?_)
        · refine lv_iconst (v := 5) hx hb d_Code_familyOfMemory_119 (by decide) ?_
          refine lv_goto (tgt := 124) hx hb d_Code_familyOfMemory_120 (by decide) ?_
          exact fg_reti () hx hb hr hlocks (by unfold fd_mem; rw [← hv0_0]; (repeat rw [if_neg gn_3]); (repeat rw [if_neg gn_5]); (repeat rw [if_neg gn_7]); (repeat rw [if_pos gn_9]); (repeat rw [if_pos c_10]); (repeat rw [if_pos c_11]); first | done | rfl | contradiction) (hP.sub (ws' := [(h0, .inr (2, [.ref hs, .ref hi, .ref hm, .int (nI n), .int cf1, .int o, .int ct1, .int ct2, .int co1, .int cf2, .int cg1, .int cb1, .int cn1, .int cn2, .int cr1, .int cr2]))]) [0] rfl) (hK.sub (tys' := []) [] rfl) (hD.sub (ws' := [(h0, .inr (2, [.ref hs, .ref hi, .ref hm, .int (nI n), .int cf1, .int o, .int ct1, .int ct2, .int co1, .int cf2, .int cg1, .int cb1, .int cn1, .int cn2, .int cr1, .int cr2]))]) [0] (by decide) rfl) hS (Nat.le_of_ble_eq_true rfl) (Nat.le_of_ble_eq_true rfl) d_Code_familyOfMemory_124
        · refine lv_aload_n hx hb d_Code_familyOfMemory_109 rfl (lv_at hl 1 rfl) ?_
          refine va_get (D := D) (ci := 2) (v := .int o) (C := "FilterGuard$Code") (T := F_Code) (N := 16) hx hb hts i_Code hown hK hP 0 rfl rfl 5 (by decide) (hts _ u_231) (fun _ h9 => h9) rfl d_Code_familyOfMemory_110 ?_
          refine lv_sipush (v := 195) hx hb d_Code_familyOfMemory_113 (by decide) ?_
          refine lv_icmp_ne (tgt := 123) hx hb d_Code_familyOfMemory_116 (by decide) (fun c_12 => ?_) (fun c_12 => ?_)
          · refine lv_iconst (v := 0) hx hb d_Code_familyOfMemory_123 (by decide) ?_
            exact fg_reti () hx hb hr hlocks (by unfold fd_mem; rw [← hv0_0]; (repeat rw [if_neg gn_3]); (repeat rw [if_neg gn_5]); (repeat rw [if_neg gn_7]); (repeat rw [if_pos gn_9]); (repeat rw [if_pos c_10]); (repeat rw [if_neg c_11]); (repeat rw [if_neg c_12]); first | done | rfl | contradiction) (hP.sub (ws' := [(h0, .inr (2, [.ref hs, .ref hi, .ref hm, .int (nI n), .int cf1, .int o, .int ct1, .int ct2, .int co1, .int cf2, .int cg1, .int cb1, .int cn1, .int cn2, .int cr1, .int cr2]))]) [0] rfl) (hK.sub (tys' := []) [] rfl) (hD.sub (ws' := [(h0, .inr (2, [.ref hs, .ref hi, .ref hm, .int (nI n), .int cf1, .int o, .int ct1, .int ct2, .int co1, .int cf2, .int cg1, .int cb1, .int cn1, .int cn2, .int cr1, .int cr2]))]) [0] (by decide) rfl) hS (Nat.le_of_ble_eq_true rfl) (Nat.le_of_ble_eq_true rfl) d_Code_familyOfMemory_124
          · refine lv_iconst (v := 5) hx hb d_Code_familyOfMemory_119 (by decide) ?_
            refine lv_goto (tgt := 124) hx hb d_Code_familyOfMemory_120 (by decide) ?_
            exact fg_reti () hx hb hr hlocks (by unfold fd_mem; rw [← hv0_0]; (repeat rw [if_neg gn_3]); (repeat rw [if_neg gn_5]); (repeat rw [if_neg gn_7]); (repeat rw [if_pos gn_9]); (repeat rw [if_pos c_10]); (repeat rw [if_neg c_11]); (repeat rw [if_pos c_12]); first | done | rfl | contradiction) (hP.sub (ws' := [(h0, .inr (2, [.ref hs, .ref hi, .ref hm, .int (nI n), .int cf1, .int o, .int ct1, .int ct2, .int co1, .int cf2, .int cg1, .int cb1, .int cn1, .int cn2, .int cr1, .int cr2]))]) [0] rfl) (hK.sub (tys' := []) [] rfl) (hD.sub (ws' := [(h0, .inr (2, [.ref hs, .ref hi, .ref hm, .int (nI n), .int cf1, .int o, .int ct1, .int ct2, .int co1, .int cf2, .int cg1, .int cb1, .int cn1, .int cn2, .int cr1, .int cr2]))]) [0] (by decide) rfl) hS (Nat.le_of_ble_eq_true rfl) (Nat.le_of_ble_eq_true rfl) d_Code_familyOfMemory_124
      · refine lv_iconst (v := 3) hx hb d_Code_familyOfMemory_95 (by decide) ?_
        refine lv_goto (tgt := 124) hx hb d_Code_familyOfMemory_96 (by decide) ?_
        exact fg_reti () hx hb hr hlocks (by unfold fd_mem; rw [← hv0_0]; (repeat rw [if_neg gn_3]); (repeat rw [if_neg gn_5]); (repeat rw [if_neg gn_7]); (repeat rw [if_pos gn_9]); (repeat rw [if_neg c_10]); first | done | rfl | contradiction) (hP.sub (ws' := [(h0, .inr (2, [.ref hs, .ref hi, .ref hm, .int (nI n), .int cf1, .int o, .int ct1, .int ct2, .int co1, .int cf2, .int cg1, .int cb1, .int cn1, .int cn2, .int cr1, .int cr2]))]) [0] rfl) (hK.sub (tys' := []) [] rfl) (hD.sub (ws' := [(h0, .inr (2, [.ref hs, .ref hi, .ref hm, .int (nI n), .int cf1, .int o, .int ct1, .int ct2, .int co1, .int cf2, .int cg1, .int cb1, .int cn1, .int cn2, .int cr1, .int cr2]))]) [0] (by decide) rfl) hS (Nat.le_of_ble_eq_true rfl) (Nat.le_of_ble_eq_true rfl) d_Code_familyOfMemory_124
    have gn_9 : ¬ (o &&& 7) = 3 := fun z => n_9 (ey_2.trans z)
    have in_3 := lv_neT n_3 (show (0 : Int32).toInt = 0 from rfl)
    have in_5 := lv_neT n_5 (show (1 : Int32).toInt = 1 from rfl)
    have in_7 := lv_neT n_7 (show (2 : Int32).toInt = 2 from rfl)
    have in_9 := lv_neT n_9 (show (3 : Int32).toInt = 3 from rfl)
    refine lv_tableOut (tgt := 125) hx hb d_Code_familyOfMemory_26 (by omega) (by decide) ?_
    refine lv_iconst (v := 0) hx hb d_Code_familyOfMemory_125 (by decide) ?_
    exact fg_reti () hx hb hr hlocks (by unfold fd_mem; rw [← hv0_0]; (repeat rw [if_neg gn_3]); (repeat rw [if_neg gn_5]); (repeat rw [if_neg gn_7]); (repeat rw [if_neg gn_9]); first | done | rfl | contradiction) (hP.sub (ws' := [(h0, .inr (2, [.ref hs, .ref hi, .ref hm, .int (nI n), .int cf1, .int o, .int ct1, .int ct2, .int co1, .int cf2, .int cg1, .int cb1, .int cn1, .int cn2, .int cr1, .int cr2]))]) [0] rfl) (hK.sub (tys' := []) [] rfl) (hD.sub (ws' := [(h0, .inr (2, [.ref hs, .ref hi, .ref hm, .int (nI n), .int cf1, .int o, .int ct1, .int ct2, .int co1, .int cf2, .int cg1, .int cb1, .int cn1, .int cn2, .int cr1, .int cr2]))]) [0] (by decide) rfl) hS (Nat.le_of_ble_eq_true rfl) (Nat.le_of_ble_eq_true rfl) d_Code_familyOfMemory_126
  refine lv_aload_n hx hb d_Code_familyOfMemory_0 rfl (lv_at hl 0 rfl) ?_
  refine va_get (D := D) (ci := 2) (v := .int o) (C := "FilterGuard$Code") (T := F_Code) (N := 16) hx hb hts i_Code hown hK hP 0 rfl rfl 5 (by decide) (hts _ u_231) (fun _ h9 => h9) rfl d_Code_familyOfMemory_1 ?_
  refine lv_sipush (v := 224) hx hb d_Code_familyOfMemory_4 (by decide) ?_
  refine lv_iand hx hb d_Code_familyOfMemory_7 ?_
  refine lv_bipush (v := 96) hx hb d_Code_familyOfMemory_8 (by decide) ?_
  refine lv_icmp_ne (tgt := 17) hx hb d_Code_familyOfMemory_10 (by decide) (fun c_13 => ?_) (fun c_13 => ?_)
  · refine lv_iconst (v := 0) hx hb d_Code_familyOfMemory_17 (by decide) ?_
    exact j0_0 0 (by unfold fd_pl; (repeat rw [if_neg c_13]); first | done | rfl | contradiction) (Or.inr rfl)
  · refine lv_iconst (v := 1) hx hb d_Code_familyOfMemory_13 (by decide) ?_
    refine lv_goto (tgt := 18) hx hb d_Code_familyOfMemory_14 (by decide) ?_
    exact j0_0 1 (by unfold fd_pl; (repeat rw [if_pos c_13]); first | done | rfl | contradiction) (Or.inl rfl)
abbrev y_Code_lookAtArithmetic : MethodName := ⟨"FilterGuard$Code", "lookAtArithmetic", "(Z)V"⟩
theorem d_Code_lookAtArithmetic_15 : decode prog_4_method_5_code 15 = .ok (.istore_n 2, 1) := by decide +kernel
theorem d_Code_lookAtArithmetic_16 : decode prog_4_method_5_code 16 = .ok (.aload_n 0, 1) := by decide +kernel
theorem d_Code_lookAtArithmetic_17 : decode prog_4_method_5_code 17 = .ok (.getfield 29, 3) := by decide +kernel
theorem d_Code_lookAtArithmetic_20 : decode prog_4_method_5_code 20 = .ok (.sipush 212, 3) := by decide +kernel
theorem d_Code_lookAtArithmetic_23 : decode prog_4_method_5_code 23 = .ok (.if_icmp .eq 13, 3) := by decide +kernel
theorem d_Code_lookAtArithmetic_36 : decode prog_4_method_5_code 36 = .ok (.aload_n 0, 1) := by decide +kernel
theorem d_Code_lookAtArithmetic_37 : decode prog_4_method_5_code 37 = .ok (.aload_n 0, 1) := by decide +kernel
theorem d_Code_lookAtArithmetic_38 : decode prog_4_method_5_code 38 = .ok (.getfield 29, 3) := by decide +kernel
theorem d_Code_lookAtArithmetic_41 : decode prog_4_method_5_code 41 = .ok (.sipush 212, 3) := by decide +kernel
theorem d_Code_lookAtArithmetic_44 : decode prog_4_method_5_code 44 = .ok (.if_icmp .ne 8, 3) := by decide +kernel
theorem d_Code_lookAtArithmetic_47 : decode prog_4_method_5_code 47 = .ok (.bipush 14, 2) := by decide +kernel
theorem d_Code_lookAtArithmetic_49 : decode prog_4_method_5_code 49 = .ok (.goto 5, 3) := by decide +kernel
theorem d_Code_lookAtArithmetic_54 : decode prog_4_method_5_code 54 = .ok (.putfield 58, 3) := by decide +kernel
theorem u_261 : Cond.fieldLink "FilterGuard$Code" 58 "FilterGuard$Code" "operation" "I" ∈ fg_g := fg_in (List.mem_of_getElem? (i := 261) (by decide +kernel)) rfl
theorem d_Code_lookAtArithmetic_57 : decode prog_4_method_5_code 57 = .ok (.goto 27, 3) := by decide +kernel
theorem d_Code_lookAtArithmetic_84 : decode prog_4_method_5_code 84 = .ok (.aload_n 0, 1) := by decide +kernel
theorem d_Code_lookAtArithmetic_85 : decode prog_4_method_5_code 85 = .ok (.getfield 58, 3) := by decide +kernel
theorem d_Code_lookAtArithmetic_88 : decode prog_4_method_5_code 88 = .ok (.ifCond .lt 40, 3) := by decide +kernel
theorem d_Code_lookAtArithmetic_91 : decode prog_4_method_5_code 91 = .ok (.aload_n 0, 1) := by decide +kernel
theorem d_Code_lookAtArithmetic_92 : decode prog_4_method_5_code 92 = .ok (.getfield 58, 3) := by decide +kernel
theorem d_Code_lookAtArithmetic_95 : decode prog_4_method_5_code 95 = .ok (.bipush 11, 2) := by decide +kernel
theorem d_Code_lookAtArithmetic_97 : decode prog_4_method_5_code 97 = .ok (.if_icmp .ne 7, 3) := by decide +kernel
theorem d_Code_lookAtArithmetic_104 : decode prog_4_method_5_code 104 = .ok (.aload_n 0, 1) := by decide +kernel
theorem d_Code_lookAtArithmetic_105 : decode prog_4_method_5_code 105 = .ok (.bipush 6, 2) := by decide +kernel
theorem d_Code_lookAtArithmetic_107 : decode prog_4_method_5_code 107 = .ok (.putfield 55, 3) := by decide +kernel
theorem u_252 : Cond.fieldLink "FilterGuard$Code" 55 "FilterGuard$Code" "family" "I" ∈ fg_g := fg_in (List.mem_of_getElem? (i := 252) (by decide +kernel)) rfl
theorem d_Code_lookAtArithmetic_110 : decode prog_4_method_5_code 110 = .ok (.aload_n 0, 1) := by decide +kernel
theorem d_Code_lookAtArithmetic_111 : decode prog_4_method_5_code 111 = .ok (.aload_n 0, 1) := by decide +kernel
theorem d_Code_lookAtArithmetic_112 : decode prog_4_method_5_code 112 = .ok (.getfield 58, 3) := by decide +kernel
theorem d_Code_lookAtArithmetic_115 : decode prog_4_method_5_code 115 = .ok (.bipush 12, 2) := by decide +kernel
theorem d_Code_lookAtArithmetic_117 : decode prog_4_method_5_code 117 = .ok (.if_icmp .eq 7, 3) := by decide +kernel
theorem d_Code_lookAtArithmetic_120 : decode prog_4_method_5_code 120 = .ok (.iconst 1, 1) := by decide +kernel
theorem d_Code_lookAtArithmetic_121 : decode prog_4_method_5_code 121 = .ok (.goto 4, 3) := by decide +kernel
theorem d_Code_lookAtArithmetic_125 : decode prog_4_method_5_code 125 = .ok (.putfield 65, 3) := by decide +kernel
theorem u_270 : Cond.fieldLink "FilterGuard$Code" 65 "FilterGuard$Code" "readsTo" "Z" ∈ fg_g := fg_in (List.mem_of_getElem? (i := 270) (by decide +kernel)) rfl
theorem d_Code_lookAtArithmetic_128 : decode prog_4_method_5_code 128 = .ok (.return_, 1) := by decide +kernel
theorem d_Code_lookAtArithmetic_26 : decode prog_4_method_5_code 26 = .ok (.aload_n 0, 1) := by decide +kernel
theorem d_Code_lookAtArithmetic_27 : decode prog_4_method_5_code 27 = .ok (.getfield 29, 3) := by decide +kernel
theorem d_Code_lookAtArithmetic_30 : decode prog_4_method_5_code 30 = .ok (.sipush 220, 3) := by decide +kernel
theorem d_Code_lookAtArithmetic_33 : decode prog_4_method_5_code 33 = .ok (.if_icmp .ne 27, 3) := by decide +kernel
theorem d_Code_lookAtArithmetic_60 : decode prog_4_method_5_code 60 = .ok (.aload_n 0, 1) := by decide +kernel
theorem d_Code_lookAtArithmetic_61 : decode prog_4_method_5_code 61 = .ok (.getstatic 78, 3) := by decide +kernel
theorem o_971 : Cond.fieldLinkNest "FilterGuard$Code" 78 "FilterGuard" "OPERATIONS" "[I" "FilterGuard" ∈ lw_tbl := List.mem_of_getElem? (i := 971) (by decide +kernel)
theorem d_Code_lookAtArithmetic_64 : decode prog_4_method_5_code 64 = .ok (.aload_n 0, 1) := by decide +kernel
theorem d_Code_lookAtArithmetic_65 : decode prog_4_method_5_code 65 = .ok (.getfield 29, 3) := by decide +kernel
theorem d_Code_lookAtArithmetic_68 : decode prog_4_method_5_code 68 = .ok (.iconst 4, 1) := by decide +kernel
theorem d_Code_lookAtArithmetic_69 : decode prog_4_method_5_code 69 = .ok (.ishr, 1) := by decide +kernel
theorem d_Code_lookAtArithmetic_70 : decode prog_4_method_5_code 70 = .ok (.iaload, 1) := by decide +kernel
theorem d_Code_lookAtArithmetic_71 : decode prog_4_method_5_code 71 = .ok (.putfield 58, 3) := by decide +kernel
theorem d_Code_lookAtArithmetic_74 : decode prog_4_method_5_code 74 = .ok (.aload_n 0, 1) := by decide +kernel
theorem d_Code_lookAtArithmetic_75 : decode prog_4_method_5_code 75 = .ok (.iload_n 1, 1) := by decide +kernel
theorem d_Code_lookAtArithmetic_76 : decode prog_4_method_5_code 76 = .ok (.putfield 61, 3) := by decide +kernel
theorem u_265 : Cond.fieldLink "FilterGuard$Code" 61 "FilterGuard$Code" "isNarrow" "Z" ∈ fg_g := fg_in (List.mem_of_getElem? (i := 265) (by decide +kernel)) rfl
theorem d_Code_lookAtArithmetic_79 : decode prog_4_method_5_code 79 = .ok (.aload_n 0, 1) := by decide +kernel
theorem d_Code_lookAtArithmetic_80 : decode prog_4_method_5_code 80 = .ok (.iload_n 2, 1) := by decide +kernel
theorem d_Code_lookAtArithmetic_81 : decode prog_4_method_5_code 81 = .ok (.putfield 68, 3) := by decide +kernel
theorem u_273 : Cond.fieldLink "FilterGuard$Code" 68 "FilterGuard$Code" "readsFrom" "Z" ∈ fg_g := fg_in (List.mem_of_getElem? (i := 273) (by decide +kernel)) rfl
theorem d_Code_lookAtArithmetic_124 : decode prog_4_method_5_code 124 = .ok (.iconst 0, 1) := by decide +kernel
theorem d_Code_lookAtArithmetic_100 : decode prog_4_method_5_code 100 = .ok (.iload_n 2, 1) := by decide +kernel
theorem d_Code_lookAtArithmetic_101 : decode prog_4_method_5_code 101 = .ok (.ifCond .ne 27, 3) := by decide +kernel
theorem d_Code_lookAtArithmetic_52 : decode prog_4_method_5_code 52 = .ok (.bipush 13, 2) := by decide +kernel
theorem d_Code_lookAtArithmetic_0 : decode prog_4_method_5_code 0 = .ok (.aload_n 0, 1) := by decide +kernel
theorem d_Code_lookAtArithmetic_1 : decode prog_4_method_5_code 1 = .ok (.getfield 29, 3) := by decide +kernel
theorem d_Code_lookAtArithmetic_4 : decode prog_4_method_5_code 4 = .ok (.bipush 8, 2) := by decide +kernel
theorem d_Code_lookAtArithmetic_6 : decode prog_4_method_5_code 6 = .ok (.iand, 1) := by decide +kernel
theorem d_Code_lookAtArithmetic_7 : decode prog_4_method_5_code 7 = .ok (.ifCond .eq 7, 3) := by decide +kernel
theorem d_Code_lookAtArithmetic_14 : decode prog_4_method_5_code 14 = .ok (.iconst 0, 1) := by decide +kernel
theorem d_Code_lookAtArithmetic_10 : decode prog_4_method_5_code 10 = .ok (.iconst 1, 1) := by decide +kernel
theorem d_Code_lookAtArithmetic_11 : decode prog_4_method_5_code 11 = .ok (.goto 4, 3) := by decide +kernel
def rm_Code_lookAtArithmetic : Room := { frames := 1, cells := 0, slots := 0, locals := 20 }
abbrev q_Code_lookAtArithmetic (D : va_G) (h0 : Nat) (hs : Nat) (hi : Nat) (hm : Nat) (n : Nat) (cf1 : Int32) (o : Int32) (ct1 : Int32) (ct2 : Int32) (co1 : Int32) (cf2 : Int32) (cg1 : Int32) (cb1 : Int32) (cn1 : Int32) (cn2 : Int32) (cr1 : Int32) (cr2 : Int32) (x1 : Int32) (oj : Nat) (A : Nat → Prop) : Array Value → Jvm.State → Outcome → Jvm.State → Prop := va_Qv (fun (u : Int32 × Int32 × Int32 × Int32 × Int32) => u.1 = fd_ao o ∧ u.2.1 = fd_an o x1 cn2 ∧ u.2.2.1 = fd_af o cr2 ∧ u.2.2.2.1 = fd_afam o cg1 ∧ u.2.2.2.2 = fd_art o cr1) (fg_B D A (fun (u : Int32 × Int32 × Int32 × Int32 × Int32) => [(h0, .inr (2, [.ref hs, .ref hi, .ref hm, .int (nI n), .int cf1, .int o, .int ct1, .int ct2, .int co1, .int cf2, .int u.2.2.2.1, .int cb1, .int u.1, .int u.2.1, .int u.2.2.2.2, .int u.2.2.1]))]) (fun (u : Int32 × Int32 × Int32 × Int32 × Int32) => [])) A
set_option maxHeartbeats 4000000 in
set_option maxRecDepth 100000 in
theorem c_Code_lookAtArithmetic (l : Launch) (D : va_G) (h0 : Nat) (hs : Nat) (hi : Nat) (hm : Nat) (n : Nat) (cf1 : Int32) (o : Int32) (ct1 : Int32) (ct2 : Int32) (co1 : Int32) (cf2 : Int32) (cg1 : Int32) (cb1 : Int32) (cn1 : Int32) (cn2 : Int32) (cr1 : Int32) (cr2 : Int32) (x1 : Int32) (oj : Nat) (sz : Nat) (hoj : oj < 256) (hoo : o = nI oj) (hx1 : x1 = 1 ∨ x1 = 0) : Met l y_Code_lookAtArithmetic (fg_w y_Code_lookAtArithmetic prog_4_method_5_code 3 none) rm_Code_lookAtArithmetic (va_Pc [.ref h0, .int x1] (fz_P D [] [(h0, .inr (2, [.ref hs, .ref hi, .ref hm, .int (nI n), .int cf1, .int o, .int ct1, .int ct2, .int co1, .int cf2, .int cg1, .int cb1, .int cn1, .int cn2, .int cr1, .int cr2]))] sz)) (q_Code_lookAtArithmetic D h0 hs hi hm n cf1 o ct1 ct2 co1 cf2 cg1 cb1 cn1 cn2 cr1 cr2 x1 oj (va_A [(h0, .inr (2, [.ref hs, .ref hi, .ref hm, .int (nI n), .int cf1, .int o, .int ct1, .int ct2, .int co1, .int cf2, .int cg1, .int cb1, .int cn1, .int cn2, .int cr1, .int cr2]))] sz)) rm_Code_lookAtArithmetic.cells rm_Code_lookAtArithmetic.slots (va_A [(h0, .inr (2, [.ref hs, .ref hi, .ref hm, .int (nI n), .int cf1, .int o, .int ct1, .int ct2, .int co1, .int cf2, .int cg1, .int cb1, .int cn1, .int cn2, .int cr1, .int cr2]))] sz) := by
  refine fz_enter (fun A => q_Code_lookAtArithmetic D h0 hs hi hm n cf1 o ct1 ct2 co1 cf2 cg1 cb1 cn1 cn2 cr1 cr2 x1 oj A) (by decide +kernel) (Nat.le_of_ble_eq_true rfl) ?_
  intro p e s m below meth c ls A hx hb hml hown hts hr hlocks hin hP hK hD hS hA hX hl hz
  have hl : lv_has ls 3 [(0, .ref h0), (1, .int x1)] := hl
  have j0_0 : ∀ v0_0 : Int32, v0_0 = fd_isf o → (v0_0 = 1 ∨ v0_0 = 0) → W p l e rm_Code_lookAtArithmetic s m [.ref h0, .int x1].toArray below meth c s.heap [] (0) (0) (MQ below (q_Code_lookAtArithmetic D h0 hs hi hm n cf1 o ct1 ct2 co1 cf2 cg1 cb1 cn1 cn2 cr1 cr2 x1 oj A) [.ref h0, .int x1].toArray s rm_Code_lookAtArithmetic.cells rm_Code_lookAtArithmetic.slots A) (F0 m 15 ls (.int v0_0 :: [])) := by
    intro v0_0 hv0_0 zv0_0
    refine lv_istore_n (lv' := [(2, .int v0_0), (0, .ref h0), (1, .int x1)]) hx hb d_Code_lookAtArithmetic_15 rfl hl (by decide) rfl (fun ls hl => ?_)
    refine lv_aload_n hx hb d_Code_lookAtArithmetic_16 rfl (lv_at hl 1 rfl) ?_
    refine va_get (D := D) (ci := 2) (v := .int o) (C := "FilterGuard$Code") (T := F_Code) (N := 16) hx hb hts i_Code hown hK hP 0 rfl rfl 5 (by decide) (hts _ u_231) (fun _ h9 => h9) rfl d_Code_lookAtArithmetic_17 ?_
    refine lv_sipush (v := 212) hx hb d_Code_lookAtArithmetic_20 (by decide) ?_
    refine lv_icmp_eq (tgt := 36) hx hb d_Code_lookAtArithmetic_23 (by decide) (fun c_2 => ?_) (fun c_2 => ?_)
    · refine lv_aload_n hx hb d_Code_lookAtArithmetic_36 rfl (lv_at hl 1 rfl) ?_
      refine lv_aload_n hx hb d_Code_lookAtArithmetic_37 rfl (lv_at hl 1 rfl) ?_
      refine va_get (D := D) (ci := 2) (v := .int o) (C := "FilterGuard$Code") (T := F_Code) (N := 16) hx hb hts i_Code hown hK hP 0 rfl rfl 5 (by decide) (hts _ u_231) (fun _ h9 => h9) rfl d_Code_lookAtArithmetic_38 ?_
      refine lv_sipush (v := 212) hx hb d_Code_lookAtArithmetic_41 (by decide) ?_
      refine lv_icmp_ne (tgt := 52) hx hb d_Code_lookAtArithmetic_44 (by decide) (fun c_3 => absurd c_2 c_3) (fun c_3 => ?_)
      refine lv_bipush (v := 14) hx hb d_Code_lookAtArithmetic_47 (by decide) ?_
      refine lv_goto (tgt := 54) hx hb d_Code_lookAtArithmetic_49 (by decide) ?_
      refine va_put (D := D) (ci := 2) (v := .int 14) (ty := .int) (C := "FilterGuard$Code") (T := F_Code) (N := 16) hx hb hts i_Code t_Code t_Code_ok n_Code hown hK hP hD hS 0 rfl rfl 12 (by decide) (hts _ u_261) (fun _ h9 => h9) rfl (by decide +kernel) rfl rfl (Nat.le_of_ble_eq_true rfl) d_Code_lookAtArithmetic_54 (fun H locs hP hD hS => ?_)
      have hP : va_P D classes [(h0, .inr (2, [.ref hs, .ref hi, .ref hm, .int (nI n), .int cf1, .int o, .int ct1, .int ct2, .int co1, .int cf2, .int cg1, .int cb1, .int 14, .int cn2, .int cr1, .int cr2]))] H := hP
      have hD : va_D A [(h0, .inr (2, [.ref hs, .ref hi, .ref hm, .int (nI n), .int cf1, .int o, .int ct1, .int ct2, .int co1, .int cf2, .int cg1, .int cb1, .int 14, .int cn2, .int cr1, .int cr2]))] := hD
      refine lv_goto (tgt := 84) hx hb d_Code_lookAtArithmetic_57 (by decide) ?_
      refine lv_aload_n hx hb d_Code_lookAtArithmetic_84 rfl (lv_at hl 1 rfl) ?_
      refine va_get (D := D) (ci := 2) (v := .int 14) (C := "FilterGuard$Code") (T := F_Code) (N := 16) hx hb hts i_Code hown hK hP 0 rfl rfl 12 (by decide) (hts _ u_261) (fun _ h9 => h9) rfl d_Code_lookAtArithmetic_85 ?_
      refine lv_if_lt (tgt := 128) hx hb d_Code_lookAtArithmetic_88 (by decide) (fun c_4 => absurd c_4 (by decide)) (fun c_4 => ?_)
      refine lv_aload_n hx hb d_Code_lookAtArithmetic_91 rfl (lv_at hl 1 rfl) ?_
      refine va_get (D := D) (ci := 2) (v := .int 14) (C := "FilterGuard$Code") (T := F_Code) (N := 16) hx hb hts i_Code hown hK hP 0 rfl rfl 12 (by decide) (hts _ u_261) (fun _ h9 => h9) rfl d_Code_lookAtArithmetic_92 ?_
      refine lv_bipush (v := 11) hx hb d_Code_lookAtArithmetic_95 (by decide) ?_
      refine lv_icmp_ne (tgt := 104) hx hb d_Code_lookAtArithmetic_97 (by decide) (fun c_5 => ?_) (fun c_5 => absurd c_5 (by decide))
      refine lv_aload_n hx hb d_Code_lookAtArithmetic_104 rfl (lv_at hl 1 rfl) ?_
      refine lv_bipush (v := 6) hx hb d_Code_lookAtArithmetic_105 (by decide) ?_
      refine va_put (D := D) (ci := 2) (v := .int 6) (ty := .int) (C := "FilterGuard$Code") (T := F_Code) (N := 16) hx hb hts i_Code t_Code t_Code_ok n_Code hown hK hP hD hS 0 rfl rfl 10 (by decide) (hts _ u_252) (fun _ h9 => h9) rfl (by decide +kernel) rfl rfl (Nat.le_of_ble_eq_true rfl) d_Code_lookAtArithmetic_107 (fun H locs hP hD hS => ?_)
      have hP : va_P D classes [(h0, .inr (2, [.ref hs, .ref hi, .ref hm, .int (nI n), .int cf1, .int o, .int ct1, .int ct2, .int co1, .int cf2, .int 6, .int cb1, .int 14, .int cn2, .int cr1, .int cr2]))] H := hP
      have hD : va_D A [(h0, .inr (2, [.ref hs, .ref hi, .ref hm, .int (nI n), .int cf1, .int o, .int ct1, .int ct2, .int co1, .int cf2, .int 6, .int cb1, .int 14, .int cn2, .int cr1, .int cr2]))] := hD
      refine lv_aload_n hx hb d_Code_lookAtArithmetic_110 rfl (lv_at hl 1 rfl) ?_
      refine lv_aload_n hx hb d_Code_lookAtArithmetic_111 rfl (lv_at hl 1 rfl) ?_
      refine va_get (D := D) (ci := 2) (v := .int 14) (C := "FilterGuard$Code") (T := F_Code) (N := 16) hx hb hts i_Code hown hK hP 0 rfl rfl 12 (by decide) (hts _ u_261) (fun _ h9 => h9) rfl d_Code_lookAtArithmetic_112 ?_
      refine lv_bipush (v := 12) hx hb d_Code_lookAtArithmetic_115 (by decide) ?_
      refine lv_icmp_eq (tgt := 124) hx hb d_Code_lookAtArithmetic_117 (by decide) (fun c_6 => absurd c_6 (by decide)) (fun c_6 => ?_)
      refine lv_iconst (v := 1) hx hb d_Code_lookAtArithmetic_120 (by decide) ?_
      refine lv_goto (tgt := 125) hx hb d_Code_lookAtArithmetic_121 (by decide) ?_
      refine va_put (D := D) (ci := 2) (v := .int 1) (ty := .boolean) (C := "FilterGuard$Code") (T := F_Code) (N := 16) hx hb hts i_Code t_Code t_Code_ok n_Code hown hK hP hD hS 0 rfl rfl 14 (by decide) (hts _ u_270) (fun _ h9 => h9) rfl (by decide +kernel) rfl rfl (Nat.le_of_ble_eq_true rfl) d_Code_lookAtArithmetic_125 (fun H locs hP hD hS => ?_)
      have hP : va_P D classes [(h0, .inr (2, [.ref hs, .ref hi, .ref hm, .int (nI n), .int cf1, .int o, .int ct1, .int ct2, .int co1, .int cf2, .int 6, .int cb1, .int 14, .int cn2, .int 1, .int cr2]))] H := hP
      have hD : va_D A [(h0, .inr (2, [.ref hs, .ref hi, .ref hm, .int (nI n), .int cf1, .int o, .int ct1, .int ct2, .int co1, .int cf2, .int 6, .int cb1, .int 14, .int cn2, .int 1, .int cr2]))] := hD
      have e1 : fd_ao o = 14 := (by unfold fd_ao; (repeat rw [if_pos c_2]); first | done | rfl | contradiction)
      have e2 : 1 = fd_ag o := (by unfold fd_ag; try rw [e1]; try rw [← hv0_0]; (repeat rw [if_pos c_2]); first | done | rfl | contradiction)
      exact fg_retv (14, cn2, cr2, 6, 1) hx hb hr hlocks ⟨e1.symm, (by unfold fd_an; (repeat rw [if_pos c_2]); first | done | rfl | contradiction), (by unfold fd_af; try rw [← hv0_0]; (repeat rw [if_pos c_2]); first | done | rfl | contradiction), (by unfold fd_afam; try rw [← e2]; (repeat rw [if_pos c_2]); first | done | rfl | contradiction), (by unfold fd_art; try rw [← e2]; try rw [e1]; (repeat rw [if_pos c_2]); first | done | rfl | contradiction)⟩ (hP.sub (ws' := [(h0, .inr (2, [.ref hs, .ref hi, .ref hm, .int (nI n), .int cf1, .int o, .int ct1, .int ct2, .int co1, .int cf2, .int 6, .int cb1, .int 14, .int cn2, .int 1, .int cr2]))]) [0] rfl) (hK.sub (tys' := []) [] rfl) (hD.sub (ws' := [(h0, .inr (2, [.ref hs, .ref hi, .ref hm, .int (nI n), .int cf1, .int o, .int ct1, .int ct2, .int co1, .int cf2, .int 6, .int cb1, .int 14, .int cn2, .int 1, .int cr2]))]) [0] (by decide) rfl) hS (Nat.le_of_ble_eq_true rfl) (Nat.le_of_ble_eq_true rfl) d_Code_lookAtArithmetic_128
    · refine lv_aload_n hx hb d_Code_lookAtArithmetic_26 rfl (lv_at hl 1 rfl) ?_
      refine va_get (D := D) (ci := 2) (v := .int o) (C := "FilterGuard$Code") (T := F_Code) (N := 16) hx hb hts i_Code hown hK hP 0 rfl rfl 5 (by decide) (hts _ u_231) (fun _ h9 => h9) rfl d_Code_lookAtArithmetic_27 ?_
      refine lv_sipush (v := 220) hx hb d_Code_lookAtArithmetic_30 (by decide) ?_
      refine lv_icmp_ne (tgt := 60) hx hb d_Code_lookAtArithmetic_33 (by decide) (fun c_7 => ?_) (fun c_7 => ?_)
      · refine lv_aload_n hx hb d_Code_lookAtArithmetic_60 rfl (lv_at hl 1 rfl) ?_
        obtain ⟨z7, hz7, hs7, hna7, hnl7⟩ := hz.2.1
        refine va_getsN hx hb hz7 hS hown (va_Nw.use rfl (hX _ o_971 rfl)) (fun _ h9 => h9) d_Code_lookAtArithmetic_61 ?_
        refine lv_aload_n hx hb d_Code_lookAtArithmetic_64 rfl (lv_at hl 1 rfl) ?_
        refine va_get (D := D) (ci := 2) (v := .int o) (C := "FilterGuard$Code") (T := F_Code) (N := 16) hx hb hts i_Code hown hK hP 0 rfl rfl 5 (by decide) (hts _ u_231) (fun _ h9 => h9) rfl d_Code_lookAtArithmetic_65 ?_
        refine lv_iconst (v := 4) hx hb d_Code_lookAtArithmetic_68 (by decide) ?_
        refine lv_ishr hx hb d_Code_lookAtArithmetic_69 ?_
        refine fg_topi (y := fd_hi o) rfl ?_
        refine va_sld hx hb hs7 hnl7 hna7 hS (fd_hi_in hoj hoo) d_Code_lookAtArithmetic_70 ?_
        refine va_put (D := D) (ci := 2) (v := .int (fz_o (fd_hi o).toNatClampNeg)) (ty := .int) (C := "FilterGuard$Code") (T := F_Code) (N := 16) hx hb hts i_Code t_Code t_Code_ok n_Code hown hK hP hD hS 0 rfl rfl 12 (by decide) (hts _ u_261) (fun _ h9 => h9) rfl (by decide +kernel) rfl rfl (Nat.le_of_ble_eq_true rfl) d_Code_lookAtArithmetic_71 (fun H locs hP hD hS => ?_)
        have hP : va_P D classes [(h0, .inr (2, [.ref hs, .ref hi, .ref hm, .int (nI n), .int cf1, .int o, .int ct1, .int ct2, .int co1, .int cf2, .int cg1, .int cb1, .int (fz_o (fd_hi o).toNatClampNeg), .int cn2, .int cr1, .int cr2]))] H := hP
        have hD : va_D A [(h0, .inr (2, [.ref hs, .ref hi, .ref hm, .int (nI n), .int cf1, .int o, .int ct1, .int ct2, .int co1, .int cf2, .int cg1, .int cb1, .int (fz_o (fd_hi o).toNatClampNeg), .int cn2, .int cr1, .int cr2]))] := hD
        refine lv_aload_n hx hb d_Code_lookAtArithmetic_74 rfl (lv_at hl 1 rfl) ?_
        refine lv_iload_n hx hb d_Code_lookAtArithmetic_75 rfl (lv_at hl 2 rfl) ?_
        refine va_put (D := D) (ci := 2) (v := .int x1) (ty := .boolean) (C := "FilterGuard$Code") (T := F_Code) (N := 16) hx hb hts i_Code t_Code t_Code_ok n_Code hown hK hP hD hS 0 rfl rfl 13 (by decide) (hts _ u_265) (fun _ h9 => h9) rfl (by decide +kernel) (fg_nz01 hx1) (fg_fi01 hx1) (Nat.le_of_ble_eq_true rfl) d_Code_lookAtArithmetic_76 (fun H locs hP hD hS => ?_)
        have hP : va_P D classes [(h0, .inr (2, [.ref hs, .ref hi, .ref hm, .int (nI n), .int cf1, .int o, .int ct1, .int ct2, .int co1, .int cf2, .int cg1, .int cb1, .int (fz_o (fd_hi o).toNatClampNeg), .int x1, .int cr1, .int cr2]))] H := hP
        have hD : va_D A [(h0, .inr (2, [.ref hs, .ref hi, .ref hm, .int (nI n), .int cf1, .int o, .int ct1, .int ct2, .int co1, .int cf2, .int cg1, .int cb1, .int (fz_o (fd_hi o).toNatClampNeg), .int x1, .int cr1, .int cr2]))] := hD
        refine lv_aload_n hx hb d_Code_lookAtArithmetic_79 rfl (lv_at hl 1 rfl) ?_
        refine lv_iload_n hx hb d_Code_lookAtArithmetic_80 rfl (lv_at hl 0 rfl) ?_
        refine va_put (D := D) (ci := 2) (v := .int v0_0) (ty := .boolean) (C := "FilterGuard$Code") (T := F_Code) (N := 16) hx hb hts i_Code t_Code t_Code_ok n_Code hown hK hP hD hS 0 rfl rfl 15 (by decide) (hts _ u_273) (fun _ h9 => h9) rfl (by decide +kernel) (fg_nz01 zv0_0) (fg_fi01 zv0_0) (Nat.le_of_ble_eq_true rfl) d_Code_lookAtArithmetic_81 (fun H locs hP hD hS => ?_)
        have hP : va_P D classes [(h0, .inr (2, [.ref hs, .ref hi, .ref hm, .int (nI n), .int cf1, .int o, .int ct1, .int ct2, .int co1, .int cf2, .int cg1, .int cb1, .int (fz_o (fd_hi o).toNatClampNeg), .int x1, .int cr1, .int v0_0]))] H := hP
        have hD : va_D A [(h0, .inr (2, [.ref hs, .ref hi, .ref hm, .int (nI n), .int cf1, .int o, .int ct1, .int ct2, .int co1, .int cf2, .int cg1, .int cb1, .int (fz_o (fd_hi o).toNatClampNeg), .int x1, .int cr1, .int v0_0]))] := hD
        refine lv_aload_n hx hb d_Code_lookAtArithmetic_84 rfl (lv_at hl 1 rfl) ?_
        refine va_get (D := D) (ci := 2) (v := .int (fz_o (fd_hi o).toNatClampNeg)) (C := "FilterGuard$Code") (T := F_Code) (N := 16) hx hb hts i_Code hown hK hP 0 rfl rfl 12 (by decide) (hts _ u_261) (fun _ h9 => h9) rfl d_Code_lookAtArithmetic_85 ?_
        refine lv_if_lt (tgt := 128) hx hb d_Code_lookAtArithmetic_88 (by decide) (fun c_9 => ?_) (fun c_9 => ?_)
        · have e1 : fd_ao o = fz_o (fd_hi o).toNatClampNeg := (by unfold fd_ao; (repeat rw [if_neg c_2]); (repeat rw [if_neg c_7]); (repeat rw [if_pos c_9]); first | done | rfl | contradiction)
          have e2 : 0 = fd_ag o := (by unfold fd_ag; try rw [e1]; try rw [← hv0_0]; (repeat rw [if_neg c_2]); (repeat rw [if_neg c_7]); (repeat rw [if_pos c_9]); first | done | rfl | contradiction)
          exact fg_retv (fz_o (fd_hi o).toNatClampNeg, x1, v0_0, cg1, cr1) hx hb hr hlocks ⟨e1.symm, (by unfold fd_an; (repeat rw [if_neg c_2]); (repeat rw [if_neg c_7]); (repeat rw [if_pos c_9]); first | done | rfl | contradiction), (by unfold fd_af; try rw [← hv0_0]; (repeat rw [if_neg c_2]); (repeat rw [if_neg c_7]); (repeat rw [if_pos c_9]); first | done | rfl | contradiction), (by unfold fd_afam; try rw [← e2]; (repeat rw [if_neg c_2]); (repeat rw [if_neg c_7]); (repeat rw [if_pos c_9]); first | done | rfl | contradiction), (by unfold fd_art; try rw [← e2]; try rw [e1]; (repeat rw [if_neg c_2]); (repeat rw [if_neg c_7]); (repeat rw [if_pos c_9]); first | done | rfl | contradiction)⟩ (hP.sub (ws' := [(h0, .inr (2, [.ref hs, .ref hi, .ref hm, .int (nI n), .int cf1, .int o, .int ct1, .int ct2, .int co1, .int cf2, .int cg1, .int cb1, .int (fz_o (fd_hi o).toNatClampNeg), .int x1, .int cr1, .int v0_0]))]) [0] rfl) (hK.sub (tys' := []) [] rfl) (hD.sub (ws' := [(h0, .inr (2, [.ref hs, .ref hi, .ref hm, .int (nI n), .int cf1, .int o, .int ct1, .int ct2, .int co1, .int cf2, .int cg1, .int cb1, .int (fz_o (fd_hi o).toNatClampNeg), .int x1, .int cr1, .int v0_0]))]) [0] (by decide) rfl) hS (Nat.le_of_ble_eq_true rfl) (Nat.le_of_ble_eq_true rfl) d_Code_lookAtArithmetic_128
        · refine lv_aload_n hx hb d_Code_lookAtArithmetic_91 rfl (lv_at hl 1 rfl) ?_
          refine va_get (D := D) (ci := 2) (v := .int (fz_o (fd_hi o).toNatClampNeg)) (C := "FilterGuard$Code") (T := F_Code) (N := 16) hx hb hts i_Code hown hK hP 0 rfl rfl 12 (by decide) (hts _ u_261) (fun _ h9 => h9) rfl d_Code_lookAtArithmetic_92 ?_
          refine lv_bipush (v := 11) hx hb d_Code_lookAtArithmetic_95 (by decide) ?_
          refine lv_icmp_ne (tgt := 104) hx hb d_Code_lookAtArithmetic_97 (by decide) (fun c_10 => ?_) (fun c_10 => ?_)
          · refine lv_aload_n hx hb d_Code_lookAtArithmetic_104 rfl (lv_at hl 1 rfl) ?_
            refine lv_bipush (v := 6) hx hb d_Code_lookAtArithmetic_105 (by decide) ?_
            refine va_put (D := D) (ci := 2) (v := .int 6) (ty := .int) (C := "FilterGuard$Code") (T := F_Code) (N := 16) hx hb hts i_Code t_Code t_Code_ok n_Code hown hK hP hD hS 0 rfl rfl 10 (by decide) (hts _ u_252) (fun _ h9 => h9) rfl (by decide +kernel) rfl rfl (Nat.le_of_ble_eq_true rfl) d_Code_lookAtArithmetic_107 (fun H locs hP hD hS => ?_)
            have hP : va_P D classes [(h0, .inr (2, [.ref hs, .ref hi, .ref hm, .int (nI n), .int cf1, .int o, .int ct1, .int ct2, .int co1, .int cf2, .int 6, .int cb1, .int (fz_o (fd_hi o).toNatClampNeg), .int x1, .int cr1, .int v0_0]))] H := hP
            have hD : va_D A [(h0, .inr (2, [.ref hs, .ref hi, .ref hm, .int (nI n), .int cf1, .int o, .int ct1, .int ct2, .int co1, .int cf2, .int 6, .int cb1, .int (fz_o (fd_hi o).toNatClampNeg), .int x1, .int cr1, .int v0_0]))] := hD
            refine lv_aload_n hx hb d_Code_lookAtArithmetic_110 rfl (lv_at hl 1 rfl) ?_
            refine lv_aload_n hx hb d_Code_lookAtArithmetic_111 rfl (lv_at hl 1 rfl) ?_
            refine va_get (D := D) (ci := 2) (v := .int (fz_o (fd_hi o).toNatClampNeg)) (C := "FilterGuard$Code") (T := F_Code) (N := 16) hx hb hts i_Code hown hK hP 0 rfl rfl 12 (by decide) (hts _ u_261) (fun _ h9 => h9) rfl d_Code_lookAtArithmetic_112 ?_
            refine lv_bipush (v := 12) hx hb d_Code_lookAtArithmetic_115 (by decide) ?_
            refine lv_icmp_eq (tgt := 124) hx hb d_Code_lookAtArithmetic_117 (by decide) (fun c_11 => ?_) (fun c_11 => ?_)
            · refine lv_iconst (v := 0) hx hb d_Code_lookAtArithmetic_124 (by decide) ?_
              refine va_put (D := D) (ci := 2) (v := .int 0) (ty := .boolean) (C := "FilterGuard$Code") (T := F_Code) (N := 16) hx hb hts i_Code t_Code t_Code_ok n_Code hown hK hP hD hS 0 rfl rfl 14 (by decide) (hts _ u_270) (fun _ h9 => h9) rfl (by decide +kernel) rfl rfl (Nat.le_of_ble_eq_true rfl) d_Code_lookAtArithmetic_125 (fun H locs hP hD hS => ?_)
              have hP : va_P D classes [(h0, .inr (2, [.ref hs, .ref hi, .ref hm, .int (nI n), .int cf1, .int o, .int ct1, .int ct2, .int co1, .int cf2, .int 6, .int cb1, .int (fz_o (fd_hi o).toNatClampNeg), .int x1, .int 0, .int v0_0]))] H := hP
              have hD : va_D A [(h0, .inr (2, [.ref hs, .ref hi, .ref hm, .int (nI n), .int cf1, .int o, .int ct1, .int ct2, .int co1, .int cf2, .int 6, .int cb1, .int (fz_o (fd_hi o).toNatClampNeg), .int x1, .int 0, .int v0_0]))] := hD
              have e1 : fd_ao o = fz_o (fd_hi o).toNatClampNeg := (by unfold fd_ao; (repeat rw [if_neg c_2]); (repeat rw [if_neg c_7]); (repeat rw [if_neg c_9]); (repeat rw [if_neg c_10]); (repeat rw [if_pos c_11]); first | done | rfl | contradiction)
              have e2 : 1 = fd_ag o := (by unfold fd_ag; try rw [e1]; try rw [← hv0_0]; (repeat rw [if_neg c_2]); (repeat rw [if_neg c_7]); (repeat rw [if_neg c_9]); (repeat rw [if_neg c_10]); (repeat rw [if_pos c_11]); first | done | rfl | contradiction)
              exact fg_retv (fz_o (fd_hi o).toNatClampNeg, x1, v0_0, 6, 0) hx hb hr hlocks ⟨e1.symm, (by unfold fd_an; (repeat rw [if_neg c_2]); (repeat rw [if_neg c_7]); (repeat rw [if_neg c_9]); (repeat rw [if_neg c_10]); (repeat rw [if_pos c_11]); first | done | rfl | contradiction), (by unfold fd_af; try rw [← hv0_0]; (repeat rw [if_neg c_2]); (repeat rw [if_neg c_7]); (repeat rw [if_neg c_9]); (repeat rw [if_neg c_10]); (repeat rw [if_pos c_11]); first | done | rfl | contradiction), (by unfold fd_afam; try rw [← e2]; (repeat rw [if_neg c_2]); (repeat rw [if_neg c_7]); (repeat rw [if_neg c_9]); (repeat rw [if_neg c_10]); (repeat rw [if_pos c_11]); first | done | rfl | contradiction), (by unfold fd_art; try rw [← e2]; try rw [e1]; (repeat rw [if_neg c_2]); (repeat rw [if_neg c_7]); (repeat rw [if_neg c_9]); (repeat rw [if_neg c_10]); (repeat rw [if_pos c_11]); first | done | rfl | contradiction)⟩ (hP.sub (ws' := [(h0, .inr (2, [.ref hs, .ref hi, .ref hm, .int (nI n), .int cf1, .int o, .int ct1, .int ct2, .int co1, .int cf2, .int 6, .int cb1, .int (fz_o (fd_hi o).toNatClampNeg), .int x1, .int 0, .int v0_0]))]) [0] rfl) (hK.sub (tys' := []) [] rfl) (hD.sub (ws' := [(h0, .inr (2, [.ref hs, .ref hi, .ref hm, .int (nI n), .int cf1, .int o, .int ct1, .int ct2, .int co1, .int cf2, .int 6, .int cb1, .int (fz_o (fd_hi o).toNatClampNeg), .int x1, .int 0, .int v0_0]))]) [0] (by decide) rfl) hS (Nat.le_of_ble_eq_true rfl) (Nat.le_of_ble_eq_true rfl) d_Code_lookAtArithmetic_128
            · refine lv_iconst (v := 1) hx hb d_Code_lookAtArithmetic_120 (by decide) ?_
              refine lv_goto (tgt := 125) hx hb d_Code_lookAtArithmetic_121 (by decide) ?_
              refine va_put (D := D) (ci := 2) (v := .int 1) (ty := .boolean) (C := "FilterGuard$Code") (T := F_Code) (N := 16) hx hb hts i_Code t_Code t_Code_ok n_Code hown hK hP hD hS 0 rfl rfl 14 (by decide) (hts _ u_270) (fun _ h9 => h9) rfl (by decide +kernel) rfl rfl (Nat.le_of_ble_eq_true rfl) d_Code_lookAtArithmetic_125 (fun H locs hP hD hS => ?_)
              have hP : va_P D classes [(h0, .inr (2, [.ref hs, .ref hi, .ref hm, .int (nI n), .int cf1, .int o, .int ct1, .int ct2, .int co1, .int cf2, .int 6, .int cb1, .int (fz_o (fd_hi o).toNatClampNeg), .int x1, .int 1, .int v0_0]))] H := hP
              have hD : va_D A [(h0, .inr (2, [.ref hs, .ref hi, .ref hm, .int (nI n), .int cf1, .int o, .int ct1, .int ct2, .int co1, .int cf2, .int 6, .int cb1, .int (fz_o (fd_hi o).toNatClampNeg), .int x1, .int 1, .int v0_0]))] := hD
              have e1 : fd_ao o = fz_o (fd_hi o).toNatClampNeg := (by unfold fd_ao; (repeat rw [if_neg c_2]); (repeat rw [if_neg c_7]); (repeat rw [if_neg c_9]); (repeat rw [if_neg c_10]); (repeat rw [if_neg c_11]); first | done | rfl | contradiction)
              have e2 : 1 = fd_ag o := (by unfold fd_ag; try rw [e1]; try rw [← hv0_0]; (repeat rw [if_neg c_2]); (repeat rw [if_neg c_7]); (repeat rw [if_neg c_9]); (repeat rw [if_neg c_10]); (repeat rw [if_neg c_11]); first | done | rfl | contradiction)
              exact fg_retv (fz_o (fd_hi o).toNatClampNeg, x1, v0_0, 6, 1) hx hb hr hlocks ⟨e1.symm, (by unfold fd_an; (repeat rw [if_neg c_2]); (repeat rw [if_neg c_7]); (repeat rw [if_neg c_9]); (repeat rw [if_neg c_10]); (repeat rw [if_neg c_11]); first | done | rfl | contradiction), (by unfold fd_af; try rw [← hv0_0]; (repeat rw [if_neg c_2]); (repeat rw [if_neg c_7]); (repeat rw [if_neg c_9]); (repeat rw [if_neg c_10]); (repeat rw [if_neg c_11]); first | done | rfl | contradiction), (by unfold fd_afam; try rw [← e2]; (repeat rw [if_neg c_2]); (repeat rw [if_neg c_7]); (repeat rw [if_neg c_9]); (repeat rw [if_neg c_10]); (repeat rw [if_neg c_11]); first | done | rfl | contradiction), (by unfold fd_art; try rw [← e2]; try rw [e1]; (repeat rw [if_neg c_2]); (repeat rw [if_neg c_7]); (repeat rw [if_neg c_9]); (repeat rw [if_neg c_10]); (repeat rw [if_neg c_11]); first | done | rfl | contradiction)⟩ (hP.sub (ws' := [(h0, .inr (2, [.ref hs, .ref hi, .ref hm, .int (nI n), .int cf1, .int o, .int ct1, .int ct2, .int co1, .int cf2, .int 6, .int cb1, .int (fz_o (fd_hi o).toNatClampNeg), .int x1, .int 1, .int v0_0]))]) [0] rfl) (hK.sub (tys' := []) [] rfl) (hD.sub (ws' := [(h0, .inr (2, [.ref hs, .ref hi, .ref hm, .int (nI n), .int cf1, .int o, .int ct1, .int ct2, .int co1, .int cf2, .int 6, .int cb1, .int (fz_o (fd_hi o).toNatClampNeg), .int x1, .int 1, .int v0_0]))]) [0] (by decide) rfl) hS (Nat.le_of_ble_eq_true rfl) (Nat.le_of_ble_eq_true rfl) d_Code_lookAtArithmetic_128
          · refine lv_iload_n hx hb d_Code_lookAtArithmetic_100 rfl (lv_at hl 0 rfl) ?_
            refine lv_if_ne (tgt := 128) hx hb d_Code_lookAtArithmetic_101 (by decide) (fun c_12 => ?_) (fun c_12 => ?_)
            · have e1 : fd_ao o = fz_o (fd_hi o).toNatClampNeg := (by unfold fd_ao; (repeat rw [if_neg c_2]); (repeat rw [if_neg c_7]); (repeat rw [if_neg c_9]); (repeat rw [if_pos c_10]); (repeat rw [if_neg c_12]); first | done | rfl | contradiction)
              have e2 : 0 = fd_ag o := (by unfold fd_ag; try rw [e1]; try rw [← hv0_0]; (repeat rw [if_neg c_2]); (repeat rw [if_neg c_7]); (repeat rw [if_neg c_9]); (repeat rw [if_pos c_10]); (repeat rw [if_neg c_12]); first | done | rfl | contradiction)
              exact fg_retv (fz_o (fd_hi o).toNatClampNeg, x1, v0_0, cg1, cr1) hx hb hr hlocks ⟨e1.symm, (by unfold fd_an; (repeat rw [if_neg c_2]); (repeat rw [if_neg c_7]); (repeat rw [if_neg c_9]); (repeat rw [if_pos c_10]); (repeat rw [if_neg c_12]); first | done | rfl | contradiction), (by unfold fd_af; try rw [← hv0_0]; (repeat rw [if_neg c_2]); (repeat rw [if_neg c_7]); (repeat rw [if_neg c_9]); (repeat rw [if_pos c_10]); (repeat rw [if_neg c_12]); first | done | rfl | contradiction), (by unfold fd_afam; try rw [← e2]; (repeat rw [if_neg c_2]); (repeat rw [if_neg c_7]); (repeat rw [if_neg c_9]); (repeat rw [if_pos c_10]); (repeat rw [if_neg c_12]); first | done | rfl | contradiction), (by unfold fd_art; try rw [← e2]; try rw [e1]; (repeat rw [if_neg c_2]); (repeat rw [if_neg c_7]); (repeat rw [if_neg c_9]); (repeat rw [if_pos c_10]); (repeat rw [if_neg c_12]); first | done | rfl | contradiction)⟩ (hP.sub (ws' := [(h0, .inr (2, [.ref hs, .ref hi, .ref hm, .int (nI n), .int cf1, .int o, .int ct1, .int ct2, .int co1, .int cf2, .int cg1, .int cb1, .int (fz_o (fd_hi o).toNatClampNeg), .int x1, .int cr1, .int v0_0]))]) [0] rfl) (hK.sub (tys' := []) [] rfl) (hD.sub (ws' := [(h0, .inr (2, [.ref hs, .ref hi, .ref hm, .int (nI n), .int cf1, .int o, .int ct1, .int ct2, .int co1, .int cf2, .int cg1, .int cb1, .int (fz_o (fd_hi o).toNatClampNeg), .int x1, .int cr1, .int v0_0]))]) [0] (by decide) rfl) hS (Nat.le_of_ble_eq_true rfl) (Nat.le_of_ble_eq_true rfl) d_Code_lookAtArithmetic_128
            · refine lv_aload_n hx hb d_Code_lookAtArithmetic_104 rfl (lv_at hl 1 rfl) ?_
              refine lv_bipush (v := 6) hx hb d_Code_lookAtArithmetic_105 (by decide) ?_
              refine va_put (D := D) (ci := 2) (v := .int 6) (ty := .int) (C := "FilterGuard$Code") (T := F_Code) (N := 16) hx hb hts i_Code t_Code t_Code_ok n_Code hown hK hP hD hS 0 rfl rfl 10 (by decide) (hts _ u_252) (fun _ h9 => h9) rfl (by decide +kernel) rfl rfl (Nat.le_of_ble_eq_true rfl) d_Code_lookAtArithmetic_107 (fun H locs hP hD hS => ?_)
              have hP : va_P D classes [(h0, .inr (2, [.ref hs, .ref hi, .ref hm, .int (nI n), .int cf1, .int o, .int ct1, .int ct2, .int co1, .int cf2, .int 6, .int cb1, .int (fz_o (fd_hi o).toNatClampNeg), .int x1, .int cr1, .int v0_0]))] H := hP
              have hD : va_D A [(h0, .inr (2, [.ref hs, .ref hi, .ref hm, .int (nI n), .int cf1, .int o, .int ct1, .int ct2, .int co1, .int cf2, .int 6, .int cb1, .int (fz_o (fd_hi o).toNatClampNeg), .int x1, .int cr1, .int v0_0]))] := hD
              refine lv_aload_n hx hb d_Code_lookAtArithmetic_110 rfl (lv_at hl 1 rfl) ?_
              refine lv_aload_n hx hb d_Code_lookAtArithmetic_111 rfl (lv_at hl 1 rfl) ?_
              refine va_get (D := D) (ci := 2) (v := .int (fz_o (fd_hi o).toNatClampNeg)) (C := "FilterGuard$Code") (T := F_Code) (N := 16) hx hb hts i_Code hown hK hP 0 rfl rfl 12 (by decide) (hts _ u_261) (fun _ h9 => h9) rfl d_Code_lookAtArithmetic_112 ?_
              refine lv_bipush (v := 12) hx hb d_Code_lookAtArithmetic_115 (by decide) ?_
              have gk_14 : ¬ (fz_o (fd_hi o).toNatClampNeg) = 12 := (fun z9 => absurd (c_10.symm.trans z9) (by decide))
              refine lv_icmp_eq (tgt := 124) hx hb d_Code_lookAtArithmetic_117 (by decide) (fun c_13 => absurd c_13 gk_14) (fun c_13 => ?_)
              refine lv_iconst (v := 1) hx hb d_Code_lookAtArithmetic_120 (by decide) ?_
              refine lv_goto (tgt := 125) hx hb d_Code_lookAtArithmetic_121 (by decide) ?_
              refine va_put (D := D) (ci := 2) (v := .int 1) (ty := .boolean) (C := "FilterGuard$Code") (T := F_Code) (N := 16) hx hb hts i_Code t_Code t_Code_ok n_Code hown hK hP hD hS 0 rfl rfl 14 (by decide) (hts _ u_270) (fun _ h9 => h9) rfl (by decide +kernel) rfl rfl (Nat.le_of_ble_eq_true rfl) d_Code_lookAtArithmetic_125 (fun H locs hP hD hS => ?_)
              have hP : va_P D classes [(h0, .inr (2, [.ref hs, .ref hi, .ref hm, .int (nI n), .int cf1, .int o, .int ct1, .int ct2, .int co1, .int cf2, .int 6, .int cb1, .int (fz_o (fd_hi o).toNatClampNeg), .int x1, .int 1, .int v0_0]))] H := hP
              have hD : va_D A [(h0, .inr (2, [.ref hs, .ref hi, .ref hm, .int (nI n), .int cf1, .int o, .int ct1, .int ct2, .int co1, .int cf2, .int 6, .int cb1, .int (fz_o (fd_hi o).toNatClampNeg), .int x1, .int 1, .int v0_0]))] := hD
              have e1 : fd_ao o = fz_o (fd_hi o).toNatClampNeg := (by unfold fd_ao; (repeat rw [if_neg c_2]); (repeat rw [if_neg c_7]); (repeat rw [if_neg c_9]); (repeat rw [if_pos c_10]); (repeat rw [if_pos c_12]); (repeat rw [if_neg gk_14]); first | done | rfl | contradiction)
              have e2 : 1 = fd_ag o := (by unfold fd_ag; try rw [e1]; try rw [← hv0_0]; (repeat rw [if_neg c_2]); (repeat rw [if_neg c_7]); (repeat rw [if_neg c_9]); (repeat rw [if_pos c_10]); (repeat rw [if_pos c_12]); (repeat rw [if_neg gk_14]); first | done | rfl | contradiction)
              exact fg_retv (fz_o (fd_hi o).toNatClampNeg, x1, v0_0, 6, 1) hx hb hr hlocks ⟨e1.symm, (by unfold fd_an; (repeat rw [if_neg c_2]); (repeat rw [if_neg c_7]); (repeat rw [if_neg c_9]); (repeat rw [if_pos c_10]); (repeat rw [if_pos c_12]); (repeat rw [if_neg gk_14]); first | done | rfl | contradiction), (by unfold fd_af; try rw [← hv0_0]; (repeat rw [if_neg c_2]); (repeat rw [if_neg c_7]); (repeat rw [if_neg c_9]); (repeat rw [if_pos c_10]); (repeat rw [if_pos c_12]); (repeat rw [if_neg gk_14]); first | done | rfl | contradiction), (by unfold fd_afam; try rw [← e2]; (repeat rw [if_neg c_2]); (repeat rw [if_neg c_7]); (repeat rw [if_neg c_9]); (repeat rw [if_pos c_10]); (repeat rw [if_pos c_12]); (repeat rw [if_neg gk_14]); first | done | rfl | contradiction), (by unfold fd_art; try rw [← e2]; try rw [e1]; (repeat rw [if_neg c_2]); (repeat rw [if_neg c_7]); (repeat rw [if_neg c_9]); (repeat rw [if_pos c_10]); (repeat rw [if_pos c_12]); (repeat rw [if_neg gk_14]); first | done | rfl | contradiction)⟩ (hP.sub (ws' := [(h0, .inr (2, [.ref hs, .ref hi, .ref hm, .int (nI n), .int cf1, .int o, .int ct1, .int ct2, .int co1, .int cf2, .int 6, .int cb1, .int (fz_o (fd_hi o).toNatClampNeg), .int x1, .int 1, .int v0_0]))]) [0] rfl) (hK.sub (tys' := []) [] rfl) (hD.sub (ws' := [(h0, .inr (2, [.ref hs, .ref hi, .ref hm, .int (nI n), .int cf1, .int o, .int ct1, .int ct2, .int co1, .int cf2, .int 6, .int cb1, .int (fz_o (fd_hi o).toNatClampNeg), .int x1, .int 1, .int v0_0]))]) [0] (by decide) rfl) hS (Nat.le_of_ble_eq_true rfl) (Nat.le_of_ble_eq_true rfl) d_Code_lookAtArithmetic_128
      · refine lv_aload_n hx hb d_Code_lookAtArithmetic_36 rfl (lv_at hl 1 rfl) ?_
        refine lv_aload_n hx hb d_Code_lookAtArithmetic_37 rfl (lv_at hl 1 rfl) ?_
        refine va_get (D := D) (ci := 2) (v := .int o) (C := "FilterGuard$Code") (T := F_Code) (N := 16) hx hb hts i_Code hown hK hP 0 rfl rfl 5 (by decide) (hts _ u_231) (fun _ h9 => h9) rfl d_Code_lookAtArithmetic_38 ?_
        refine lv_sipush (v := 212) hx hb d_Code_lookAtArithmetic_41 (by decide) ?_
        refine lv_icmp_ne (tgt := 52) hx hb d_Code_lookAtArithmetic_44 (by decide) (fun c_15 => ?_) (fun c_15 => absurd c_15 c_2)
        refine lv_bipush (v := 13) hx hb d_Code_lookAtArithmetic_52 (by decide) ?_
        refine va_put (D := D) (ci := 2) (v := .int 13) (ty := .int) (C := "FilterGuard$Code") (T := F_Code) (N := 16) hx hb hts i_Code t_Code t_Code_ok n_Code hown hK hP hD hS 0 rfl rfl 12 (by decide) (hts _ u_261) (fun _ h9 => h9) rfl (by decide +kernel) rfl rfl (Nat.le_of_ble_eq_true rfl) d_Code_lookAtArithmetic_54 (fun H locs hP hD hS => ?_)
        have hP : va_P D classes [(h0, .inr (2, [.ref hs, .ref hi, .ref hm, .int (nI n), .int cf1, .int o, .int ct1, .int ct2, .int co1, .int cf2, .int cg1, .int cb1, .int 13, .int cn2, .int cr1, .int cr2]))] H := hP
        have hD : va_D A [(h0, .inr (2, [.ref hs, .ref hi, .ref hm, .int (nI n), .int cf1, .int o, .int ct1, .int ct2, .int co1, .int cf2, .int cg1, .int cb1, .int 13, .int cn2, .int cr1, .int cr2]))] := hD
        refine lv_goto (tgt := 84) hx hb d_Code_lookAtArithmetic_57 (by decide) ?_
        refine lv_aload_n hx hb d_Code_lookAtArithmetic_84 rfl (lv_at hl 1 rfl) ?_
        refine va_get (D := D) (ci := 2) (v := .int 13) (C := "FilterGuard$Code") (T := F_Code) (N := 16) hx hb hts i_Code hown hK hP 0 rfl rfl 12 (by decide) (hts _ u_261) (fun _ h9 => h9) rfl d_Code_lookAtArithmetic_85 ?_
        refine lv_if_lt (tgt := 128) hx hb d_Code_lookAtArithmetic_88 (by decide) (fun c_16 => absurd c_16 (by decide)) (fun c_16 => ?_)
        refine lv_aload_n hx hb d_Code_lookAtArithmetic_91 rfl (lv_at hl 1 rfl) ?_
        refine va_get (D := D) (ci := 2) (v := .int 13) (C := "FilterGuard$Code") (T := F_Code) (N := 16) hx hb hts i_Code hown hK hP 0 rfl rfl 12 (by decide) (hts _ u_261) (fun _ h9 => h9) rfl d_Code_lookAtArithmetic_92 ?_
        refine lv_bipush (v := 11) hx hb d_Code_lookAtArithmetic_95 (by decide) ?_
        refine lv_icmp_ne (tgt := 104) hx hb d_Code_lookAtArithmetic_97 (by decide) (fun c_17 => ?_) (fun c_17 => absurd c_17 (by decide))
        refine lv_aload_n hx hb d_Code_lookAtArithmetic_104 rfl (lv_at hl 1 rfl) ?_
        refine lv_bipush (v := 6) hx hb d_Code_lookAtArithmetic_105 (by decide) ?_
        refine va_put (D := D) (ci := 2) (v := .int 6) (ty := .int) (C := "FilterGuard$Code") (T := F_Code) (N := 16) hx hb hts i_Code t_Code t_Code_ok n_Code hown hK hP hD hS 0 rfl rfl 10 (by decide) (hts _ u_252) (fun _ h9 => h9) rfl (by decide +kernel) rfl rfl (Nat.le_of_ble_eq_true rfl) d_Code_lookAtArithmetic_107 (fun H locs hP hD hS => ?_)
        have hP : va_P D classes [(h0, .inr (2, [.ref hs, .ref hi, .ref hm, .int (nI n), .int cf1, .int o, .int ct1, .int ct2, .int co1, .int cf2, .int 6, .int cb1, .int 13, .int cn2, .int cr1, .int cr2]))] H := hP
        have hD : va_D A [(h0, .inr (2, [.ref hs, .ref hi, .ref hm, .int (nI n), .int cf1, .int o, .int ct1, .int ct2, .int co1, .int cf2, .int 6, .int cb1, .int 13, .int cn2, .int cr1, .int cr2]))] := hD
        refine lv_aload_n hx hb d_Code_lookAtArithmetic_110 rfl (lv_at hl 1 rfl) ?_
        refine lv_aload_n hx hb d_Code_lookAtArithmetic_111 rfl (lv_at hl 1 rfl) ?_
        refine va_get (D := D) (ci := 2) (v := .int 13) (C := "FilterGuard$Code") (T := F_Code) (N := 16) hx hb hts i_Code hown hK hP 0 rfl rfl 12 (by decide) (hts _ u_261) (fun _ h9 => h9) rfl d_Code_lookAtArithmetic_112 ?_
        refine lv_bipush (v := 12) hx hb d_Code_lookAtArithmetic_115 (by decide) ?_
        refine lv_icmp_eq (tgt := 124) hx hb d_Code_lookAtArithmetic_117 (by decide) (fun c_18 => absurd c_18 (by decide)) (fun c_18 => ?_)
        refine lv_iconst (v := 1) hx hb d_Code_lookAtArithmetic_120 (by decide) ?_
        refine lv_goto (tgt := 125) hx hb d_Code_lookAtArithmetic_121 (by decide) ?_
        refine va_put (D := D) (ci := 2) (v := .int 1) (ty := .boolean) (C := "FilterGuard$Code") (T := F_Code) (N := 16) hx hb hts i_Code t_Code t_Code_ok n_Code hown hK hP hD hS 0 rfl rfl 14 (by decide) (hts _ u_270) (fun _ h9 => h9) rfl (by decide +kernel) rfl rfl (Nat.le_of_ble_eq_true rfl) d_Code_lookAtArithmetic_125 (fun H locs hP hD hS => ?_)
        have hP : va_P D classes [(h0, .inr (2, [.ref hs, .ref hi, .ref hm, .int (nI n), .int cf1, .int o, .int ct1, .int ct2, .int co1, .int cf2, .int 6, .int cb1, .int 13, .int cn2, .int 1, .int cr2]))] H := hP
        have hD : va_D A [(h0, .inr (2, [.ref hs, .ref hi, .ref hm, .int (nI n), .int cf1, .int o, .int ct1, .int ct2, .int co1, .int cf2, .int 6, .int cb1, .int 13, .int cn2, .int 1, .int cr2]))] := hD
        have e1 : fd_ao o = 13 := (by unfold fd_ao; (repeat rw [if_neg c_2]); (repeat rw [if_pos c_7]); first | done | rfl | contradiction)
        have e2 : 1 = fd_ag o := (by unfold fd_ag; try rw [e1]; try rw [← hv0_0]; (repeat rw [if_neg c_2]); (repeat rw [if_pos c_7]); first | done | rfl | contradiction)
        exact fg_retv (13, cn2, cr2, 6, 1) hx hb hr hlocks ⟨e1.symm, (by unfold fd_an; (repeat rw [if_neg c_2]); (repeat rw [if_pos c_7]); first | done | rfl | contradiction), (by unfold fd_af; try rw [← hv0_0]; (repeat rw [if_neg c_2]); (repeat rw [if_pos c_7]); first | done | rfl | contradiction), (by unfold fd_afam; try rw [← e2]; (repeat rw [if_neg c_2]); (repeat rw [if_pos c_7]); first | done | rfl | contradiction), (by unfold fd_art; try rw [← e2]; try rw [e1]; (repeat rw [if_neg c_2]); (repeat rw [if_pos c_7]); first | done | rfl | contradiction)⟩ (hP.sub (ws' := [(h0, .inr (2, [.ref hs, .ref hi, .ref hm, .int (nI n), .int cf1, .int o, .int ct1, .int ct2, .int co1, .int cf2, .int 6, .int cb1, .int 13, .int cn2, .int 1, .int cr2]))]) [0] rfl) (hK.sub (tys' := []) [] rfl) (hD.sub (ws' := [(h0, .inr (2, [.ref hs, .ref hi, .ref hm, .int (nI n), .int cf1, .int o, .int ct1, .int ct2, .int co1, .int cf2, .int 6, .int cb1, .int 13, .int cn2, .int 1, .int cr2]))]) [0] (by decide) rfl) hS (Nat.le_of_ble_eq_true rfl) (Nat.le_of_ble_eq_true rfl) d_Code_lookAtArithmetic_128
  refine lv_aload_n hx hb d_Code_lookAtArithmetic_0 rfl (lv_at hl 0 rfl) ?_
  refine va_get (D := D) (ci := 2) (v := .int o) (C := "FilterGuard$Code") (T := F_Code) (N := 16) hx hb hts i_Code hown hK hP 0 rfl rfl 5 (by decide) (hts _ u_231) (fun _ h9 => h9) rfl d_Code_lookAtArithmetic_1 ?_
  refine lv_bipush (v := 8) hx hb d_Code_lookAtArithmetic_4 (by decide) ?_
  refine lv_iand hx hb d_Code_lookAtArithmetic_6 ?_
  refine lv_if_eq (tgt := 14) hx hb d_Code_lookAtArithmetic_7 (by decide) (fun c_19 => ?_) (fun c_19 => ?_)
  · refine lv_iconst (v := 0) hx hb d_Code_lookAtArithmetic_14 (by decide) ?_
    exact j0_0 0 (by unfold fd_isf; (repeat rw [if_pos c_19]); first | done | rfl | contradiction) (Or.inr rfl)
  · refine lv_iconst (v := 1) hx hb d_Code_lookAtArithmetic_10 (by decide) ?_
    refine lv_goto (tgt := 15) hx hb d_Code_lookAtArithmetic_11 (by decide) ?_
    exact j0_0 1 (by unfold fd_isf; (repeat rw [if_neg c_19]); first | done | rfl | contradiction) (Or.inl rfl)
abbrev y_Code_lookAtJump : MethodName := ⟨"FilterGuard$Code", "lookAtJump", "(Z)V"⟩
theorem d_Code_lookAtJump_0 : decode prog_4_method_6_code 0 = .ok (.aload_n 0, 1) := by decide +kernel
theorem d_Code_lookAtJump_1 : decode prog_4_method_6_code 1 = .ok (.getstatic 81, 3) := by decide +kernel
theorem o_977 : Cond.fieldLinkNest "FilterGuard$Code" 81 "FilterGuard" "RELATIONS" "[I" "FilterGuard" ∈ lw_tbl := List.mem_of_getElem? (i := 977) (by decide +kernel)
theorem d_Code_lookAtJump_4 : decode prog_4_method_6_code 4 = .ok (.aload_n 0, 1) := by decide +kernel
theorem d_Code_lookAtJump_5 : decode prog_4_method_6_code 5 = .ok (.getfield 29, 3) := by decide +kernel
theorem d_Code_lookAtJump_8 : decode prog_4_method_6_code 8 = .ok (.iconst 4, 1) := by decide +kernel
theorem d_Code_lookAtJump_9 : decode prog_4_method_6_code 9 = .ok (.ishr, 1) := by decide +kernel
theorem d_Code_lookAtJump_10 : decode prog_4_method_6_code 10 = .ok (.iaload, 1) := by decide +kernel
theorem d_Code_lookAtJump_11 : decode prog_4_method_6_code 11 = .ok (.putfield 58, 3) := by decide +kernel
theorem d_Code_lookAtJump_14 : decode prog_4_method_6_code 14 = .ok (.aload_n 0, 1) := by decide +kernel
theorem d_Code_lookAtJump_15 : decode prog_4_method_6_code 15 = .ok (.getfield 58, 3) := by decide +kernel
theorem d_Code_lookAtJump_18 : decode prog_4_method_6_code 18 = .ok (.ifCond .lt 41, 3) := by decide +kernel
theorem d_Code_lookAtJump_59 : decode prog_4_method_6_code 59 = .ok (.aload_n 0, 1) := by decide +kernel
theorem d_Code_lookAtJump_60 : decode prog_4_method_6_code 60 = .ok (.getfield 29, 3) := by decide +kernel
theorem d_Code_lookAtJump_63 : decode prog_4_method_6_code 63 = .ok (.iconst 5, 1) := by decide +kernel
theorem d_Code_lookAtJump_64 : decode prog_4_method_6_code 64 = .ok (.if_icmp .ne 12, 3) := by decide +kernel
theorem d_Code_lookAtJump_76 : decode prog_4_method_6_code 76 = .ok (.aload_n 0, 1) := by decide +kernel
theorem d_Code_lookAtJump_77 : decode prog_4_method_6_code 77 = .ok (.getfield 29, 3) := by decide +kernel
theorem d_Code_lookAtJump_80 : decode prog_4_method_6_code 80 = .ok (.sipush 133, 3) := by decide +kernel
theorem d_Code_lookAtJump_83 : decode prog_4_method_6_code 83 = .ok (.if_icmp .ne 12, 3) := by decide +kernel
theorem d_Code_lookAtJump_95 : decode prog_4_method_6_code 95 = .ok (.aload_n 0, 1) := by decide +kernel
theorem d_Code_lookAtJump_96 : decode prog_4_method_6_code 96 = .ok (.getfield 29, 3) := by decide +kernel
theorem d_Code_lookAtJump_99 : decode prog_4_method_6_code 99 = .ok (.sipush 149, 3) := by decide +kernel
theorem d_Code_lookAtJump_102 : decode prog_4_method_6_code 102 = .ok (.if_icmp .ne 9, 3) := by decide +kernel
theorem d_Code_lookAtJump_111 : decode prog_4_method_6_code 111 = .ok (.return_, 1) := by decide +kernel
theorem d_Code_lookAtJump_105 : decode prog_4_method_6_code 105 = .ok (.aload_n 0, 1) := by decide +kernel
theorem d_Code_lookAtJump_106 : decode prog_4_method_6_code 106 = .ok (.bipush 10, 2) := by decide +kernel
theorem d_Code_lookAtJump_108 : decode prog_4_method_6_code 108 = .ok (.putfield 55, 3) := by decide +kernel
theorem d_Code_lookAtJump_86 : decode prog_4_method_6_code 86 = .ok (.aload_n 0, 1) := by decide +kernel
theorem d_Code_lookAtJump_87 : decode prog_4_method_6_code 87 = .ok (.bipush 9, 2) := by decide +kernel
theorem d_Code_lookAtJump_89 : decode prog_4_method_6_code 89 = .ok (.putfield 55, 3) := by decide +kernel
theorem d_Code_lookAtJump_92 : decode prog_4_method_6_code 92 = .ok (.goto 19, 3) := by decide +kernel
theorem d_Code_lookAtJump_67 : decode prog_4_method_6_code 67 = .ok (.aload_n 0, 1) := by decide +kernel
theorem d_Code_lookAtJump_68 : decode prog_4_method_6_code 68 = .ok (.bipush 7, 2) := by decide +kernel
theorem d_Code_lookAtJump_70 : decode prog_4_method_6_code 70 = .ok (.putfield 55, 3) := by decide +kernel
theorem d_Code_lookAtJump_73 : decode prog_4_method_6_code 73 = .ok (.goto 38, 3) := by decide +kernel
theorem d_Code_lookAtJump_21 : decode prog_4_method_6_code 21 = .ok (.aload_n 0, 1) := by decide +kernel
theorem d_Code_lookAtJump_22 : decode prog_4_method_6_code 22 = .ok (.bipush 8, 2) := by decide +kernel
theorem d_Code_lookAtJump_24 : decode prog_4_method_6_code 24 = .ok (.putfield 55, 3) := by decide +kernel
theorem d_Code_lookAtJump_27 : decode prog_4_method_6_code 27 = .ok (.aload_n 0, 1) := by decide +kernel
theorem d_Code_lookAtJump_28 : decode prog_4_method_6_code 28 = .ok (.iload_n 1, 1) := by decide +kernel
theorem d_Code_lookAtJump_29 : decode prog_4_method_6_code 29 = .ok (.putfield 61, 3) := by decide +kernel
theorem d_Code_lookAtJump_32 : decode prog_4_method_6_code 32 = .ok (.aload_n 0, 1) := by decide +kernel
theorem d_Code_lookAtJump_33 : decode prog_4_method_6_code 33 = .ok (.iconst 1, 1) := by decide +kernel
theorem d_Code_lookAtJump_34 : decode prog_4_method_6_code 34 = .ok (.putfield 65, 3) := by decide +kernel
theorem d_Code_lookAtJump_37 : decode prog_4_method_6_code 37 = .ok (.aload_n 0, 1) := by decide +kernel
theorem d_Code_lookAtJump_53 : decode prog_4_method_6_code 53 = .ok (.putfield 68, 3) := by decide +kernel
theorem d_Code_lookAtJump_56 : decode prog_4_method_6_code 56 = .ok (.goto 55, 3) := by decide +kernel
theorem d_Code_lookAtJump_38 : decode prog_4_method_6_code 38 = .ok (.aload_n 0, 1) := by decide +kernel
theorem d_Code_lookAtJump_39 : decode prog_4_method_6_code 39 = .ok (.getfield 29, 3) := by decide +kernel
theorem d_Code_lookAtJump_42 : decode prog_4_method_6_code 42 = .ok (.bipush 8, 2) := by decide +kernel
theorem d_Code_lookAtJump_44 : decode prog_4_method_6_code 44 = .ok (.iand, 1) := by decide +kernel
theorem d_Code_lookAtJump_45 : decode prog_4_method_6_code 45 = .ok (.ifCond .eq 7, 3) := by decide +kernel
theorem d_Code_lookAtJump_52 : decode prog_4_method_6_code 52 = .ok (.iconst 0, 1) := by decide +kernel
theorem d_Code_lookAtJump_48 : decode prog_4_method_6_code 48 = .ok (.iconst 1, 1) := by decide +kernel
theorem d_Code_lookAtJump_49 : decode prog_4_method_6_code 49 = .ok (.goto 4, 3) := by decide +kernel
def rm_Code_lookAtJump : Room := { frames := 1, cells := 0, slots := 0, locals := 20 }
abbrev q_Code_lookAtJump (D : va_G) (h0 : Nat) (hs : Nat) (hi : Nat) (hm : Nat) (n : Nat) (cf1 : Int32) (o : Int32) (ct1 : Int32) (ct2 : Int32) (co1 : Int32) (cf2 : Int32) (cg1 : Int32) (cb1 : Int32) (cn1 : Int32) (cn2 : Int32) (cr1 : Int32) (cr2 : Int32) (x1 : Int32) (oj : Nat) (A : Nat → Prop) : Array Value → Jvm.State → Outcome → Jvm.State → Prop := va_Qv (fun (u : Int32 × Int32 × Int32 × Int32 × Int32) => u.1 = fd_jo o ∧ u.2.1 = fd_jn o x1 cn2 ∧ u.2.2.1 = fd_jf o cr2 ∧ u.2.2.2.1 = fd_jfam o cg1 ∧ u.2.2.2.2 = fd_jrt o cr1) (fg_B D A (fun (u : Int32 × Int32 × Int32 × Int32 × Int32) => [(h0, .inr (2, [.ref hs, .ref hi, .ref hm, .int (nI n), .int cf1, .int o, .int ct1, .int ct2, .int co1, .int cf2, .int u.2.2.2.1, .int cb1, .int u.1, .int u.2.1, .int u.2.2.2.2, .int u.2.2.1]))]) (fun (u : Int32 × Int32 × Int32 × Int32 × Int32) => [])) A
set_option maxHeartbeats 4000000 in
set_option maxRecDepth 100000 in
theorem c_Code_lookAtJump (l : Launch) (D : va_G) (h0 : Nat) (hs : Nat) (hi : Nat) (hm : Nat) (n : Nat) (cf1 : Int32) (o : Int32) (ct1 : Int32) (ct2 : Int32) (co1 : Int32) (cf2 : Int32) (cg1 : Int32) (cb1 : Int32) (cn1 : Int32) (cn2 : Int32) (cr1 : Int32) (cr2 : Int32) (x1 : Int32) (oj : Nat) (sz : Nat) (hoj : oj < 256) (hoo : o = nI oj) (hx1 : x1 = 1 ∨ x1 = 0) : Met l y_Code_lookAtJump (fg_w y_Code_lookAtJump prog_4_method_6_code 2 none) rm_Code_lookAtJump (va_Pc [.ref h0, .int x1] (fz_P D [] [(h0, .inr (2, [.ref hs, .ref hi, .ref hm, .int (nI n), .int cf1, .int o, .int ct1, .int ct2, .int co1, .int cf2, .int cg1, .int cb1, .int cn1, .int cn2, .int cr1, .int cr2]))] sz)) (q_Code_lookAtJump D h0 hs hi hm n cf1 o ct1 ct2 co1 cf2 cg1 cb1 cn1 cn2 cr1 cr2 x1 oj (va_A [(h0, .inr (2, [.ref hs, .ref hi, .ref hm, .int (nI n), .int cf1, .int o, .int ct1, .int ct2, .int co1, .int cf2, .int cg1, .int cb1, .int cn1, .int cn2, .int cr1, .int cr2]))] sz)) rm_Code_lookAtJump.cells rm_Code_lookAtJump.slots (va_A [(h0, .inr (2, [.ref hs, .ref hi, .ref hm, .int (nI n), .int cf1, .int o, .int ct1, .int ct2, .int co1, .int cf2, .int cg1, .int cb1, .int cn1, .int cn2, .int cr1, .int cr2]))] sz) := by
  refine fz_enter (fun A => q_Code_lookAtJump D h0 hs hi hm n cf1 o ct1 ct2 co1 cf2 cg1 cb1 cn1 cn2 cr1 cr2 x1 oj A) (by decide +kernel) (Nat.le_of_ble_eq_true rfl) ?_
  intro p e s m below meth c ls A hx hb hml hown hts hr hlocks hin hP hK hD hS hA hX hl hz
  have hl : lv_has ls 2 [(0, .ref h0), (1, .int x1)] := hl
  refine lv_aload_n hx hb d_Code_lookAtJump_0 rfl (lv_at hl 0 rfl) ?_
  obtain ⟨z0, hz0, hs0, hna0, hnl0⟩ := hz.2.2.1
  refine va_getsN hx hb hz0 hS hown (va_Nw.use rfl (hX _ o_977 rfl)) (fun _ h9 => h9) d_Code_lookAtJump_1 ?_
  refine lv_aload_n hx hb d_Code_lookAtJump_4 rfl (lv_at hl 0 rfl) ?_
  refine va_get (D := D) (ci := 2) (v := .int o) (C := "FilterGuard$Code") (T := F_Code) (N := 16) hx hb hts i_Code hown hK hP 0 rfl rfl 5 (by decide) (hts _ u_231) (fun _ h9 => h9) rfl d_Code_lookAtJump_5 ?_
  refine lv_iconst (v := 4) hx hb d_Code_lookAtJump_8 (by decide) ?_
  refine lv_ishr hx hb d_Code_lookAtJump_9 ?_
  refine fg_topi (y := fd_hi o) rfl ?_
  refine va_sld hx hb hs0 hnl0 hna0 hS (fd_hi_in hoj hoo) d_Code_lookAtJump_10 ?_
  refine va_put (D := D) (ci := 2) (v := .int (fz_r (fd_hi o).toNatClampNeg)) (ty := .int) (C := "FilterGuard$Code") (T := F_Code) (N := 16) hx hb hts i_Code t_Code t_Code_ok n_Code hown hK hP hD hS 0 rfl rfl 12 (by decide) (hts _ u_261) (fun _ h9 => h9) rfl (by decide +kernel) rfl rfl (Nat.le_of_ble_eq_true rfl) d_Code_lookAtJump_11 (fun H locs hP hD hS => ?_)
  have hP : va_P D classes [(h0, .inr (2, [.ref hs, .ref hi, .ref hm, .int (nI n), .int cf1, .int o, .int ct1, .int ct2, .int co1, .int cf2, .int cg1, .int cb1, .int (fz_r (fd_hi o).toNatClampNeg), .int cn2, .int cr1, .int cr2]))] H := hP
  have hD : va_D A [(h0, .inr (2, [.ref hs, .ref hi, .ref hm, .int (nI n), .int cf1, .int o, .int ct1, .int ct2, .int co1, .int cf2, .int cg1, .int cb1, .int (fz_r (fd_hi o).toNatClampNeg), .int cn2, .int cr1, .int cr2]))] := hD
  refine lv_aload_n hx hb d_Code_lookAtJump_14 rfl (lv_at hl 0 rfl) ?_
  refine va_get (D := D) (ci := 2) (v := .int (fz_r (fd_hi o).toNatClampNeg)) (C := "FilterGuard$Code") (T := F_Code) (N := 16) hx hb hts i_Code hown hK hP 0 rfl rfl 12 (by decide) (hts _ u_261) (fun _ h9 => h9) rfl d_Code_lookAtJump_15 ?_
  refine lv_if_lt (tgt := 59) hx hb d_Code_lookAtJump_18 (by decide) (fun c_2 => ?_) (fun c_2 => ?_)
  · refine lv_aload_n hx hb d_Code_lookAtJump_59 rfl (lv_at hl 0 rfl) ?_
    refine va_get (D := D) (ci := 2) (v := .int o) (C := "FilterGuard$Code") (T := F_Code) (N := 16) hx hb hts i_Code hown hK hP 0 rfl rfl 5 (by decide) (hts _ u_231) (fun _ h9 => h9) rfl d_Code_lookAtJump_60 ?_
    refine lv_iconst (v := 5) hx hb d_Code_lookAtJump_63 (by decide) ?_
    refine lv_icmp_ne (tgt := 76) hx hb d_Code_lookAtJump_64 (by decide) (fun c_3 => ?_) (fun c_3 => ?_)
    · refine lv_aload_n hx hb d_Code_lookAtJump_76 rfl (lv_at hl 0 rfl) ?_
      refine va_get (D := D) (ci := 2) (v := .int o) (C := "FilterGuard$Code") (T := F_Code) (N := 16) hx hb hts i_Code hown hK hP 0 rfl rfl 5 (by decide) (hts _ u_231) (fun _ h9 => h9) rfl d_Code_lookAtJump_77 ?_
      refine lv_sipush (v := 133) hx hb d_Code_lookAtJump_80 (by decide) ?_
      refine lv_icmp_ne (tgt := 95) hx hb d_Code_lookAtJump_83 (by decide) (fun c_4 => ?_) (fun c_4 => ?_)
      · refine lv_aload_n hx hb d_Code_lookAtJump_95 rfl (lv_at hl 0 rfl) ?_
        refine va_get (D := D) (ci := 2) (v := .int o) (C := "FilterGuard$Code") (T := F_Code) (N := 16) hx hb hts i_Code hown hK hP 0 rfl rfl 5 (by decide) (hts _ u_231) (fun _ h9 => h9) rfl d_Code_lookAtJump_96 ?_
        refine lv_sipush (v := 149) hx hb d_Code_lookAtJump_99 (by decide) ?_
        refine lv_icmp_ne (tgt := 111) hx hb d_Code_lookAtJump_102 (by decide) (fun c_5 => ?_) (fun c_5 => ?_)
        · exact fg_retv (fz_r (fd_hi o).toNatClampNeg, cn2, cr2, cg1, cr1) hx hb hr hlocks ⟨rfl, (by unfold fd_jn fd_jo; (repeat rw [if_pos c_2]); (repeat rw [if_neg c_3]); (repeat rw [if_neg c_4]); (repeat rw [if_neg c_5]); first | done | rfl | contradiction), (by unfold fd_jf fd_jo; (repeat rw [if_pos c_2]); (repeat rw [if_neg c_3]); (repeat rw [if_neg c_4]); (repeat rw [if_neg c_5]); first | done | rfl | contradiction), (by unfold fd_jfam fd_jo; (repeat rw [if_pos c_2]); (repeat rw [if_neg c_3]); (repeat rw [if_neg c_4]); (repeat rw [if_neg c_5]); first | done | rfl | contradiction), (by unfold fd_jrt fd_jo; (repeat rw [if_pos c_2]); (repeat rw [if_neg c_3]); (repeat rw [if_neg c_4]); (repeat rw [if_neg c_5]); first | done | rfl | contradiction)⟩ (hP.sub (ws' := [(h0, .inr (2, [.ref hs, .ref hi, .ref hm, .int (nI n), .int cf1, .int o, .int ct1, .int ct2, .int co1, .int cf2, .int cg1, .int cb1, .int (fz_r (fd_hi o).toNatClampNeg), .int cn2, .int cr1, .int cr2]))]) [0] rfl) (hK.sub (tys' := []) [] rfl) (hD.sub (ws' := [(h0, .inr (2, [.ref hs, .ref hi, .ref hm, .int (nI n), .int cf1, .int o, .int ct1, .int ct2, .int co1, .int cf2, .int cg1, .int cb1, .int (fz_r (fd_hi o).toNatClampNeg), .int cn2, .int cr1, .int cr2]))]) [0] (by decide) rfl) hS (Nat.le_of_ble_eq_true rfl) (Nat.le_of_ble_eq_true rfl) d_Code_lookAtJump_111
        · refine lv_aload_n hx hb d_Code_lookAtJump_105 rfl (lv_at hl 0 rfl) ?_
          refine lv_bipush (v := 10) hx hb d_Code_lookAtJump_106 (by decide) ?_
          refine va_put (D := D) (ci := 2) (v := .int 10) (ty := .int) (C := "FilterGuard$Code") (T := F_Code) (N := 16) hx hb hts i_Code t_Code t_Code_ok n_Code hown hK hP hD hS 0 rfl rfl 10 (by decide) (hts _ u_252) (fun _ h9 => h9) rfl (by decide +kernel) rfl rfl (Nat.le_of_ble_eq_true rfl) d_Code_lookAtJump_108 (fun H locs hP hD hS => ?_)
          have hP : va_P D classes [(h0, .inr (2, [.ref hs, .ref hi, .ref hm, .int (nI n), .int cf1, .int o, .int ct1, .int ct2, .int co1, .int cf2, .int 10, .int cb1, .int (fz_r (fd_hi o).toNatClampNeg), .int cn2, .int cr1, .int cr2]))] H := hP
          have hD : va_D A [(h0, .inr (2, [.ref hs, .ref hi, .ref hm, .int (nI n), .int cf1, .int o, .int ct1, .int ct2, .int co1, .int cf2, .int 10, .int cb1, .int (fz_r (fd_hi o).toNatClampNeg), .int cn2, .int cr1, .int cr2]))] := hD
          exact fg_retv (fz_r (fd_hi o).toNatClampNeg, cn2, cr2, 10, cr1) hx hb hr hlocks ⟨rfl, (by unfold fd_jn fd_jo; (repeat rw [if_pos c_2]); (repeat rw [if_neg c_3]); (repeat rw [if_neg c_4]); (repeat rw [if_pos c_5]); first | done | rfl | contradiction), (by unfold fd_jf fd_jo; (repeat rw [if_pos c_2]); (repeat rw [if_neg c_3]); (repeat rw [if_neg c_4]); (repeat rw [if_pos c_5]); first | done | rfl | contradiction), (by unfold fd_jfam fd_jo; (repeat rw [if_pos c_2]); (repeat rw [if_neg c_3]); (repeat rw [if_neg c_4]); (repeat rw [if_pos c_5]); first | done | rfl | contradiction), (by unfold fd_jrt fd_jo; (repeat rw [if_pos c_2]); (repeat rw [if_neg c_3]); (repeat rw [if_neg c_4]); (repeat rw [if_pos c_5]); first | done | rfl | contradiction)⟩ (hP.sub (ws' := [(h0, .inr (2, [.ref hs, .ref hi, .ref hm, .int (nI n), .int cf1, .int o, .int ct1, .int ct2, .int co1, .int cf2, .int 10, .int cb1, .int (fz_r (fd_hi o).toNatClampNeg), .int cn2, .int cr1, .int cr2]))]) [0] rfl) (hK.sub (tys' := []) [] rfl) (hD.sub (ws' := [(h0, .inr (2, [.ref hs, .ref hi, .ref hm, .int (nI n), .int cf1, .int o, .int ct1, .int ct2, .int co1, .int cf2, .int 10, .int cb1, .int (fz_r (fd_hi o).toNatClampNeg), .int cn2, .int cr1, .int cr2]))]) [0] (by decide) rfl) hS (Nat.le_of_ble_eq_true rfl) (Nat.le_of_ble_eq_true rfl) d_Code_lookAtJump_111
      · refine lv_aload_n hx hb d_Code_lookAtJump_86 rfl (lv_at hl 0 rfl) ?_
        refine lv_bipush (v := 9) hx hb d_Code_lookAtJump_87 (by decide) ?_
        refine va_put (D := D) (ci := 2) (v := .int 9) (ty := .int) (C := "FilterGuard$Code") (T := F_Code) (N := 16) hx hb hts i_Code t_Code t_Code_ok n_Code hown hK hP hD hS 0 rfl rfl 10 (by decide) (hts _ u_252) (fun _ h9 => h9) rfl (by decide +kernel) rfl rfl (Nat.le_of_ble_eq_true rfl) d_Code_lookAtJump_89 (fun H locs hP hD hS => ?_)
        have hP : va_P D classes [(h0, .inr (2, [.ref hs, .ref hi, .ref hm, .int (nI n), .int cf1, .int o, .int ct1, .int ct2, .int co1, .int cf2, .int 9, .int cb1, .int (fz_r (fd_hi o).toNatClampNeg), .int cn2, .int cr1, .int cr2]))] H := hP
        have hD : va_D A [(h0, .inr (2, [.ref hs, .ref hi, .ref hm, .int (nI n), .int cf1, .int o, .int ct1, .int ct2, .int co1, .int cf2, .int 9, .int cb1, .int (fz_r (fd_hi o).toNatClampNeg), .int cn2, .int cr1, .int cr2]))] := hD
        refine lv_goto (tgt := 111) hx hb d_Code_lookAtJump_92 (by decide) ?_
        exact fg_retv (fz_r (fd_hi o).toNatClampNeg, cn2, cr2, 9, cr1) hx hb hr hlocks ⟨rfl, (by unfold fd_jn fd_jo; (repeat rw [if_pos c_2]); (repeat rw [if_neg c_3]); (repeat rw [if_pos c_4]); first | done | rfl | contradiction), (by unfold fd_jf fd_jo; (repeat rw [if_pos c_2]); (repeat rw [if_neg c_3]); (repeat rw [if_pos c_4]); first | done | rfl | contradiction), (by unfold fd_jfam fd_jo; (repeat rw [if_pos c_2]); (repeat rw [if_neg c_3]); (repeat rw [if_pos c_4]); first | done | rfl | contradiction), (by unfold fd_jrt fd_jo; (repeat rw [if_pos c_2]); (repeat rw [if_neg c_3]); (repeat rw [if_pos c_4]); first | done | rfl | contradiction)⟩ (hP.sub (ws' := [(h0, .inr (2, [.ref hs, .ref hi, .ref hm, .int (nI n), .int cf1, .int o, .int ct1, .int ct2, .int co1, .int cf2, .int 9, .int cb1, .int (fz_r (fd_hi o).toNatClampNeg), .int cn2, .int cr1, .int cr2]))]) [0] rfl) (hK.sub (tys' := []) [] rfl) (hD.sub (ws' := [(h0, .inr (2, [.ref hs, .ref hi, .ref hm, .int (nI n), .int cf1, .int o, .int ct1, .int ct2, .int co1, .int cf2, .int 9, .int cb1, .int (fz_r (fd_hi o).toNatClampNeg), .int cn2, .int cr1, .int cr2]))]) [0] (by decide) rfl) hS (Nat.le_of_ble_eq_true rfl) (Nat.le_of_ble_eq_true rfl) d_Code_lookAtJump_111
    · refine lv_aload_n hx hb d_Code_lookAtJump_67 rfl (lv_at hl 0 rfl) ?_
      refine lv_bipush (v := 7) hx hb d_Code_lookAtJump_68 (by decide) ?_
      refine va_put (D := D) (ci := 2) (v := .int 7) (ty := .int) (C := "FilterGuard$Code") (T := F_Code) (N := 16) hx hb hts i_Code t_Code t_Code_ok n_Code hown hK hP hD hS 0 rfl rfl 10 (by decide) (hts _ u_252) (fun _ h9 => h9) rfl (by decide +kernel) rfl rfl (Nat.le_of_ble_eq_true rfl) d_Code_lookAtJump_70 (fun H locs hP hD hS => ?_)
      have hP : va_P D classes [(h0, .inr (2, [.ref hs, .ref hi, .ref hm, .int (nI n), .int cf1, .int o, .int ct1, .int ct2, .int co1, .int cf2, .int 7, .int cb1, .int (fz_r (fd_hi o).toNatClampNeg), .int cn2, .int cr1, .int cr2]))] H := hP
      have hD : va_D A [(h0, .inr (2, [.ref hs, .ref hi, .ref hm, .int (nI n), .int cf1, .int o, .int ct1, .int ct2, .int co1, .int cf2, .int 7, .int cb1, .int (fz_r (fd_hi o).toNatClampNeg), .int cn2, .int cr1, .int cr2]))] := hD
      refine lv_goto (tgt := 111) hx hb d_Code_lookAtJump_73 (by decide) ?_
      exact fg_retv (fz_r (fd_hi o).toNatClampNeg, cn2, cr2, 7, cr1) hx hb hr hlocks ⟨rfl, (by unfold fd_jn fd_jo; (repeat rw [if_pos c_2]); (repeat rw [if_pos c_3]); first | done | rfl | contradiction), (by unfold fd_jf fd_jo; (repeat rw [if_pos c_2]); (repeat rw [if_pos c_3]); first | done | rfl | contradiction), (by unfold fd_jfam fd_jo; (repeat rw [if_pos c_2]); (repeat rw [if_pos c_3]); first | done | rfl | contradiction), (by unfold fd_jrt fd_jo; (repeat rw [if_pos c_2]); (repeat rw [if_pos c_3]); first | done | rfl | contradiction)⟩ (hP.sub (ws' := [(h0, .inr (2, [.ref hs, .ref hi, .ref hm, .int (nI n), .int cf1, .int o, .int ct1, .int ct2, .int co1, .int cf2, .int 7, .int cb1, .int (fz_r (fd_hi o).toNatClampNeg), .int cn2, .int cr1, .int cr2]))]) [0] rfl) (hK.sub (tys' := []) [] rfl) (hD.sub (ws' := [(h0, .inr (2, [.ref hs, .ref hi, .ref hm, .int (nI n), .int cf1, .int o, .int ct1, .int ct2, .int co1, .int cf2, .int 7, .int cb1, .int (fz_r (fd_hi o).toNatClampNeg), .int cn2, .int cr1, .int cr2]))]) [0] (by decide) rfl) hS (Nat.le_of_ble_eq_true rfl) (Nat.le_of_ble_eq_true rfl) d_Code_lookAtJump_111
  · refine lv_aload_n hx hb d_Code_lookAtJump_21 rfl (lv_at hl 0 rfl) ?_
    refine lv_bipush (v := 8) hx hb d_Code_lookAtJump_22 (by decide) ?_
    refine va_put (D := D) (ci := 2) (v := .int 8) (ty := .int) (C := "FilterGuard$Code") (T := F_Code) (N := 16) hx hb hts i_Code t_Code t_Code_ok n_Code hown hK hP hD hS 0 rfl rfl 10 (by decide) (hts _ u_252) (fun _ h9 => h9) rfl (by decide +kernel) rfl rfl (Nat.le_of_ble_eq_true rfl) d_Code_lookAtJump_24 (fun H locs hP hD hS => ?_)
    have hP : va_P D classes [(h0, .inr (2, [.ref hs, .ref hi, .ref hm, .int (nI n), .int cf1, .int o, .int ct1, .int ct2, .int co1, .int cf2, .int 8, .int cb1, .int (fz_r (fd_hi o).toNatClampNeg), .int cn2, .int cr1, .int cr2]))] H := hP
    have hD : va_D A [(h0, .inr (2, [.ref hs, .ref hi, .ref hm, .int (nI n), .int cf1, .int o, .int ct1, .int ct2, .int co1, .int cf2, .int 8, .int cb1, .int (fz_r (fd_hi o).toNatClampNeg), .int cn2, .int cr1, .int cr2]))] := hD
    refine lv_aload_n hx hb d_Code_lookAtJump_27 rfl (lv_at hl 0 rfl) ?_
    refine lv_iload_n hx hb d_Code_lookAtJump_28 rfl (lv_at hl 1 rfl) ?_
    refine va_put (D := D) (ci := 2) (v := .int x1) (ty := .boolean) (C := "FilterGuard$Code") (T := F_Code) (N := 16) hx hb hts i_Code t_Code t_Code_ok n_Code hown hK hP hD hS 0 rfl rfl 13 (by decide) (hts _ u_265) (fun _ h9 => h9) rfl (by decide +kernel) (fg_nz01 hx1) (fg_fi01 hx1) (Nat.le_of_ble_eq_true rfl) d_Code_lookAtJump_29 (fun H locs hP hD hS => ?_)
    have hP : va_P D classes [(h0, .inr (2, [.ref hs, .ref hi, .ref hm, .int (nI n), .int cf1, .int o, .int ct1, .int ct2, .int co1, .int cf2, .int 8, .int cb1, .int (fz_r (fd_hi o).toNatClampNeg), .int x1, .int cr1, .int cr2]))] H := hP
    have hD : va_D A [(h0, .inr (2, [.ref hs, .ref hi, .ref hm, .int (nI n), .int cf1, .int o, .int ct1, .int ct2, .int co1, .int cf2, .int 8, .int cb1, .int (fz_r (fd_hi o).toNatClampNeg), .int x1, .int cr1, .int cr2]))] := hD
    refine lv_aload_n hx hb d_Code_lookAtJump_32 rfl (lv_at hl 0 rfl) ?_
    refine lv_iconst (v := 1) hx hb d_Code_lookAtJump_33 (by decide) ?_
    refine va_put (D := D) (ci := 2) (v := .int 1) (ty := .boolean) (C := "FilterGuard$Code") (T := F_Code) (N := 16) hx hb hts i_Code t_Code t_Code_ok n_Code hown hK hP hD hS 0 rfl rfl 14 (by decide) (hts _ u_270) (fun _ h9 => h9) rfl (by decide +kernel) rfl rfl (Nat.le_of_ble_eq_true rfl) d_Code_lookAtJump_34 (fun H locs hP hD hS => ?_)
    have hP : va_P D classes [(h0, .inr (2, [.ref hs, .ref hi, .ref hm, .int (nI n), .int cf1, .int o, .int ct1, .int ct2, .int co1, .int cf2, .int 8, .int cb1, .int (fz_r (fd_hi o).toNatClampNeg), .int x1, .int 1, .int cr2]))] H := hP
    have hD : va_D A [(h0, .inr (2, [.ref hs, .ref hi, .ref hm, .int (nI n), .int cf1, .int o, .int ct1, .int ct2, .int co1, .int cf2, .int 8, .int cb1, .int (fz_r (fd_hi o).toNatClampNeg), .int x1, .int 1, .int cr2]))] := hD
    refine lv_aload_n hx hb d_Code_lookAtJump_37 rfl (lv_at hl 0 rfl) ?_
    have j38_5 : ∀ v38_5 : Int32, v38_5 = fd_isf o → (v38_5 = 1 ∨ v38_5 = 0) → W p l e rm_Code_lookAtJump s m [.ref h0, .int x1].toArray below meth c H locs (0) (0) (MQ below (q_Code_lookAtJump D h0 hs hi hm n cf1 o ct1 ct2 co1 cf2 cg1 cb1 cn1 cn2 cr1 cr2 x1 oj A) [.ref h0, .int x1].toArray s rm_Code_lookAtJump.cells rm_Code_lookAtJump.slots A) (F0 m 53 ls (.int v38_5 :: .ref h0 :: [])) := by
      intro v38_5 hv38_5 zv38_5
      refine va_put (D := D) (ci := 2) (v := .int v38_5) (ty := .boolean) (C := "FilterGuard$Code") (T := F_Code) (N := 16) hx hb hts i_Code t_Code t_Code_ok n_Code hown hK hP hD hS 0 rfl rfl 15 (by decide) (hts _ u_273) (fun _ h9 => h9) rfl (by decide +kernel) (fg_nz01 zv38_5) (fg_fi01 zv38_5) (Nat.le_of_ble_eq_true rfl) d_Code_lookAtJump_53 (fun H locs hP hD hS => ?_)
      have hP : va_P D classes [(h0, .inr (2, [.ref hs, .ref hi, .ref hm, .int (nI n), .int cf1, .int o, .int ct1, .int ct2, .int co1, .int cf2, .int 8, .int cb1, .int (fz_r (fd_hi o).toNatClampNeg), .int x1, .int 1, .int v38_5]))] H := hP
      have hD : va_D A [(h0, .inr (2, [.ref hs, .ref hi, .ref hm, .int (nI n), .int cf1, .int o, .int ct1, .int ct2, .int co1, .int cf2, .int 8, .int cb1, .int (fz_r (fd_hi o).toNatClampNeg), .int x1, .int 1, .int v38_5]))] := hD
      refine lv_goto (tgt := 111) hx hb d_Code_lookAtJump_56 (by decide) ?_
      exact fg_retv (fz_r (fd_hi o).toNatClampNeg, x1, v38_5, 8, 1) hx hb hr hlocks ⟨rfl, (by unfold fd_jn fd_jo; (repeat rw [if_neg c_2]); first | done | rfl | contradiction), (by unfold fd_jf fd_jo; try rw [← hv38_5]; (repeat rw [if_neg c_2]); first | done | rfl | contradiction), (by unfold fd_jfam fd_jo; (repeat rw [if_neg c_2]); first | done | rfl | contradiction), (by unfold fd_jrt fd_jo; (repeat rw [if_neg c_2]); first | done | rfl | contradiction)⟩ (hP.sub (ws' := [(h0, .inr (2, [.ref hs, .ref hi, .ref hm, .int (nI n), .int cf1, .int o, .int ct1, .int ct2, .int co1, .int cf2, .int 8, .int cb1, .int (fz_r (fd_hi o).toNatClampNeg), .int x1, .int 1, .int v38_5]))]) [0] rfl) (hK.sub (tys' := []) [] rfl) (hD.sub (ws' := [(h0, .inr (2, [.ref hs, .ref hi, .ref hm, .int (nI n), .int cf1, .int o, .int ct1, .int ct2, .int co1, .int cf2, .int 8, .int cb1, .int (fz_r (fd_hi o).toNatClampNeg), .int x1, .int 1, .int v38_5]))]) [0] (by decide) rfl) hS (Nat.le_of_ble_eq_true rfl) (Nat.le_of_ble_eq_true rfl) d_Code_lookAtJump_111
    refine lv_aload_n hx hb d_Code_lookAtJump_38 rfl (lv_at hl 0 rfl) ?_
    refine va_get (D := D) (ci := 2) (v := .int o) (C := "FilterGuard$Code") (T := F_Code) (N := 16) hx hb hts i_Code hown hK hP 0 rfl rfl 5 (by decide) (hts _ u_231) (fun _ h9 => h9) rfl d_Code_lookAtJump_39 ?_
    refine lv_bipush (v := 8) hx hb d_Code_lookAtJump_42 (by decide) ?_
    refine lv_iand hx hb d_Code_lookAtJump_44 ?_
    refine lv_if_eq (tgt := 52) hx hb d_Code_lookAtJump_45 (by decide) (fun c_7 => ?_) (fun c_7 => ?_)
    · refine lv_iconst (v := 0) hx hb d_Code_lookAtJump_52 (by decide) ?_
      exact j38_5 0 (by unfold fd_isf; (repeat rw [if_pos c_7]); first | done | rfl | contradiction) (Or.inr rfl)
    · refine lv_iconst (v := 1) hx hb d_Code_lookAtJump_48 (by decide) ?_
      refine lv_goto (tgt := 53) hx hb d_Code_lookAtJump_49 (by decide) ?_
      exact j38_5 1 (by unfold fd_isf; (repeat rw [if_neg c_7]); first | done | rfl | contradiction) (Or.inl rfl)
abbrev y_Code_look : MethodName := ⟨"FilterGuard$Code", "look", "(I)V"⟩
theorem d_Code_look_22 : decode prog_4_method_3_code 22 = .ok (.lstore_n 2, 1) := by decide +kernel
theorem d_Code_look_23 : decode prog_4_method_3_code 23 = .ok (.aload_n 0, 1) := by decide +kernel
theorem d_Code_look_24 : decode prog_4_method_3_code 24 = .ok (.lload_n 2, 1) := by decide +kernel
theorem d_Code_look_25 : decode prog_4_method_3_code 25 = .ok (.l2i, 1) := by decide +kernel
theorem d_Code_look_26 : decode prog_4_method_3_code 26 = .ok (.sipush 255, 3) := by decide +kernel
theorem d_Code_look_29 : decode prog_4_method_3_code 29 = .ok (.iand, 1) := by decide +kernel
theorem d_Code_look_30 : decode prog_4_method_3_code 30 = .ok (.putfield 29, 3) := by decide +kernel
theorem d_Code_look_33 : decode prog_4_method_3_code 33 = .ok (.aload_n 0, 1) := by decide +kernel
theorem d_Code_look_34 : decode prog_4_method_3_code 34 = .ok (.lload_n 2, 1) := by decide +kernel
theorem d_Code_look_35 : decode prog_4_method_3_code 35 = .ok (.bipush 8, 2) := by decide +kernel
theorem d_Code_look_37 : decode prog_4_method_3_code 37 = .ok (.lushr, 1) := by decide +kernel
theorem d_Code_look_38 : decode prog_4_method_3_code 38 = .ok (.l2i, 1) := by decide +kernel
theorem d_Code_look_39 : decode prog_4_method_3_code 39 = .ok (.bipush 15, 2) := by decide +kernel
theorem d_Code_look_41 : decode prog_4_method_3_code 41 = .ok (.iand, 1) := by decide +kernel
theorem d_Code_look_42 : decode prog_4_method_3_code 42 = .ok (.putfield 32, 3) := by decide +kernel
theorem u_233 : Cond.fieldLink "FilterGuard$Code" 32 "FilterGuard$Code" "to" "I" ∈ fg_g := fg_in (List.mem_of_getElem? (i := 233) (by decide +kernel)) rfl
theorem d_Code_look_45 : decode prog_4_method_3_code 45 = .ok (.aload_n 0, 1) := by decide +kernel
theorem d_Code_look_46 : decode prog_4_method_3_code 46 = .ok (.lload_n 2, 1) := by decide +kernel
theorem d_Code_look_47 : decode prog_4_method_3_code 47 = .ok (.bipush 12, 2) := by decide +kernel
theorem d_Code_look_49 : decode prog_4_method_3_code 49 = .ok (.lushr, 1) := by decide +kernel
theorem d_Code_look_50 : decode prog_4_method_3_code 50 = .ok (.l2i, 1) := by decide +kernel
theorem d_Code_look_51 : decode prog_4_method_3_code 51 = .ok (.bipush 15, 2) := by decide +kernel
theorem d_Code_look_53 : decode prog_4_method_3_code 53 = .ok (.iand, 1) := by decide +kernel
theorem d_Code_look_54 : decode prog_4_method_3_code 54 = .ok (.putfield 35, 3) := by decide +kernel
theorem u_238 : Cond.fieldLink "FilterGuard$Code" 35 "FilterGuard$Code" "from" "I" ∈ fg_g := fg_in (List.mem_of_getElem? (i := 238) (by decide +kernel)) rfl
theorem d_Code_look_57 : decode prog_4_method_3_code 57 = .ok (.aload_n 0, 1) := by decide +kernel
theorem d_Code_look_58 : decode prog_4_method_3_code 58 = .ok (.lload_n 2, 1) := by decide +kernel
theorem d_Code_look_59 : decode prog_4_method_3_code 59 = .ok (.bipush 16, 2) := by decide +kernel
theorem d_Code_look_61 : decode prog_4_method_3_code 61 = .ok (.lushr, 1) := by decide +kernel
theorem d_Code_look_62 : decode prog_4_method_3_code 62 = .ok (.l2i, 1) := by decide +kernel
theorem d_Code_look_63 : decode prog_4_method_3_code 63 = .ok (.i2s, 1) := by decide +kernel
theorem d_Code_look_64 : decode prog_4_method_3_code 64 = .ok (.putfield 38, 3) := by decide +kernel
theorem u_242 : Cond.fieldLink "FilterGuard$Code" 38 "FilterGuard$Code" "offset" "I" ∈ fg_g := fg_in (List.mem_of_getElem? (i := 242) (by decide +kernel)) rfl
theorem d_Code_look_67 : decode prog_4_method_3_code 67 = .ok (.aload_n 0, 1) := by decide +kernel
theorem d_Code_look_68 : decode prog_4_method_3_code 68 = .ok (.lload_n 2, 1) := by decide +kernel
theorem d_Code_look_69 : decode prog_4_method_3_code 69 = .ok (.bipush 32, 2) := by decide +kernel
theorem d_Code_look_71 : decode prog_4_method_3_code 71 = .ok (.lushr, 1) := by decide +kernel
theorem d_Code_look_72 : decode prog_4_method_3_code 72 = .ok (.l2i, 1) := by decide +kernel
theorem d_Code_look_73 : decode prog_4_method_3_code 73 = .ok (.putfield 41, 3) := by decide +kernel
theorem u_247 : Cond.fieldLink "FilterGuard$Code" 41 "FilterGuard$Code" "field" "I" ∈ fg_g := fg_in (List.mem_of_getElem? (i := 247) (by decide +kernel)) rfl
theorem d_Code_look_76 : decode prog_4_method_3_code 76 = .ok (.aload_n 0, 1) := by decide +kernel
theorem d_Code_look_77 : decode prog_4_method_3_code 77 = .ok (.getstatic 44, 3) := by decide +kernel
theorem o_961 : Cond.fieldLinkNest "FilterGuard$Code" 44 "FilterGuard" "SIZES" "[I" "FilterGuard" ∈ lw_tbl := List.mem_of_getElem? (i := 961) (by decide +kernel)
theorem d_Code_look_80 : decode prog_4_method_3_code 80 = .ok (.aload_n 0, 1) := by decide +kernel
theorem d_Code_look_81 : decode prog_4_method_3_code 81 = .ok (.getfield 29, 3) := by decide +kernel
theorem d_Code_look_84 : decode prog_4_method_3_code 84 = .ok (.iconst 3, 1) := by decide +kernel
theorem d_Code_look_85 : decode prog_4_method_3_code 85 = .ok (.ishr, 1) := by decide +kernel
theorem d_Code_look_86 : decode prog_4_method_3_code 86 = .ok (.iconst 3, 1) := by decide +kernel
theorem d_Code_look_87 : decode prog_4_method_3_code 87 = .ok (.iand, 1) := by decide +kernel
theorem d_Code_look_88 : decode prog_4_method_3_code 88 = .ok (.iaload, 1) := by decide +kernel
theorem d_Code_look_89 : decode prog_4_method_3_code 89 = .ok (.putfield 48, 3) := by decide +kernel
theorem u_257 : Cond.fieldLink "FilterGuard$Code" 48 "FilterGuard$Code" "bytes" "I" ∈ fg_g := fg_in (List.mem_of_getElem? (i := 257) (by decide +kernel)) rfl
theorem d_Code_look_92 : decode prog_4_method_3_code 92 = .ok (.aload_n 0, 1) := by decide +kernel
theorem d_Code_look_93 : decode prog_4_method_3_code 93 = .ok (.aload_n 0, 1) := by decide +kernel
theorem d_Code_look_94 : decode prog_4_method_3_code 94 = .ok (.invokevirtual 51, 3) := by decide +kernel
theorem u_963 : Cond.methodLink "FilterGuard$Code" 51 ⟨"FilterGuard$Code", "familyOfMemory", "()I"⟩ ∈ fg_g := fg_in (List.mem_of_getElem? (i := 963) (by decide +kernel)) rfl
theorem u_966 : Cond.code ⟨"FilterGuard$Code", "familyOfMemory", "()I"⟩ prog_4_method_4_code 2 (some .int) ∈ fg_g := fg_in (List.mem_of_getElem? (i := 966) (by decide +kernel)) rfl
theorem u_965 : Cond.instanceMethod ⟨"FilterGuard$Code", "familyOfMemory", "()I"⟩ ∈ fg_g := fg_in (List.mem_of_getElem? (i := 965) (by decide +kernel)) rfl
theorem u_3 : Cond.selects "FilterGuard$Code" ⟨"FilterGuard$Code", "familyOfMemory", "()I"⟩ ⟨"FilterGuard$Code", "familyOfMemory", "()I"⟩ ∈ fg_g := fg_in (List.mem_of_getElem? (i := 3) (by decide +kernel)) rfl
theorem d_Code_look_97 : decode prog_4_method_3_code 97 = .ok (.putfield 55, 3) := by decide +kernel
theorem d_Code_look_100 : decode prog_4_method_3_code 100 = .ok (.aload_n 0, 1) := by decide +kernel
theorem d_Code_look_101 : decode prog_4_method_3_code 101 = .ok (.iconst (-1), 1) := by decide +kernel
theorem d_Code_look_102 : decode prog_4_method_3_code 102 = .ok (.putfield 58, 3) := by decide +kernel
theorem d_Code_look_105 : decode prog_4_method_3_code 105 = .ok (.aload_n 0, 1) := by decide +kernel
theorem d_Code_look_106 : decode prog_4_method_3_code 106 = .ok (.iconst 0, 1) := by decide +kernel
theorem d_Code_look_107 : decode prog_4_method_3_code 107 = .ok (.putfield 61, 3) := by decide +kernel
theorem d_Code_look_110 : decode prog_4_method_3_code 110 = .ok (.aload_n 0, 1) := by decide +kernel
theorem d_Code_look_140 : decode prog_4_method_3_code 140 = .ok (.putfield 65, 3) := by decide +kernel
theorem d_Code_look_143 : decode prog_4_method_3_code 143 = .ok (.aload_n 0, 1) := by decide +kernel
theorem d_Code_look_173 : decode prog_4_method_3_code 173 = .ok (.putfield 68, 3) := by decide +kernel
theorem d_Code_look_176 : decode prog_4_method_3_code 176 = .ok (.aload_n 0, 1) := by decide +kernel
theorem d_Code_look_177 : decode prog_4_method_3_code 177 = .ok (.getfield 29, 3) := by decide +kernel
theorem d_Code_look_180 : decode prog_4_method_3_code 180 = .ok (.bipush 7, 2) := by decide +kernel
theorem d_Code_look_182 : decode prog_4_method_3_code 182 = .ok (.iand, 1) := by decide +kernel
theorem d_Code_look_183 : decode prog_4_method_3_code 183 = .ok (.istore 4, 2) := by decide +kernel
theorem d_Code_look_185 : decode prog_4_method_3_code 185 = .ok (.iload 4, 2) := by decide +kernel
theorem d_Code_look_187 : decode prog_4_method_3_code 187 = .ok (.iconst 4, 1) := by decide +kernel
theorem d_Code_look_188 : decode prog_4_method_3_code 188 = .ok (.if_icmp .eq 10, 3) := by decide +kernel
theorem d_Code_look_198 : decode prog_4_method_3_code 198 = .ok (.aload_n 0, 1) := by decide +kernel
theorem d_Code_look_199 : decode prog_4_method_3_code 199 = .ok (.iload 4, 2) := by decide +kernel
theorem d_Code_look_201 : decode prog_4_method_3_code 201 = .ok (.iconst 4, 1) := by decide +kernel
theorem d_Code_look_202 : decode prog_4_method_3_code 202 = .ok (.if_icmp .ne 7, 3) := by decide +kernel
theorem d_Code_look_205 : decode prog_4_method_3_code 205 = .ok (.iconst 1, 1) := by decide +kernel
theorem d_Code_look_206 : decode prog_4_method_3_code 206 = .ok (.goto 4, 3) := by decide +kernel
theorem d_Code_look_210 : decode prog_4_method_3_code 210 = .ok (.invokevirtual 71, 3) := by decide +kernel
theorem u_967 : Cond.methodLink "FilterGuard$Code" 71 ⟨"FilterGuard$Code", "lookAtArithmetic", "(Z)V"⟩ ∈ fg_g := fg_in (List.mem_of_getElem? (i := 967) (by decide +kernel)) rfl
theorem u_970 : Cond.code ⟨"FilterGuard$Code", "lookAtArithmetic", "(Z)V"⟩ prog_4_method_5_code 3 none ∈ fg_g := fg_in (List.mem_of_getElem? (i := 970) (by decide +kernel)) rfl
theorem u_969 : Cond.instanceMethod ⟨"FilterGuard$Code", "lookAtArithmetic", "(Z)V"⟩ ∈ fg_g := fg_in (List.mem_of_getElem? (i := 969) (by decide +kernel)) rfl
theorem u_4 : Cond.selects "FilterGuard$Code" ⟨"FilterGuard$Code", "lookAtArithmetic", "(Z)V"⟩ ⟨"FilterGuard$Code", "lookAtArithmetic", "(Z)V"⟩ ∈ fg_g := fg_in (List.mem_of_getElem? (i := 4) (by decide +kernel)) rfl
theorem d_Code_look_213 : decode prog_4_method_3_code 213 = .ok (.goto 32, 3) := by decide +kernel
theorem d_Code_look_245 : decode prog_4_method_3_code 245 = .ok (.return_, 1) := by decide +kernel
theorem d_Code_look_191 : decode prog_4_method_3_code 191 = .ok (.iload 4, 2) := by decide +kernel
theorem d_Code_look_193 : decode prog_4_method_3_code 193 = .ok (.bipush 7, 2) := by decide +kernel
theorem d_Code_look_195 : decode prog_4_method_3_code 195 = .ok (.if_icmp .ne 21, 3) := by decide +kernel
theorem d_Code_look_216 : decode prog_4_method_3_code 216 = .ok (.iload 4, 2) := by decide +kernel
theorem d_Code_look_218 : decode prog_4_method_3_code 218 = .ok (.iconst 5, 1) := by decide +kernel
theorem d_Code_look_219 : decode prog_4_method_3_code 219 = .ok (.if_icmp .eq 10, 3) := by decide +kernel
theorem d_Code_look_229 : decode prog_4_method_3_code 229 = .ok (.aload_n 0, 1) := by decide +kernel
theorem d_Code_look_230 : decode prog_4_method_3_code 230 = .ok (.iload 4, 2) := by decide +kernel
theorem d_Code_look_232 : decode prog_4_method_3_code 232 = .ok (.bipush 6, 2) := by decide +kernel
theorem d_Code_look_234 : decode prog_4_method_3_code 234 = .ok (.if_icmp .ne 7, 3) := by decide +kernel
theorem d_Code_look_241 : decode prog_4_method_3_code 241 = .ok (.iconst 0, 1) := by decide +kernel
theorem d_Code_look_242 : decode prog_4_method_3_code 242 = .ok (.invokevirtual 75, 3) := by decide +kernel
theorem u_973 : Cond.methodLink "FilterGuard$Code" 75 ⟨"FilterGuard$Code", "lookAtJump", "(Z)V"⟩ ∈ fg_g := fg_in (List.mem_of_getElem? (i := 973) (by decide +kernel)) rfl
theorem u_976 : Cond.code ⟨"FilterGuard$Code", "lookAtJump", "(Z)V"⟩ prog_4_method_6_code 2 none ∈ fg_g := fg_in (List.mem_of_getElem? (i := 976) (by decide +kernel)) rfl
theorem u_975 : Cond.instanceMethod ⟨"FilterGuard$Code", "lookAtJump", "(Z)V"⟩ ∈ fg_g := fg_in (List.mem_of_getElem? (i := 975) (by decide +kernel)) rfl
theorem u_5 : Cond.selects "FilterGuard$Code" ⟨"FilterGuard$Code", "lookAtJump", "(Z)V"⟩ ⟨"FilterGuard$Code", "lookAtJump", "(Z)V"⟩ ∈ fg_g := fg_in (List.mem_of_getElem? (i := 5) (by decide +kernel)) rfl
theorem d_Code_look_222 : decode prog_4_method_3_code 222 = .ok (.iload 4, 2) := by decide +kernel
theorem d_Code_look_224 : decode prog_4_method_3_code 224 = .ok (.bipush 6, 2) := by decide +kernel
theorem d_Code_look_226 : decode prog_4_method_3_code 226 = .ok (.if_icmp .ne 19, 3) := by decide +kernel
theorem d_Code_look_237 : decode prog_4_method_3_code 237 = .ok (.iconst 1, 1) := by decide +kernel
theorem d_Code_look_238 : decode prog_4_method_3_code 238 = .ok (.goto 4, 3) := by decide +kernel
theorem d_Code_look_209 : decode prog_4_method_3_code 209 = .ok (.iconst 0, 1) := by decide +kernel
theorem d_Code_look_144 : decode prog_4_method_3_code 144 = .ok (.aload_n 0, 1) := by decide +kernel
theorem d_Code_look_145 : decode prog_4_method_3_code 145 = .ok (.getfield 55, 3) := by decide +kernel
theorem d_Code_look_148 : decode prog_4_method_3_code 148 = .ok (.iconst 2, 1) := by decide +kernel
theorem d_Code_look_149 : decode prog_4_method_3_code 149 = .ok (.if_icmp .eq 19, 3) := by decide +kernel
theorem d_Code_look_168 : decode prog_4_method_3_code 168 = .ok (.iconst 1, 1) := by decide +kernel
theorem d_Code_look_169 : decode prog_4_method_3_code 169 = .ok (.goto 4, 3) := by decide +kernel
theorem d_Code_look_152 : decode prog_4_method_3_code 152 = .ok (.aload_n 0, 1) := by decide +kernel
theorem d_Code_look_153 : decode prog_4_method_3_code 153 = .ok (.getfield 55, 3) := by decide +kernel
theorem d_Code_look_156 : decode prog_4_method_3_code 156 = .ok (.iconst 3, 1) := by decide +kernel
theorem d_Code_look_157 : decode prog_4_method_3_code 157 = .ok (.if_icmp .eq 11, 3) := by decide +kernel
theorem d_Code_look_160 : decode prog_4_method_3_code 160 = .ok (.aload_n 0, 1) := by decide +kernel
theorem d_Code_look_161 : decode prog_4_method_3_code 161 = .ok (.getfield 55, 3) := by decide +kernel
theorem d_Code_look_164 : decode prog_4_method_3_code 164 = .ok (.iconst 5, 1) := by decide +kernel
theorem d_Code_look_165 : decode prog_4_method_3_code 165 = .ok (.if_icmp .ne 7, 3) := by decide +kernel
theorem d_Code_look_172 : decode prog_4_method_3_code 172 = .ok (.iconst 0, 1) := by decide +kernel
theorem d_Code_look_111 : decode prog_4_method_3_code 111 = .ok (.aload_n 0, 1) := by decide +kernel
theorem d_Code_look_112 : decode prog_4_method_3_code 112 = .ok (.getfield 55, 3) := by decide +kernel
theorem d_Code_look_115 : decode prog_4_method_3_code 115 = .ok (.iconst 3, 1) := by decide +kernel
theorem d_Code_look_116 : decode prog_4_method_3_code 116 = .ok (.if_icmp .eq 19, 3) := by decide +kernel
theorem d_Code_look_135 : decode prog_4_method_3_code 135 = .ok (.iconst 1, 1) := by decide +kernel
theorem d_Code_look_136 : decode prog_4_method_3_code 136 = .ok (.goto 4, 3) := by decide +kernel
theorem d_Code_look_119 : decode prog_4_method_3_code 119 = .ok (.aload_n 0, 1) := by decide +kernel
theorem d_Code_look_120 : decode prog_4_method_3_code 120 = .ok (.getfield 55, 3) := by decide +kernel
theorem d_Code_look_123 : decode prog_4_method_3_code 123 = .ok (.iconst 4, 1) := by decide +kernel
theorem d_Code_look_124 : decode prog_4_method_3_code 124 = .ok (.if_icmp .eq 11, 3) := by decide +kernel
theorem d_Code_look_127 : decode prog_4_method_3_code 127 = .ok (.aload_n 0, 1) := by decide +kernel
theorem d_Code_look_128 : decode prog_4_method_3_code 128 = .ok (.getfield 55, 3) := by decide +kernel
theorem d_Code_look_131 : decode prog_4_method_3_code 131 = .ok (.iconst 5, 1) := by decide +kernel
theorem d_Code_look_132 : decode prog_4_method_3_code 132 = .ok (.if_icmp .ne 7, 3) := by decide +kernel
theorem d_Code_look_139 : decode prog_4_method_3_code 139 = .ok (.iconst 0, 1) := by decide +kernel
theorem d_Code_look_0 : decode prog_4_method_3_code 0 = .ok (.iload_n 1, 1) := by decide +kernel
theorem d_Code_look_1 : decode prog_4_method_3_code 1 = .ok (.ifCond .lt 20, 3) := by decide +kernel
theorem d_Code_look_21 : decode prog_4_method_3_code 21 = .ok (.lconst 0, 1) := by decide +kernel
theorem d_Code_look_4 : decode prog_4_method_3_code 4 = .ok (.iload_n 1, 1) := by decide +kernel
theorem d_Code_look_5 : decode prog_4_method_3_code 5 = .ok (.aload_n 0, 1) := by decide +kernel
theorem d_Code_look_6 : decode prog_4_method_3_code 6 = .ok (.getfield 22, 3) := by decide +kernel
theorem u_226 : Cond.fieldLink "FilterGuard$Code" 22 "FilterGuard$Code" "size" "I" ∈ fg_g := fg_in (List.mem_of_getElem? (i := 226) (by decide +kernel)) rfl
theorem d_Code_look_9 : decode prog_4_method_3_code 9 = .ok (.if_icmp .ge 12, 3) := by decide +kernel
theorem d_Code_look_12 : decode prog_4_method_3_code 12 = .ok (.aload_n 0, 1) := by decide +kernel
theorem d_Code_look_13 : decode prog_4_method_3_code 13 = .ok (.getfield 9, 3) := by decide +kernel
theorem d_Code_look_16 : decode prog_4_method_3_code 16 = .ok (.iload_n 1, 1) := by decide +kernel
theorem d_Code_look_17 : decode prog_4_method_3_code 17 = .ok (.laload, 1) := by decide +kernel
theorem d_Code_look_18 : decode prog_4_method_3_code 18 = .ok (.goto 4, 3) := by decide +kernel
def rm_Code_look : Room := { frames := 2, cells := 0, slots := 0, locals := 60 }
abbrev q_Code_look (D : va_G) (h0 : Nat) (hs : Nat) (hi : Nat) (hm : Nat) (n : Nat) (cf1 : Int32) (o : Int32) (ct1 : Int32) (ct2 : Int32) (co1 : Int32) (cf2 : Int32) (cg1 : Int32) (cb1 : Int32) (cn1 : Int32) (cn2 : Int32) (cr1 : Int32) (cr2 : Int32) (cs : ClassId) (f : Nat → Int64) (x1 : Int32) (w : Int64) (A : Nat → Prop) : Array Value → Jvm.State → Outcome → Jvm.State → Prop := va_Qv (fun (u : Int32 × Int32 × Int32 × Int32 × Int32) => u.1 = fd_fam (fd_op w) ∧ u.2.1 = fd_opn (fd_op w) ∧ u.2.2.1 = fd_nar (fd_op w) ∧ u.2.2.2.1 = fd_rt (fd_op w) ∧ u.2.2.2.2 = fd_rf (fd_op w)) (fg_B D A (fun (u : Int32 × Int32 × Int32 × Int32 × Int32) => [(h0, .inr (2, [.ref hs, .ref hi, .ref hm, .int (nI n), .int cf1, .int (fd_op w), .int (fd_to w), .int (fd_from w), .int (fd_off w), .int (fd_field w), .int u.1, .int (fd_by (fd_op w)), .int u.2.1, .int u.2.2.1, .int u.2.2.2.1, .int u.2.2.2.2])), (hs, .inl (cs, 2000, .inr (.inl f)))]) (fun (u : Int32 × Int32 × Int32 × Int32 × Int32) => [])) A
set_option maxHeartbeats 4000000 in
set_option maxRecDepth 100000 in
theorem c_Code_look (l : Launch) (D : va_G) (h0 : Nat) (hs : Nat) (hi : Nat) (hm : Nat) (n : Nat) (cf1 : Int32) (o : Int32) (ct1 : Int32) (ct2 : Int32) (co1 : Int32) (cf2 : Int32) (cg1 : Int32) (cb1 : Int32) (cn1 : Int32) (cn2 : Int32) (cr1 : Int32) (cr2 : Int32) (cs : ClassId) (f : Nat → Int64) (x1 : Int32) (w : Int64) (sz : Nat) (hn : n ≤ 2000) (hw : fd_word f n x1 = w) : Met l y_Code_look (fg_w y_Code_look prog_4_method_3_code 5 none) rm_Code_look (va_Pc [.ref h0, .int x1] (fz_P D [(cs, .long)] [(h0, .inr (2, [.ref hs, .ref hi, .ref hm, .int (nI n), .int cf1, .int o, .int ct1, .int ct2, .int co1, .int cf2, .int cg1, .int cb1, .int cn1, .int cn2, .int cr1, .int cr2])), (hs, .inl (cs, 2000, .inr (.inl f)))] sz)) (q_Code_look D h0 hs hi hm n cf1 o ct1 ct2 co1 cf2 cg1 cb1 cn1 cn2 cr1 cr2 cs f x1 w (va_A [(h0, .inr (2, [.ref hs, .ref hi, .ref hm, .int (nI n), .int cf1, .int o, .int ct1, .int ct2, .int co1, .int cf2, .int cg1, .int cb1, .int cn1, .int cn2, .int cr1, .int cr2])), (hs, .inl (cs, 2000, .inr (.inl f)))] sz)) rm_Code_look.cells rm_Code_look.slots (va_A [(h0, .inr (2, [.ref hs, .ref hi, .ref hm, .int (nI n), .int cf1, .int o, .int ct1, .int ct2, .int co1, .int cf2, .int cg1, .int cb1, .int cn1, .int cn2, .int cr1, .int cr2])), (hs, .inl (cs, 2000, .inr (.inl f)))] sz) := by
  refine fz_enter (fun A => q_Code_look D h0 hs hi hm n cf1 o ct1 ct2 co1 cf2 cg1 cb1 cn1 cn2 cr1 cr2 cs f x1 w A) (by decide +kernel) (Nat.le_of_ble_eq_true rfl) ?_
  intro p e s m below meth c ls A hx hb hml hown hts hr hlocks hin hP hK hD hS hA hX hl hz
  have hl : lv_has ls 5 [(0, .ref h0), (1, .int x1)] := hl
  have j0_0 : ∀ v0_0 : Int64, v0_0 = w → W p l e rm_Code_look s m [.ref h0, .int x1].toArray below meth c s.heap [] (0) (0) (MQ below (q_Code_look D h0 hs hi hm n cf1 o ct1 ct2 co1 cf2 cg1 cb1 cn1 cn2 cr1 cr2 cs f x1 w A) [.ref h0, .int x1].toArray s rm_Code_look.cells rm_Code_look.slots A) (F0 m 22 ls (.long v0_0 :: [])) := by
    intro v0_0 hv0_0
    have h9v0_0 : w = v0_0 := hv0_0.symm
    subst h9v0_0
    refine lv_lstore_n (lv' := [(2, .long w), (0, .ref h0), (1, .int x1)]) hx hb d_Code_look_22 rfl hl (by decide) rfl (fun ls hl => ?_)
    refine lv_aload_n hx hb d_Code_look_23 rfl (lv_at hl 1 rfl) ?_
    refine lv_lload_n hx hb d_Code_look_24 rfl (lv_at hl 0 rfl) ?_
    refine lv_l2i (v := w.toInt32) hx hb d_Code_look_25 rfl ?_
    refine lv_sipush (v := 255) hx hb d_Code_look_26 (by decide) ?_
    refine lv_iand hx hb d_Code_look_29 ?_
    refine fg_topi (y := fd_op w) rfl ?_
    refine va_put (D := D) (ci := 2) (v := .int (fd_op w)) (ty := .int) (C := "FilterGuard$Code") (T := F_Code) (N := 16) hx hb hts i_Code t_Code t_Code_ok n_Code hown hK hP hD hS 0 rfl rfl 5 (by decide) (hts _ u_231) (fun _ h9 => h9) rfl (by decide +kernel) rfl rfl (Nat.le_of_ble_eq_true rfl) d_Code_look_30 (fun H locs hP hD hS => ?_)
    have hP : va_P D classes [(h0, .inr (2, [.ref hs, .ref hi, .ref hm, .int (nI n), .int cf1, .int (fd_op w), .int ct1, .int ct2, .int co1, .int cf2, .int cg1, .int cb1, .int cn1, .int cn2, .int cr1, .int cr2])), (hs, .inl (cs, 2000, .inr (.inl f)))] H := hP
    have hD : va_D A [(h0, .inr (2, [.ref hs, .ref hi, .ref hm, .int (nI n), .int cf1, .int (fd_op w), .int ct1, .int ct2, .int co1, .int cf2, .int cg1, .int cb1, .int cn1, .int cn2, .int cr1, .int cr2])), (hs, .inl (cs, 2000, .inr (.inl f)))] := hD
    refine lv_aload_n hx hb d_Code_look_33 rfl (lv_at hl 1 rfl) ?_
    refine lv_lload_n hx hb d_Code_look_34 rfl (lv_at hl 0 rfl) ?_
    refine lv_bipush (v := 8) hx hb d_Code_look_35 (by decide) ?_
    refine lv_lushr (v := (w.toUInt64 >>> ((8 : Int32).toInt64.toUInt64 &&& Int64.toUInt64 63)).toInt64) hx hb d_Code_look_37 rfl ?_
    refine lv_l2i (v := ((w.toUInt64 >>> ((8 : Int32).toInt64.toUInt64 &&& Int64.toUInt64 63)).toInt64).toInt32) hx hb d_Code_look_38 rfl ?_
    refine lv_bipush (v := 15) hx hb d_Code_look_39 (by decide) ?_
    refine lv_iand hx hb d_Code_look_41 ?_
    refine fg_topi (y := fd_to w) rfl ?_
    refine va_put (D := D) (ci := 2) (v := .int (fd_to w)) (ty := .int) (C := "FilterGuard$Code") (T := F_Code) (N := 16) hx hb hts i_Code t_Code t_Code_ok n_Code hown hK hP hD hS 0 rfl rfl 6 (by decide) (hts _ u_233) (fun _ h9 => h9) rfl (by decide +kernel) rfl rfl (Nat.le_of_ble_eq_true rfl) d_Code_look_42 (fun H locs hP hD hS => ?_)
    have hP : va_P D classes [(h0, .inr (2, [.ref hs, .ref hi, .ref hm, .int (nI n), .int cf1, .int (fd_op w), .int (fd_to w), .int ct2, .int co1, .int cf2, .int cg1, .int cb1, .int cn1, .int cn2, .int cr1, .int cr2])), (hs, .inl (cs, 2000, .inr (.inl f)))] H := hP
    have hD : va_D A [(h0, .inr (2, [.ref hs, .ref hi, .ref hm, .int (nI n), .int cf1, .int (fd_op w), .int (fd_to w), .int ct2, .int co1, .int cf2, .int cg1, .int cb1, .int cn1, .int cn2, .int cr1, .int cr2])), (hs, .inl (cs, 2000, .inr (.inl f)))] := hD
    refine lv_aload_n hx hb d_Code_look_45 rfl (lv_at hl 1 rfl) ?_
    refine lv_lload_n hx hb d_Code_look_46 rfl (lv_at hl 0 rfl) ?_
    refine lv_bipush (v := 12) hx hb d_Code_look_47 (by decide) ?_
    refine lv_lushr (v := (w.toUInt64 >>> ((12 : Int32).toInt64.toUInt64 &&& Int64.toUInt64 63)).toInt64) hx hb d_Code_look_49 rfl ?_
    refine lv_l2i (v := ((w.toUInt64 >>> ((12 : Int32).toInt64.toUInt64 &&& Int64.toUInt64 63)).toInt64).toInt32) hx hb d_Code_look_50 rfl ?_
    refine lv_bipush (v := 15) hx hb d_Code_look_51 (by decide) ?_
    refine lv_iand hx hb d_Code_look_53 ?_
    refine fg_topi (y := fd_from w) rfl ?_
    refine va_put (D := D) (ci := 2) (v := .int (fd_from w)) (ty := .int) (C := "FilterGuard$Code") (T := F_Code) (N := 16) hx hb hts i_Code t_Code t_Code_ok n_Code hown hK hP hD hS 0 rfl rfl 7 (by decide) (hts _ u_238) (fun _ h9 => h9) rfl (by decide +kernel) rfl rfl (Nat.le_of_ble_eq_true rfl) d_Code_look_54 (fun H locs hP hD hS => ?_)
    have hP : va_P D classes [(h0, .inr (2, [.ref hs, .ref hi, .ref hm, .int (nI n), .int cf1, .int (fd_op w), .int (fd_to w), .int (fd_from w), .int co1, .int cf2, .int cg1, .int cb1, .int cn1, .int cn2, .int cr1, .int cr2])), (hs, .inl (cs, 2000, .inr (.inl f)))] H := hP
    have hD : va_D A [(h0, .inr (2, [.ref hs, .ref hi, .ref hm, .int (nI n), .int cf1, .int (fd_op w), .int (fd_to w), .int (fd_from w), .int co1, .int cf2, .int cg1, .int cb1, .int cn1, .int cn2, .int cr1, .int cr2])), (hs, .inl (cs, 2000, .inr (.inl f)))] := hD
    refine lv_aload_n hx hb d_Code_look_57 rfl (lv_at hl 1 rfl) ?_
    refine lv_lload_n hx hb d_Code_look_58 rfl (lv_at hl 0 rfl) ?_
    refine lv_bipush (v := 16) hx hb d_Code_look_59 (by decide) ?_
    refine lv_lushr (v := (w.toUInt64 >>> ((16 : Int32).toInt64.toUInt64 &&& Int64.toUInt64 63)).toInt64) hx hb d_Code_look_61 rfl ?_
    refine lv_l2i (v := ((w.toUInt64 >>> ((16 : Int32).toInt64.toUInt64 &&& Int64.toUInt64 63)).toInt64).toInt32) hx hb d_Code_look_62 rfl ?_
    refine lv_i2s (v := (((w.toUInt64 >>> ((16 : Int32).toInt64.toUInt64 &&& Int64.toUInt64 63)).toInt64).toInt32).toInt16.toInt32) hx hb d_Code_look_63 rfl ?_
    refine fg_topi (y := fd_off w) rfl ?_
    refine va_put (D := D) (ci := 2) (v := .int (fd_off w)) (ty := .int) (C := "FilterGuard$Code") (T := F_Code) (N := 16) hx hb hts i_Code t_Code t_Code_ok n_Code hown hK hP hD hS 0 rfl rfl 8 (by decide) (hts _ u_242) (fun _ h9 => h9) rfl (by decide +kernel) rfl rfl (Nat.le_of_ble_eq_true rfl) d_Code_look_64 (fun H locs hP hD hS => ?_)
    have hP : va_P D classes [(h0, .inr (2, [.ref hs, .ref hi, .ref hm, .int (nI n), .int cf1, .int (fd_op w), .int (fd_to w), .int (fd_from w), .int (fd_off w), .int cf2, .int cg1, .int cb1, .int cn1, .int cn2, .int cr1, .int cr2])), (hs, .inl (cs, 2000, .inr (.inl f)))] H := hP
    have hD : va_D A [(h0, .inr (2, [.ref hs, .ref hi, .ref hm, .int (nI n), .int cf1, .int (fd_op w), .int (fd_to w), .int (fd_from w), .int (fd_off w), .int cf2, .int cg1, .int cb1, .int cn1, .int cn2, .int cr1, .int cr2])), (hs, .inl (cs, 2000, .inr (.inl f)))] := hD
    refine lv_aload_n hx hb d_Code_look_67 rfl (lv_at hl 1 rfl) ?_
    refine lv_lload_n hx hb d_Code_look_68 rfl (lv_at hl 0 rfl) ?_
    refine lv_bipush (v := 32) hx hb d_Code_look_69 (by decide) ?_
    refine lv_lushr (v := (w.toUInt64 >>> ((32 : Int32).toInt64.toUInt64 &&& Int64.toUInt64 63)).toInt64) hx hb d_Code_look_71 rfl ?_
    refine lv_l2i (v := ((w.toUInt64 >>> ((32 : Int32).toInt64.toUInt64 &&& Int64.toUInt64 63)).toInt64).toInt32) hx hb d_Code_look_72 rfl ?_
    refine fg_topi (y := fd_field w) rfl ?_
    refine va_put (D := D) (ci := 2) (v := .int (fd_field w)) (ty := .int) (C := "FilterGuard$Code") (T := F_Code) (N := 16) hx hb hts i_Code t_Code t_Code_ok n_Code hown hK hP hD hS 0 rfl rfl 9 (by decide) (hts _ u_247) (fun _ h9 => h9) rfl (by decide +kernel) rfl rfl (Nat.le_of_ble_eq_true rfl) d_Code_look_73 (fun H locs hP hD hS => ?_)
    have hP : va_P D classes [(h0, .inr (2, [.ref hs, .ref hi, .ref hm, .int (nI n), .int cf1, .int (fd_op w), .int (fd_to w), .int (fd_from w), .int (fd_off w), .int (fd_field w), .int cg1, .int cb1, .int cn1, .int cn2, .int cr1, .int cr2])), (hs, .inl (cs, 2000, .inr (.inl f)))] H := hP
    have hD : va_D A [(h0, .inr (2, [.ref hs, .ref hi, .ref hm, .int (nI n), .int cf1, .int (fd_op w), .int (fd_to w), .int (fd_from w), .int (fd_off w), .int (fd_field w), .int cg1, .int cb1, .int cn1, .int cn2, .int cr1, .int cr2])), (hs, .inl (cs, 2000, .inr (.inl f)))] := hD
    refine lv_aload_n hx hb d_Code_look_76 rfl (lv_at hl 1 rfl) ?_
    obtain ⟨z1, hz1, hs1, hna1, hnl1⟩ := hz.1
    refine va_getsN hx hb hz1 hS hown (va_Nw.use rfl (hX _ o_961 rfl)) (fun _ h9 => h9) d_Code_look_77 ?_
    refine lv_aload_n hx hb d_Code_look_80 rfl (lv_at hl 1 rfl) ?_
    refine va_get (D := D) (ci := 2) (v := .int (fd_op w)) (C := "FilterGuard$Code") (T := F_Code) (N := 16) hx hb hts i_Code hown hK hP 0 rfl rfl 5 (by decide) (hts _ u_231) (fun _ h9 => h9) rfl d_Code_look_81 ?_
    refine lv_iconst (v := 3) hx hb d_Code_look_84 (by decide) ?_
    refine lv_ishr hx hb d_Code_look_85 ?_
    refine lv_iconst (v := 3) hx hb d_Code_look_86 (by decide) ?_
    refine lv_iand hx hb d_Code_look_87 ?_
    refine va_sld hx hb hs1 hnl1 hna1 hS (fd_in4 _) d_Code_look_88 ?_
    refine fg_topi (y := fd_by (fd_op w)) rfl ?_
    refine va_put (D := D) (ci := 2) (v := .int (fd_by (fd_op w))) (ty := .int) (C := "FilterGuard$Code") (T := F_Code) (N := 16) hx hb hts i_Code t_Code t_Code_ok n_Code hown hK hP hD hS 0 rfl rfl 11 (by decide) (hts _ u_257) (fun _ h9 => h9) rfl (by decide +kernel) rfl rfl (Nat.le_of_ble_eq_true rfl) d_Code_look_89 (fun H locs hP hD hS => ?_)
    have hP : va_P D classes [(h0, .inr (2, [.ref hs, .ref hi, .ref hm, .int (nI n), .int cf1, .int (fd_op w), .int (fd_to w), .int (fd_from w), .int (fd_off w), .int (fd_field w), .int cg1, .int (fd_by (fd_op w)), .int cn1, .int cn2, .int cr1, .int cr2])), (hs, .inl (cs, 2000, .inr (.inl f)))] H := hP
    have hD : va_D A [(h0, .inr (2, [.ref hs, .ref hi, .ref hm, .int (nI n), .int cf1, .int (fd_op w), .int (fd_to w), .int (fd_from w), .int (fd_off w), .int (fd_field w), .int cg1, .int (fd_by (fd_op w)), .int cn1, .int cn2, .int cr1, .int cr2])), (hs, .inl (cs, 2000, .inr (.inl f)))] := hD
    refine lv_aload_n hx hb d_Code_look_92 rfl (lv_at hl 1 rfl) ?_
    refine lv_aload_n hx hb d_Code_look_93 rfl (lv_at hl 1 rfl) ?_
    refine fg_theni (wr := [(hs, .inl (cs, 2000, .inr (.inl f)))]) (fg_runV (C := "FilterGuard$Code") (As := []) (rest := [.ref h0]) (ci := 2) (q0 := 0) ⟨hx, hb, hml, hown, hts⟩ (c_Code_familyOfMemory l D h0 hs hi hm n cf1 (fd_op w) (fd_to w) (fd_from w) (fd_off w) (fd_field w) cg1 (fd_by (fd_op w)) cn1 cn2 cr1 cr2 H.size) rfl (by show fg_nm y_Code_familyOfMemory 0; decide +kernel) u_963 u_965 u_3 u_182 u_966 ⟨Nat.le_of_ble_eq_true rfl, Nat.le_of_ble_eq_true rfl⟩ hX (hP.sub (ws' := [(h0, .inr (2, [.ref hs, .ref hi, .ref hm, .int (nI n), .int cf1, .int (fd_op w), .int (fd_to w), .int (fd_from w), .int (fd_off w), .int (fd_field w), .int cg1, .int (fd_by (fd_op w)), .int cn1, .int cn2, .int cr1, .int cr2]))]) [0] rfl) (hK.sub (tys' := []) [] rfl) (hD.sub (ws' := [(h0, .inr (2, [.ref hs, .ref hi, .ref hm, .int (nI n), .int cf1, .int (fd_op w), .int (fd_to w), .int (fd_from w), .int (fd_off w), .int (fd_field w), .int cg1, .int (fd_by (fd_op w)), .int cn1, .int cn2, .int cr1, .int cr2]))]) [0] (by decide) rfl) rfl rfl rfl rfl hl.1 (Nat.le_of_ble_eq_true rfl) d_Code_look_94 ⟨(Nat.le_of_ble_eq_true rfl), (Nat.le_of_ble_eq_true rfl)⟩) hP hD hK hS hA [0] [1] rfl rfl (by decide) (by decide) (fun r94_3 u H locs hw94_2 hP hD hK hS => ?_)
    try dsimp only at hw94_2
    have hP : va_P D classes [(hs, .inl (cs, 2000, .inr (.inl f))), (h0, .inr (2, [.ref hs, .ref hi, .ref hm, .int (nI n), .int cf1, .int (fd_op w), .int (fd_to w), .int (fd_from w), .int (fd_off w), .int (fd_field w), .int cg1, .int (fd_by (fd_op w)), .int cn1, .int cn2, .int cr1, .int cr2]))] H := hP
    have hD : va_D A [(hs, .inl (cs, 2000, .inr (.inl f))), (h0, .inr (2, [.ref hs, .ref hi, .ref hm, .int (nI n), .int cf1, .int (fd_op w), .int (fd_to w), .int (fd_from w), .int (fd_off w), .int (fd_field w), .int cg1, .int (fd_by (fd_op w)), .int cn1, .int cn2, .int cr1, .int cr2]))] := hD
    have hK : va_K D classes [(cs, .long)] s := hK
    refine W.widen (k := 0) (n := 0) (Nat.le_of_ble_eq_true rfl) (Nat.le_of_ble_eq_true rfl) ?_
    subst hw94_2
    have hP : va_P D classes [(hs, .inl (cs, 2000, .inr (.inl f))), (h0, .inr (2, [.ref hs, .ref hi, .ref hm, .int (nI n), .int cf1, .int (fd_op w), .int (fd_to w), .int (fd_from w), .int (fd_off w), .int (fd_field w), .int cg1, .int (fd_by (fd_op w)), .int cn1, .int cn2, .int cr1, .int cr2]))] H := hP
    have hD : va_D A [(hs, .inl (cs, 2000, .inr (.inl f))), (h0, .inr (2, [.ref hs, .ref hi, .ref hm, .int (nI n), .int cf1, .int (fd_op w), .int (fd_to w), .int (fd_from w), .int (fd_off w), .int (fd_field w), .int cg1, .int (fd_by (fd_op w)), .int cn1, .int cn2, .int cr1, .int cr2]))] := hD
    refine va_put (D := D) (ci := 2) (v := .int (fd_mem (fd_op w))) (ty := .int) (C := "FilterGuard$Code") (T := F_Code) (N := 16) hx hb hts i_Code t_Code t_Code_ok n_Code hown hK hP hD hS 1 rfl rfl 10 (by decide) (hts _ u_252) (fun _ h9 => h9) rfl (by decide +kernel) rfl rfl (Nat.le_of_ble_eq_true rfl) d_Code_look_97 (fun H locs hP hD hS => ?_)
    have hP : va_P D classes [(hs, .inl (cs, 2000, .inr (.inl f))), (h0, .inr (2, [.ref hs, .ref hi, .ref hm, .int (nI n), .int cf1, .int (fd_op w), .int (fd_to w), .int (fd_from w), .int (fd_off w), .int (fd_field w), .int (fd_mem (fd_op w)), .int (fd_by (fd_op w)), .int cn1, .int cn2, .int cr1, .int cr2]))] H := hP
    have hD : va_D A [(hs, .inl (cs, 2000, .inr (.inl f))), (h0, .inr (2, [.ref hs, .ref hi, .ref hm, .int (nI n), .int cf1, .int (fd_op w), .int (fd_to w), .int (fd_from w), .int (fd_off w), .int (fd_field w), .int (fd_mem (fd_op w)), .int (fd_by (fd_op w)), .int cn1, .int cn2, .int cr1, .int cr2]))] := hD
    refine lv_aload_n hx hb d_Code_look_100 rfl (lv_at hl 1 rfl) ?_
    refine lv_iconst (v := (-1)) hx hb d_Code_look_101 (by decide) ?_
    refine va_put (D := D) (ci := 2) (v := .int (-1)) (ty := .int) (C := "FilterGuard$Code") (T := F_Code) (N := 16) hx hb hts i_Code t_Code t_Code_ok n_Code hown hK hP hD hS 1 rfl rfl 12 (by decide) (hts _ u_261) (fun _ h9 => h9) rfl (by decide +kernel) rfl rfl (Nat.le_of_ble_eq_true rfl) d_Code_look_102 (fun H locs hP hD hS => ?_)
    have hP : va_P D classes [(hs, .inl (cs, 2000, .inr (.inl f))), (h0, .inr (2, [.ref hs, .ref hi, .ref hm, .int (nI n), .int cf1, .int (fd_op w), .int (fd_to w), .int (fd_from w), .int (fd_off w), .int (fd_field w), .int (fd_mem (fd_op w)), .int (fd_by (fd_op w)), .int (-1), .int cn2, .int cr1, .int cr2]))] H := hP
    have hD : va_D A [(hs, .inl (cs, 2000, .inr (.inl f))), (h0, .inr (2, [.ref hs, .ref hi, .ref hm, .int (nI n), .int cf1, .int (fd_op w), .int (fd_to w), .int (fd_from w), .int (fd_off w), .int (fd_field w), .int (fd_mem (fd_op w)), .int (fd_by (fd_op w)), .int (-1), .int cn2, .int cr1, .int cr2]))] := hD
    refine lv_aload_n hx hb d_Code_look_105 rfl (lv_at hl 1 rfl) ?_
    refine lv_iconst (v := 0) hx hb d_Code_look_106 (by decide) ?_
    refine va_put (D := D) (ci := 2) (v := .int 0) (ty := .boolean) (C := "FilterGuard$Code") (T := F_Code) (N := 16) hx hb hts i_Code t_Code t_Code_ok n_Code hown hK hP hD hS 1 rfl rfl 13 (by decide) (hts _ u_265) (fun _ h9 => h9) rfl (by decide +kernel) rfl rfl (Nat.le_of_ble_eq_true rfl) d_Code_look_107 (fun H locs hP hD hS => ?_)
    have hP : va_P D classes [(hs, .inl (cs, 2000, .inr (.inl f))), (h0, .inr (2, [.ref hs, .ref hi, .ref hm, .int (nI n), .int cf1, .int (fd_op w), .int (fd_to w), .int (fd_from w), .int (fd_off w), .int (fd_field w), .int (fd_mem (fd_op w)), .int (fd_by (fd_op w)), .int (-1), .int 0, .int cr1, .int cr2]))] H := hP
    have hD : va_D A [(hs, .inl (cs, 2000, .inr (.inl f))), (h0, .inr (2, [.ref hs, .ref hi, .ref hm, .int (nI n), .int cf1, .int (fd_op w), .int (fd_to w), .int (fd_from w), .int (fd_off w), .int (fd_field w), .int (fd_mem (fd_op w)), .int (fd_by (fd_op w)), .int (-1), .int 0, .int cr1, .int cr2]))] := hD
    refine lv_aload_n hx hb d_Code_look_110 rfl (lv_at hl 1 rfl) ?_
    have j111_3 : ∀ v111_3 : Int32, v111_3 = fd_rt0 (fd_mem (fd_op w)) → (v111_3 = 1 ∨ v111_3 = 0) → W p l e rm_Code_look s m [.ref h0, .int x1].toArray below meth c H locs (0) (0) (MQ below (q_Code_look D h0 hs hi hm n cf1 o ct1 ct2 co1 cf2 cg1 cb1 cn1 cn2 cr1 cr2 cs f x1 w A) [.ref h0, .int x1].toArray s rm_Code_look.cells rm_Code_look.slots A) (F0 m 140 ls (.int v111_3 :: .ref h0 :: [])) := by
      intro v111_3 hv111_3 zv111_3
      refine va_put (D := D) (ci := 2) (v := .int v111_3) (ty := .boolean) (C := "FilterGuard$Code") (T := F_Code) (N := 16) hx hb hts i_Code t_Code t_Code_ok n_Code hown hK hP hD hS 1 rfl rfl 14 (by decide) (hts _ u_270) (fun _ h9 => h9) rfl (by decide +kernel) (fg_nz01 zv111_3) (fg_fi01 zv111_3) (Nat.le_of_ble_eq_true rfl) d_Code_look_140 (fun H locs hP hD hS => ?_)
      have hP : va_P D classes [(hs, .inl (cs, 2000, .inr (.inl f))), (h0, .inr (2, [.ref hs, .ref hi, .ref hm, .int (nI n), .int cf1, .int (fd_op w), .int (fd_to w), .int (fd_from w), .int (fd_off w), .int (fd_field w), .int (fd_mem (fd_op w)), .int (fd_by (fd_op w)), .int (-1), .int 0, .int v111_3, .int cr2]))] H := hP
      have hD : va_D A [(hs, .inl (cs, 2000, .inr (.inl f))), (h0, .inr (2, [.ref hs, .ref hi, .ref hm, .int (nI n), .int cf1, .int (fd_op w), .int (fd_to w), .int (fd_from w), .int (fd_off w), .int (fd_field w), .int (fd_mem (fd_op w)), .int (fd_by (fd_op w)), .int (-1), .int 0, .int v111_3, .int cr2]))] := hD
      refine lv_aload_n hx hb d_Code_look_143 rfl (lv_at hl 1 rfl) ?_
      have j144_4 : ∀ v144_4 : Int32, v144_4 = fd_rf0 (fd_mem (fd_op w)) → (v144_4 = 1 ∨ v144_4 = 0) → W p l e rm_Code_look s m [.ref h0, .int x1].toArray below meth c H locs (0) (0) (MQ below (q_Code_look D h0 hs hi hm n cf1 o ct1 ct2 co1 cf2 cg1 cb1 cn1 cn2 cr1 cr2 cs f x1 w A) [.ref h0, .int x1].toArray s rm_Code_look.cells rm_Code_look.slots A) (F0 m 173 ls (.int v144_4 :: .ref h0 :: [])) := by
        intro v144_4 hv144_4 zv144_4
        refine va_put (D := D) (ci := 2) (v := .int v144_4) (ty := .boolean) (C := "FilterGuard$Code") (T := F_Code) (N := 16) hx hb hts i_Code t_Code t_Code_ok n_Code hown hK hP hD hS 1 rfl rfl 15 (by decide) (hts _ u_273) (fun _ h9 => h9) rfl (by decide +kernel) (fg_nz01 zv144_4) (fg_fi01 zv144_4) (Nat.le_of_ble_eq_true rfl) d_Code_look_173 (fun H locs hP hD hS => ?_)
        have hP : va_P D classes [(hs, .inl (cs, 2000, .inr (.inl f))), (h0, .inr (2, [.ref hs, .ref hi, .ref hm, .int (nI n), .int cf1, .int (fd_op w), .int (fd_to w), .int (fd_from w), .int (fd_off w), .int (fd_field w), .int (fd_mem (fd_op w)), .int (fd_by (fd_op w)), .int (-1), .int 0, .int v111_3, .int v144_4]))] H := hP
        have hD : va_D A [(hs, .inl (cs, 2000, .inr (.inl f))), (h0, .inr (2, [.ref hs, .ref hi, .ref hm, .int (nI n), .int cf1, .int (fd_op w), .int (fd_to w), .int (fd_from w), .int (fd_off w), .int (fd_field w), .int (fd_mem (fd_op w)), .int (fd_by (fd_op w)), .int (-1), .int 0, .int v111_3, .int v144_4]))] := hD
        refine lv_aload_n hx hb d_Code_look_176 rfl (lv_at hl 1 rfl) ?_
        obtain ⟨oj, hoj, hoo⟩ := fd_op_rng w
        refine va_get (D := D) (ci := 2) (v := .int (fd_op w)) (C := "FilterGuard$Code") (T := F_Code) (N := 16) hx hb hts i_Code hown hK hP 1 rfl rfl 5 (by decide) (hts _ u_231) (fun _ h9 => h9) rfl d_Code_look_177 ?_
        refine lv_bipush (v := 7) hx hb d_Code_look_180 (by decide) ?_
        refine lv_iand hx hb d_Code_look_182 ?_
        refine lv_istore (lv' := [(4, .int ((fd_op w) &&& 7)), (2, .long w), (0, .ref h0), (1, .int x1)]) hx hb d_Code_look_183 hl (by decide) rfl (fun ls hl => ?_)
        refine lv_iload hx hb d_Code_look_185 (lv_at hl 0 rfl) ?_
        refine lv_iconst (v := 4) hx hb d_Code_look_187 (by decide) ?_
        refine lv_icmp_eq (tgt := 198) hx hb d_Code_look_188 (by decide) (fun c_6 => ?_) (fun c_6 => ?_)
        · refine lv_aload_n hx hb d_Code_look_198 rfl (lv_at hl 2 rfl) ?_
          refine lv_iload hx hb d_Code_look_199 (lv_at hl 0 rfl) ?_
          refine lv_iconst (v := 4) hx hb d_Code_look_201 (by decide) ?_
          refine lv_icmp_ne (tgt := 209) hx hb d_Code_look_202 (by decide) (fun c_7 => absurd c_6 c_7) (fun c_7 => ?_)
          refine lv_iconst (v := 1) hx hb d_Code_look_205 (by decide) ?_
          refine lv_goto (tgt := 210) hx hb d_Code_look_206 (by decide) ?_
          have hq7 : fk_M [(hs, .inl (cs, 2000, .inr (.inl f))), (h0, .inr (2, [.ref hs, .ref hi, .ref hm, .int (nI n), .int cf1, .int (fd_op w), .int (fd_to w), .int (fd_from w), .int (fd_off w), .int (fd_field w), .int (fd_mem (fd_op w)), .int (fd_by (fd_op w)), .int (-1), .int 0, .int v111_3, .int v144_4]))] (fk_A [(h0, .inr (2, [.ref hs, .ref hi, .ref hm, .int (nI n), .int cf1, .int (fd_op w), .int (fd_to w), .int (fd_from w), .int (fd_off w), .int (fd_field w), .int (fd_mem (fd_op w)), .int (fd_by (fd_op w)), .int (-1), .int 0, .int v111_3, .int v144_4]))] [(hs, .inl (cs, 2000, .inr (.inl f)))]) := fk_pm ([[(hs, .inl (cs, 2000, .inr (.inl f)))], [(h0, .inr (2, [.ref hs, .ref hi, .ref hm, .int (nI n), .int cf1, .int (fd_op w), .int (fd_to w), .int (fd_from w), .int (fd_off w), .int (fd_field w), .int (fd_mem (fd_op w)), .int (fd_by (fd_op w)), .int (-1), .int 0, .int v111_3, .int v144_4]))]] : List va_W) ([[(h0, .inr (2, [.ref hs, .ref hi, .ref hm, .int (nI n), .int cf1, .int (fd_op w), .int (fd_to w), .int (fd_from w), .int (fd_off w), .int (fd_field w), .int (fd_mem (fd_op w)), .int (fd_by (fd_op w)), .int (-1), .int 0, .int v111_3, .int v144_4]))]] : List va_W) ([[(hs, .inl (cs, 2000, .inr (.inl f)))]] : List va_W) [1] [0] rfl rfl rfl
          refine fk_thenv (wr := [(hs, .inl (cs, 2000, .inr (.inl f)))]) (wn := (fun (u : Int32 × Int32 × Int32 × Int32 × Int32) => ([(hs, .inl (cs, 2000, .inr (.inl f))), (h0, .inr (2, [.ref hs, .ref hi, .ref hm, .int (nI n), .int cf1, .int (fd_op w), .int (fd_to w), .int (fd_from w), .int (fd_off w), .int (fd_field w), .int u.2.2.2.1, .int (fd_by (fd_op w)), .int u.1, .int u.2.1, .int u.2.2.2.2, .int u.2.2.1]))] : va_W))) (fz_runV (C := "FilterGuard$Code") (As := [.int 1]) (rest := []) (ci := 2) (q0 := 0) ⟨hx, hb, hml, hown, hts⟩ (c_Code_lookAtArithmetic l D h0 hs hi hm n cf1 (fd_op w) (fd_to w) (fd_from w) (fd_off w) (fd_field w) (fd_mem (fd_op w)) (fd_by (fd_op w)) (-1) 0 v111_3 v144_4 1 oj H.size hoj hoo (by decide)) rfl (by show fg_nm y_Code_lookAtArithmetic 1; decide +kernel) u_967 u_969 u_4 u_182 u_970 ⟨Nat.le_of_ble_eq_true rfl, Nat.le_of_ble_eq_true rfl⟩ hX (fk_Pl (fk_Pp hq7 hP)) (hK.sub (tys' := []) [] rfl) (fk_Dl (fk_Dp hq7 hD)) (hz.at hq7 hD hS hA) rfl rfl rfl rfl hl.1 (Nat.le_of_ble_eq_true rfl) d_Code_look_210 ⟨(Nat.le_of_ble_eq_true rfl), (Nat.le_of_ble_eq_true rfl)⟩) hq7 (fun (u : Int32 × Int32 × Int32 × Int32 × Int32) => fk_mp ([[(hs, .inl (cs, 2000, .inr (.inl f)))], [(h0, .inr (2, [.ref hs, .ref hi, .ref hm, .int (nI n), .int cf1, .int (fd_op w), .int (fd_to w), .int (fd_from w), .int (fd_off w), .int (fd_field w), .int u.2.2.2.1, .int (fd_by (fd_op w)), .int u.1, .int u.2.1, .int u.2.2.2.2, .int u.2.2.1]))]] : List va_W) ([[(hs, .inl (cs, 2000, .inr (.inl f)))]] : List va_W) ([[(h0, .inr (2, [.ref hs, .ref hi, .ref hm, .int (nI n), .int cf1, .int (fd_op w), .int (fd_to w), .int (fd_from w), .int (fd_off w), .int (fd_field w), .int u.2.2.2.1, .int (fd_by (fd_op w)), .int u.1, .int u.2.1, .int u.2.2.2.2, .int u.2.2.1]))]] : List va_W) [0] [1] rfl rfl rfl) hP hD hK hS hA (fun  u H locs hw210_8 hP hD hK hS => ?_)
          obtain ⟨v1_210_9, v2_210_10, v3_210_11, v4_210_12, v5_210_13⟩ := u
          try dsimp only at hw210_8
          have hP : va_P D classes [(hs, .inl (cs, 2000, .inr (.inl f))), (h0, .inr (2, [.ref hs, .ref hi, .ref hm, .int (nI n), .int cf1, .int (fd_op w), .int (fd_to w), .int (fd_from w), .int (fd_off w), .int (fd_field w), .int v4_210_12, .int (fd_by (fd_op w)), .int v1_210_9, .int v2_210_10, .int v5_210_13, .int v3_210_11]))] H := hP
          have hD : va_D A [(hs, .inl (cs, 2000, .inr (.inl f))), (h0, .inr (2, [.ref hs, .ref hi, .ref hm, .int (nI n), .int cf1, .int (fd_op w), .int (fd_to w), .int (fd_from w), .int (fd_off w), .int (fd_field w), .int v4_210_12, .int (fd_by (fd_op w)), .int v1_210_9, .int v2_210_10, .int v5_210_13, .int v3_210_11]))] := hD
          have hK : va_K D classes [(cs, .long)] s := hK
          refine W.widen (k := 0) (n := 0) (Nat.le_of_ble_eq_true rfl) (Nat.le_of_ble_eq_true rfl) ?_
          obtain ⟨hw210_8_0, hw210_8_1, hw210_8_2, hw210_8_3, hw210_8_4⟩ := hw210_8
          subst hw210_8_0
          subst hw210_8_1
          subst hw210_8_2
          subst hw210_8_3
          subst hw210_8_4
          have hP : va_P D classes [(hs, .inl (cs, 2000, .inr (.inl f))), (h0, .inr (2, [.ref hs, .ref hi, .ref hm, .int (nI n), .int cf1, .int (fd_op w), .int (fd_to w), .int (fd_from w), .int (fd_off w), .int (fd_field w), .int (fd_afam (fd_op w) (fd_mem (fd_op w))), .int (fd_by (fd_op w)), .int (fd_ao (fd_op w)), .int (fd_an (fd_op w) 1 0), .int (fd_art (fd_op w) v111_3), .int (fd_af (fd_op w) v144_4)]))] H := hP
          have hD : va_D A [(hs, .inl (cs, 2000, .inr (.inl f))), (h0, .inr (2, [.ref hs, .ref hi, .ref hm, .int (nI n), .int cf1, .int (fd_op w), .int (fd_to w), .int (fd_from w), .int (fd_off w), .int (fd_field w), .int (fd_afam (fd_op w) (fd_mem (fd_op w))), .int (fd_by (fd_op w)), .int (fd_ao (fd_op w)), .int (fd_an (fd_op w) 1 0), .int (fd_art (fd_op w) v111_3), .int (fd_af (fd_op w) v144_4)]))] := hD
          refine lv_goto (tgt := 245) hx hb d_Code_look_213 (by decide) ?_
          have eg : fd_grp (fd_op w) = 1 := (by unfold fd_grp; (repeat rw [if_pos c_6]); first | done | rfl | contradiction)
          have e4 : fd_b4 (fd_op w) = 1 := (by unfold fd_b4; (repeat rw [if_pos c_6]); first | done | rfl | contradiction)
          have t1 : (fd_afam (fd_op w) (fd_mem (fd_op w))) = fd_fam (fd_op w) := (by unfold fd_fam; rw [if_pos eg])
          have t2 : (fd_ao (fd_op w)) = fd_opn (fd_op w) := (by unfold fd_opn; rw [if_pos eg])
          have t3 : (fd_an (fd_op w) 1 0) = fd_nar (fd_op w) := (by unfold fd_nar; rw [if_pos eg]; try rw [e4])
          have t4 : (fd_art (fd_op w) v111_3) = fd_rt (fd_op w) := (by unfold fd_rt; rw [if_pos eg]; try rw [hv111_3])
          have t5 : (fd_af (fd_op w) v144_4) = fd_rf (fd_op w) := (by unfold fd_rf; rw [if_pos eg]; try rw [hv144_4])
          exact fg_retv ((fd_afam (fd_op w) (fd_mem (fd_op w))), (fd_ao (fd_op w)), (fd_an (fd_op w) 1 0), (fd_art (fd_op w) v111_3), (fd_af (fd_op w) v144_4)) hx hb hr hlocks ⟨t1, t2, t3, t4, t5⟩ (hP.sub (ws' := [(h0, .inr (2, [.ref hs, .ref hi, .ref hm, .int (nI n), .int cf1, .int (fd_op w), .int (fd_to w), .int (fd_from w), .int (fd_off w), .int (fd_field w), .int (fd_afam (fd_op w) (fd_mem (fd_op w))), .int (fd_by (fd_op w)), .int (fd_ao (fd_op w)), .int (fd_an (fd_op w) 1 0), .int (fd_art (fd_op w) v111_3), .int (fd_af (fd_op w) v144_4)])), (hs, .inl (cs, 2000, .inr (.inl f)))]) [1, 0] rfl) (hK.sub (tys' := []) [] rfl) (hD.sub (ws' := [(h0, .inr (2, [.ref hs, .ref hi, .ref hm, .int (nI n), .int cf1, .int (fd_op w), .int (fd_to w), .int (fd_from w), .int (fd_off w), .int (fd_field w), .int (fd_afam (fd_op w) (fd_mem (fd_op w))), .int (fd_by (fd_op w)), .int (fd_ao (fd_op w)), .int (fd_an (fd_op w) 1 0), .int (fd_art (fd_op w) v111_3), .int (fd_af (fd_op w) v144_4)])), (hs, .inl (cs, 2000, .inr (.inl f)))]) [1, 0] (by decide) rfl) hS (Nat.le_of_ble_eq_true rfl) (Nat.le_of_ble_eq_true rfl) d_Code_look_245
        · refine lv_iload hx hb d_Code_look_191 (lv_at hl 0 rfl) ?_
          refine lv_bipush (v := 7) hx hb d_Code_look_193 (by decide) ?_
          refine lv_icmp_ne (tgt := 216) hx hb d_Code_look_195 (by decide) (fun c_15 => ?_) (fun c_15 => ?_)
          · refine lv_iload hx hb d_Code_look_216 (lv_at hl 0 rfl) ?_
            refine lv_iconst (v := 5) hx hb d_Code_look_218 (by decide) ?_
            refine lv_icmp_eq (tgt := 229) hx hb d_Code_look_219 (by decide) (fun c_16 => ?_) (fun c_16 => ?_)
            · refine lv_aload_n hx hb d_Code_look_229 rfl (lv_at hl 2 rfl) ?_
              refine lv_iload hx hb d_Code_look_230 (lv_at hl 0 rfl) ?_
              refine lv_bipush (v := 6) hx hb d_Code_look_232 (by decide) ?_
              have gk_18 : ¬ ((fd_op w) &&& 7) = 6 := (fun z9 => absurd (c_16.symm.trans z9) (by decide))
              refine lv_icmp_ne (tgt := 241) hx hb d_Code_look_234 (by decide) (fun c_17 => ?_) (fun c_17 => absurd c_17 gk_18)
              refine lv_iconst (v := 0) hx hb d_Code_look_241 (by decide) ?_
              have hq18 : fk_M [(hs, .inl (cs, 2000, .inr (.inl f))), (h0, .inr (2, [.ref hs, .ref hi, .ref hm, .int (nI n), .int cf1, .int (fd_op w), .int (fd_to w), .int (fd_from w), .int (fd_off w), .int (fd_field w), .int (fd_mem (fd_op w)), .int (fd_by (fd_op w)), .int (-1), .int 0, .int v111_3, .int v144_4]))] (fk_A [(h0, .inr (2, [.ref hs, .ref hi, .ref hm, .int (nI n), .int cf1, .int (fd_op w), .int (fd_to w), .int (fd_from w), .int (fd_off w), .int (fd_field w), .int (fd_mem (fd_op w)), .int (fd_by (fd_op w)), .int (-1), .int 0, .int v111_3, .int v144_4]))] [(hs, .inl (cs, 2000, .inr (.inl f)))]) := fk_pm ([[(hs, .inl (cs, 2000, .inr (.inl f)))], [(h0, .inr (2, [.ref hs, .ref hi, .ref hm, .int (nI n), .int cf1, .int (fd_op w), .int (fd_to w), .int (fd_from w), .int (fd_off w), .int (fd_field w), .int (fd_mem (fd_op w)), .int (fd_by (fd_op w)), .int (-1), .int 0, .int v111_3, .int v144_4]))]] : List va_W) ([[(h0, .inr (2, [.ref hs, .ref hi, .ref hm, .int (nI n), .int cf1, .int (fd_op w), .int (fd_to w), .int (fd_from w), .int (fd_off w), .int (fd_field w), .int (fd_mem (fd_op w)), .int (fd_by (fd_op w)), .int (-1), .int 0, .int v111_3, .int v144_4]))]] : List va_W) ([[(hs, .inl (cs, 2000, .inr (.inl f)))]] : List va_W) [1] [0] rfl rfl rfl
              refine fk_thenv (wr := [(hs, .inl (cs, 2000, .inr (.inl f)))]) (wn := (fun (u : Int32 × Int32 × Int32 × Int32 × Int32) => ([(hs, .inl (cs, 2000, .inr (.inl f))), (h0, .inr (2, [.ref hs, .ref hi, .ref hm, .int (nI n), .int cf1, .int (fd_op w), .int (fd_to w), .int (fd_from w), .int (fd_off w), .int (fd_field w), .int u.2.2.2.1, .int (fd_by (fd_op w)), .int u.1, .int u.2.1, .int u.2.2.2.2, .int u.2.2.1]))] : va_W))) (fz_runV (C := "FilterGuard$Code") (As := [.int 0]) (rest := []) (ci := 2) (q0 := 0) ⟨hx, hb, hml, hown, hts⟩ (c_Code_lookAtJump l D h0 hs hi hm n cf1 (fd_op w) (fd_to w) (fd_from w) (fd_off w) (fd_field w) (fd_mem (fd_op w)) (fd_by (fd_op w)) (-1) 0 v111_3 v144_4 0 oj H.size hoj hoo (by decide)) rfl (by show fg_nm y_Code_lookAtJump 1; decide +kernel) u_973 u_975 u_5 u_182 u_976 ⟨Nat.le_of_ble_eq_true rfl, Nat.le_of_ble_eq_true rfl⟩ hX (fk_Pl (fk_Pp hq18 hP)) (hK.sub (tys' := []) [] rfl) (fk_Dl (fk_Dp hq18 hD)) (hz.at hq18 hD hS hA) rfl rfl rfl rfl hl.1 (Nat.le_of_ble_eq_true rfl) d_Code_look_242 ⟨(Nat.le_of_ble_eq_true rfl), (Nat.le_of_ble_eq_true rfl)⟩) hq18 (fun (u : Int32 × Int32 × Int32 × Int32 × Int32) => fk_mp ([[(hs, .inl (cs, 2000, .inr (.inl f)))], [(h0, .inr (2, [.ref hs, .ref hi, .ref hm, .int (nI n), .int cf1, .int (fd_op w), .int (fd_to w), .int (fd_from w), .int (fd_off w), .int (fd_field w), .int u.2.2.2.1, .int (fd_by (fd_op w)), .int u.1, .int u.2.1, .int u.2.2.2.2, .int u.2.2.1]))]] : List va_W) ([[(hs, .inl (cs, 2000, .inr (.inl f)))]] : List va_W) ([[(h0, .inr (2, [.ref hs, .ref hi, .ref hm, .int (nI n), .int cf1, .int (fd_op w), .int (fd_to w), .int (fd_from w), .int (fd_off w), .int (fd_field w), .int u.2.2.2.1, .int (fd_by (fd_op w)), .int u.1, .int u.2.1, .int u.2.2.2.2, .int u.2.2.1]))]] : List va_W) [0] [1] rfl rfl rfl) hP hD hK hS hA (fun  u H locs hw242_19 hP hD hK hS => ?_)
              obtain ⟨v1_242_20, v2_242_21, v3_242_22, v4_242_23, v5_242_24⟩ := u
              try dsimp only at hw242_19
              have hP : va_P D classes [(hs, .inl (cs, 2000, .inr (.inl f))), (h0, .inr (2, [.ref hs, .ref hi, .ref hm, .int (nI n), .int cf1, .int (fd_op w), .int (fd_to w), .int (fd_from w), .int (fd_off w), .int (fd_field w), .int v4_242_23, .int (fd_by (fd_op w)), .int v1_242_20, .int v2_242_21, .int v5_242_24, .int v3_242_22]))] H := hP
              have hD : va_D A [(hs, .inl (cs, 2000, .inr (.inl f))), (h0, .inr (2, [.ref hs, .ref hi, .ref hm, .int (nI n), .int cf1, .int (fd_op w), .int (fd_to w), .int (fd_from w), .int (fd_off w), .int (fd_field w), .int v4_242_23, .int (fd_by (fd_op w)), .int v1_242_20, .int v2_242_21, .int v5_242_24, .int v3_242_22]))] := hD
              have hK : va_K D classes [(cs, .long)] s := hK
              refine W.widen (k := 0) (n := 0) (Nat.le_of_ble_eq_true rfl) (Nat.le_of_ble_eq_true rfl) ?_
              obtain ⟨hw242_19_0, hw242_19_1, hw242_19_2, hw242_19_3, hw242_19_4⟩ := hw242_19
              subst hw242_19_0
              subst hw242_19_1
              subst hw242_19_2
              subst hw242_19_3
              subst hw242_19_4
              have hP : va_P D classes [(hs, .inl (cs, 2000, .inr (.inl f))), (h0, .inr (2, [.ref hs, .ref hi, .ref hm, .int (nI n), .int cf1, .int (fd_op w), .int (fd_to w), .int (fd_from w), .int (fd_off w), .int (fd_field w), .int (fd_jfam (fd_op w) (fd_mem (fd_op w))), .int (fd_by (fd_op w)), .int (fd_jo (fd_op w)), .int (fd_jn (fd_op w) 0 0), .int (fd_jrt (fd_op w) v111_3), .int (fd_jf (fd_op w) v144_4)]))] H := hP
              have hD : va_D A [(hs, .inl (cs, 2000, .inr (.inl f))), (h0, .inr (2, [.ref hs, .ref hi, .ref hm, .int (nI n), .int cf1, .int (fd_op w), .int (fd_to w), .int (fd_from w), .int (fd_off w), .int (fd_field w), .int (fd_jfam (fd_op w) (fd_mem (fd_op w))), .int (fd_by (fd_op w)), .int (fd_jo (fd_op w)), .int (fd_jn (fd_op w) 0 0), .int (fd_jrt (fd_op w) v111_3), .int (fd_jf (fd_op w) v144_4)]))] := hD
              have eg : fd_grp (fd_op w) = 2 := (by unfold fd_grp; (repeat rw [if_neg c_6]); (repeat rw [if_neg c_15]); (repeat rw [if_pos c_16]); (repeat rw [if_neg gk_18]); first | done | rfl | contradiction)
              have e6 : fd_b6 (fd_op w) = 0 := (by unfold fd_b6; (repeat rw [if_neg c_6]); (repeat rw [if_neg c_15]); (repeat rw [if_pos c_16]); (repeat rw [if_neg gk_18]); first | done | rfl | contradiction)
              have t1 : (fd_jfam (fd_op w) (fd_mem (fd_op w))) = fd_fam (fd_op w) := (by unfold fd_fam; rw [if_neg (by rw [eg]; decide), if_pos eg])
              have t2 : (fd_jo (fd_op w)) = fd_opn (fd_op w) := (by unfold fd_opn; rw [if_neg (by rw [eg]; decide), if_pos eg])
              have t3 : (fd_jn (fd_op w) 0 0) = fd_nar (fd_op w) := (by unfold fd_nar; rw [if_neg (by rw [eg]; decide), if_pos eg]; try rw [e6])
              have t4 : (fd_jrt (fd_op w) v111_3) = fd_rt (fd_op w) := (by unfold fd_rt; rw [if_neg (by rw [eg]; decide), if_pos eg]; try rw [hv111_3])
              have t5 : (fd_jf (fd_op w) v144_4) = fd_rf (fd_op w) := (by unfold fd_rf; rw [if_neg (by rw [eg]; decide), if_pos eg]; try rw [hv144_4])
              exact fg_retv ((fd_jfam (fd_op w) (fd_mem (fd_op w))), (fd_jo (fd_op w)), (fd_jn (fd_op w) 0 0), (fd_jrt (fd_op w) v111_3), (fd_jf (fd_op w) v144_4)) hx hb hr hlocks ⟨t1, t2, t3, t4, t5⟩ (hP.sub (ws' := [(h0, .inr (2, [.ref hs, .ref hi, .ref hm, .int (nI n), .int cf1, .int (fd_op w), .int (fd_to w), .int (fd_from w), .int (fd_off w), .int (fd_field w), .int (fd_jfam (fd_op w) (fd_mem (fd_op w))), .int (fd_by (fd_op w)), .int (fd_jo (fd_op w)), .int (fd_jn (fd_op w) 0 0), .int (fd_jrt (fd_op w) v111_3), .int (fd_jf (fd_op w) v144_4)])), (hs, .inl (cs, 2000, .inr (.inl f)))]) [1, 0] rfl) (hK.sub (tys' := []) [] rfl) (hD.sub (ws' := [(h0, .inr (2, [.ref hs, .ref hi, .ref hm, .int (nI n), .int cf1, .int (fd_op w), .int (fd_to w), .int (fd_from w), .int (fd_off w), .int (fd_field w), .int (fd_jfam (fd_op w) (fd_mem (fd_op w))), .int (fd_by (fd_op w)), .int (fd_jo (fd_op w)), .int (fd_jn (fd_op w) 0 0), .int (fd_jrt (fd_op w) v111_3), .int (fd_jf (fd_op w) v144_4)])), (hs, .inl (cs, 2000, .inr (.inl f)))]) [1, 0] (by decide) rfl) hS (Nat.le_of_ble_eq_true rfl) (Nat.le_of_ble_eq_true rfl) d_Code_look_245
            · refine lv_iload hx hb d_Code_look_222 (lv_at hl 0 rfl) ?_
              refine lv_bipush (v := 6) hx hb d_Code_look_224 (by decide) ?_
              refine lv_icmp_ne (tgt := 245) hx hb d_Code_look_226 (by decide) (fun c_26 => ?_) (fun c_26 => ?_)
              · have eg : fd_grp (fd_op w) = 0 := (by unfold fd_grp; (repeat rw [if_neg c_6]); (repeat rw [if_neg c_15]); (repeat rw [if_neg c_16]); (repeat rw [if_neg c_26]); first | done | rfl | contradiction)
                skip
                have t1 : (fd_mem (fd_op w)) = fd_fam (fd_op w) := (by unfold fd_fam; rw [if_neg (by rw [eg]; decide), if_neg (by rw [eg]; decide)])
                have t2 : (-1) = fd_opn (fd_op w) := (by unfold fd_opn; rw [if_neg (by rw [eg]; decide), if_neg (by rw [eg]; decide)])
                have t3 : 0 = fd_nar (fd_op w) := (by unfold fd_nar; rw [if_neg (by rw [eg]; decide), if_neg (by rw [eg]; decide)])
                have t4 : v111_3 = fd_rt (fd_op w) := (by unfold fd_rt; rw [if_neg (by rw [eg]; decide), if_neg (by rw [eg]; decide)]; try rw [hv111_3])
                have t5 : v144_4 = fd_rf (fd_op w) := (by unfold fd_rf; rw [if_neg (by rw [eg]; decide), if_neg (by rw [eg]; decide)]; try rw [hv144_4])
                exact fg_retv ((fd_mem (fd_op w)), (-1), 0, v111_3, v144_4) hx hb hr hlocks ⟨t1, t2, t3, t4, t5⟩ (hP.sub (ws' := [(h0, .inr (2, [.ref hs, .ref hi, .ref hm, .int (nI n), .int cf1, .int (fd_op w), .int (fd_to w), .int (fd_from w), .int (fd_off w), .int (fd_field w), .int (fd_mem (fd_op w)), .int (fd_by (fd_op w)), .int (-1), .int 0, .int v111_3, .int v144_4])), (hs, .inl (cs, 2000, .inr (.inl f)))]) [1, 0] rfl) (hK.sub (tys' := []) [] rfl) (hD.sub (ws' := [(h0, .inr (2, [.ref hs, .ref hi, .ref hm, .int (nI n), .int cf1, .int (fd_op w), .int (fd_to w), .int (fd_from w), .int (fd_off w), .int (fd_field w), .int (fd_mem (fd_op w)), .int (fd_by (fd_op w)), .int (-1), .int 0, .int v111_3, .int v144_4])), (hs, .inl (cs, 2000, .inr (.inl f)))]) [1, 0] (by decide) rfl) hS (Nat.le_of_ble_eq_true rfl) (Nat.le_of_ble_eq_true rfl) d_Code_look_245
              · refine lv_aload_n hx hb d_Code_look_229 rfl (lv_at hl 2 rfl) ?_
                refine lv_iload hx hb d_Code_look_230 (lv_at hl 0 rfl) ?_
                refine lv_bipush (v := 6) hx hb d_Code_look_232 (by decide) ?_
                refine lv_icmp_ne (tgt := 241) hx hb d_Code_look_234 (by decide) (fun c_27 => absurd c_26 c_27) (fun c_27 => ?_)
                refine lv_iconst (v := 1) hx hb d_Code_look_237 (by decide) ?_
                refine lv_goto (tgt := 242) hx hb d_Code_look_238 (by decide) ?_
                have hq27 : fk_M [(hs, .inl (cs, 2000, .inr (.inl f))), (h0, .inr (2, [.ref hs, .ref hi, .ref hm, .int (nI n), .int cf1, .int (fd_op w), .int (fd_to w), .int (fd_from w), .int (fd_off w), .int (fd_field w), .int (fd_mem (fd_op w)), .int (fd_by (fd_op w)), .int (-1), .int 0, .int v111_3, .int v144_4]))] (fk_A [(h0, .inr (2, [.ref hs, .ref hi, .ref hm, .int (nI n), .int cf1, .int (fd_op w), .int (fd_to w), .int (fd_from w), .int (fd_off w), .int (fd_field w), .int (fd_mem (fd_op w)), .int (fd_by (fd_op w)), .int (-1), .int 0, .int v111_3, .int v144_4]))] [(hs, .inl (cs, 2000, .inr (.inl f)))]) := fk_pm ([[(hs, .inl (cs, 2000, .inr (.inl f)))], [(h0, .inr (2, [.ref hs, .ref hi, .ref hm, .int (nI n), .int cf1, .int (fd_op w), .int (fd_to w), .int (fd_from w), .int (fd_off w), .int (fd_field w), .int (fd_mem (fd_op w)), .int (fd_by (fd_op w)), .int (-1), .int 0, .int v111_3, .int v144_4]))]] : List va_W) ([[(h0, .inr (2, [.ref hs, .ref hi, .ref hm, .int (nI n), .int cf1, .int (fd_op w), .int (fd_to w), .int (fd_from w), .int (fd_off w), .int (fd_field w), .int (fd_mem (fd_op w)), .int (fd_by (fd_op w)), .int (-1), .int 0, .int v111_3, .int v144_4]))]] : List va_W) ([[(hs, .inl (cs, 2000, .inr (.inl f)))]] : List va_W) [1] [0] rfl rfl rfl
                refine fk_thenv (wr := [(hs, .inl (cs, 2000, .inr (.inl f)))]) (wn := (fun (u : Int32 × Int32 × Int32 × Int32 × Int32) => ([(hs, .inl (cs, 2000, .inr (.inl f))), (h0, .inr (2, [.ref hs, .ref hi, .ref hm, .int (nI n), .int cf1, .int (fd_op w), .int (fd_to w), .int (fd_from w), .int (fd_off w), .int (fd_field w), .int u.2.2.2.1, .int (fd_by (fd_op w)), .int u.1, .int u.2.1, .int u.2.2.2.2, .int u.2.2.1]))] : va_W))) (fz_runV (C := "FilterGuard$Code") (As := [.int 1]) (rest := []) (ci := 2) (q0 := 0) ⟨hx, hb, hml, hown, hts⟩ (c_Code_lookAtJump l D h0 hs hi hm n cf1 (fd_op w) (fd_to w) (fd_from w) (fd_off w) (fd_field w) (fd_mem (fd_op w)) (fd_by (fd_op w)) (-1) 0 v111_3 v144_4 1 oj H.size hoj hoo (by decide)) rfl (by show fg_nm y_Code_lookAtJump 1; decide +kernel) u_973 u_975 u_5 u_182 u_976 ⟨Nat.le_of_ble_eq_true rfl, Nat.le_of_ble_eq_true rfl⟩ hX (fk_Pl (fk_Pp hq27 hP)) (hK.sub (tys' := []) [] rfl) (fk_Dl (fk_Dp hq27 hD)) (hz.at hq27 hD hS hA) rfl rfl rfl rfl hl.1 (Nat.le_of_ble_eq_true rfl) d_Code_look_242 ⟨(Nat.le_of_ble_eq_true rfl), (Nat.le_of_ble_eq_true rfl)⟩) hq27 (fun (u : Int32 × Int32 × Int32 × Int32 × Int32) => fk_mp ([[(hs, .inl (cs, 2000, .inr (.inl f)))], [(h0, .inr (2, [.ref hs, .ref hi, .ref hm, .int (nI n), .int cf1, .int (fd_op w), .int (fd_to w), .int (fd_from w), .int (fd_off w), .int (fd_field w), .int u.2.2.2.1, .int (fd_by (fd_op w)), .int u.1, .int u.2.1, .int u.2.2.2.2, .int u.2.2.1]))]] : List va_W) ([[(hs, .inl (cs, 2000, .inr (.inl f)))]] : List va_W) ([[(h0, .inr (2, [.ref hs, .ref hi, .ref hm, .int (nI n), .int cf1, .int (fd_op w), .int (fd_to w), .int (fd_from w), .int (fd_off w), .int (fd_field w), .int u.2.2.2.1, .int (fd_by (fd_op w)), .int u.1, .int u.2.1, .int u.2.2.2.2, .int u.2.2.1]))]] : List va_W) [0] [1] rfl rfl rfl) hP hD hK hS hA (fun  u H locs hw242_28 hP hD hK hS => ?_)
                obtain ⟨v1_242_29, v2_242_30, v3_242_31, v4_242_32, v5_242_33⟩ := u
                try dsimp only at hw242_28
                have hP : va_P D classes [(hs, .inl (cs, 2000, .inr (.inl f))), (h0, .inr (2, [.ref hs, .ref hi, .ref hm, .int (nI n), .int cf1, .int (fd_op w), .int (fd_to w), .int (fd_from w), .int (fd_off w), .int (fd_field w), .int v4_242_32, .int (fd_by (fd_op w)), .int v1_242_29, .int v2_242_30, .int v5_242_33, .int v3_242_31]))] H := hP
                have hD : va_D A [(hs, .inl (cs, 2000, .inr (.inl f))), (h0, .inr (2, [.ref hs, .ref hi, .ref hm, .int (nI n), .int cf1, .int (fd_op w), .int (fd_to w), .int (fd_from w), .int (fd_off w), .int (fd_field w), .int v4_242_32, .int (fd_by (fd_op w)), .int v1_242_29, .int v2_242_30, .int v5_242_33, .int v3_242_31]))] := hD
                have hK : va_K D classes [(cs, .long)] s := hK
                refine W.widen (k := 0) (n := 0) (Nat.le_of_ble_eq_true rfl) (Nat.le_of_ble_eq_true rfl) ?_
                obtain ⟨hw242_28_0, hw242_28_1, hw242_28_2, hw242_28_3, hw242_28_4⟩ := hw242_28
                subst hw242_28_0
                subst hw242_28_1
                subst hw242_28_2
                subst hw242_28_3
                subst hw242_28_4
                have hP : va_P D classes [(hs, .inl (cs, 2000, .inr (.inl f))), (h0, .inr (2, [.ref hs, .ref hi, .ref hm, .int (nI n), .int cf1, .int (fd_op w), .int (fd_to w), .int (fd_from w), .int (fd_off w), .int (fd_field w), .int (fd_jfam (fd_op w) (fd_mem (fd_op w))), .int (fd_by (fd_op w)), .int (fd_jo (fd_op w)), .int (fd_jn (fd_op w) 1 0), .int (fd_jrt (fd_op w) v111_3), .int (fd_jf (fd_op w) v144_4)]))] H := hP
                have hD : va_D A [(hs, .inl (cs, 2000, .inr (.inl f))), (h0, .inr (2, [.ref hs, .ref hi, .ref hm, .int (nI n), .int cf1, .int (fd_op w), .int (fd_to w), .int (fd_from w), .int (fd_off w), .int (fd_field w), .int (fd_jfam (fd_op w) (fd_mem (fd_op w))), .int (fd_by (fd_op w)), .int (fd_jo (fd_op w)), .int (fd_jn (fd_op w) 1 0), .int (fd_jrt (fd_op w) v111_3), .int (fd_jf (fd_op w) v144_4)]))] := hD
                have eg : fd_grp (fd_op w) = 2 := (by unfold fd_grp; (repeat rw [if_neg c_6]); (repeat rw [if_neg c_15]); (repeat rw [if_neg c_16]); (repeat rw [if_pos c_26]); first | done | rfl | contradiction)
                have e6 : fd_b6 (fd_op w) = 1 := (by unfold fd_b6; (repeat rw [if_neg c_6]); (repeat rw [if_neg c_15]); (repeat rw [if_neg c_16]); (repeat rw [if_pos c_26]); first | done | rfl | contradiction)
                have t1 : (fd_jfam (fd_op w) (fd_mem (fd_op w))) = fd_fam (fd_op w) := (by unfold fd_fam; rw [if_neg (by rw [eg]; decide), if_pos eg])
                have t2 : (fd_jo (fd_op w)) = fd_opn (fd_op w) := (by unfold fd_opn; rw [if_neg (by rw [eg]; decide), if_pos eg])
                have t3 : (fd_jn (fd_op w) 1 0) = fd_nar (fd_op w) := (by unfold fd_nar; rw [if_neg (by rw [eg]; decide), if_pos eg]; try rw [e6])
                have t4 : (fd_jrt (fd_op w) v111_3) = fd_rt (fd_op w) := (by unfold fd_rt; rw [if_neg (by rw [eg]; decide), if_pos eg]; try rw [hv111_3])
                have t5 : (fd_jf (fd_op w) v144_4) = fd_rf (fd_op w) := (by unfold fd_rf; rw [if_neg (by rw [eg]; decide), if_pos eg]; try rw [hv144_4])
                exact fg_retv ((fd_jfam (fd_op w) (fd_mem (fd_op w))), (fd_jo (fd_op w)), (fd_jn (fd_op w) 1 0), (fd_jrt (fd_op w) v111_3), (fd_jf (fd_op w) v144_4)) hx hb hr hlocks ⟨t1, t2, t3, t4, t5⟩ (hP.sub (ws' := [(h0, .inr (2, [.ref hs, .ref hi, .ref hm, .int (nI n), .int cf1, .int (fd_op w), .int (fd_to w), .int (fd_from w), .int (fd_off w), .int (fd_field w), .int (fd_jfam (fd_op w) (fd_mem (fd_op w))), .int (fd_by (fd_op w)), .int (fd_jo (fd_op w)), .int (fd_jn (fd_op w) 1 0), .int (fd_jrt (fd_op w) v111_3), .int (fd_jf (fd_op w) v144_4)])), (hs, .inl (cs, 2000, .inr (.inl f)))]) [1, 0] rfl) (hK.sub (tys' := []) [] rfl) (hD.sub (ws' := [(h0, .inr (2, [.ref hs, .ref hi, .ref hm, .int (nI n), .int cf1, .int (fd_op w), .int (fd_to w), .int (fd_from w), .int (fd_off w), .int (fd_field w), .int (fd_jfam (fd_op w) (fd_mem (fd_op w))), .int (fd_by (fd_op w)), .int (fd_jo (fd_op w)), .int (fd_jn (fd_op w) 1 0), .int (fd_jrt (fd_op w) v111_3), .int (fd_jf (fd_op w) v144_4)])), (hs, .inl (cs, 2000, .inr (.inl f)))]) [1, 0] (by decide) rfl) hS (Nat.le_of_ble_eq_true rfl) (Nat.le_of_ble_eq_true rfl) d_Code_look_245
          · refine lv_aload_n hx hb d_Code_look_198 rfl (lv_at hl 2 rfl) ?_
            refine lv_iload hx hb d_Code_look_199 (lv_at hl 0 rfl) ?_
            refine lv_iconst (v := 4) hx hb d_Code_look_201 (by decide) ?_
            refine lv_icmp_ne (tgt := 209) hx hb d_Code_look_202 (by decide) (fun c_35 => ?_) (fun c_35 => absurd c_35 c_6)
            refine lv_iconst (v := 0) hx hb d_Code_look_209 (by decide) ?_
            have hq35 : fk_M [(hs, .inl (cs, 2000, .inr (.inl f))), (h0, .inr (2, [.ref hs, .ref hi, .ref hm, .int (nI n), .int cf1, .int (fd_op w), .int (fd_to w), .int (fd_from w), .int (fd_off w), .int (fd_field w), .int (fd_mem (fd_op w)), .int (fd_by (fd_op w)), .int (-1), .int 0, .int v111_3, .int v144_4]))] (fk_A [(h0, .inr (2, [.ref hs, .ref hi, .ref hm, .int (nI n), .int cf1, .int (fd_op w), .int (fd_to w), .int (fd_from w), .int (fd_off w), .int (fd_field w), .int (fd_mem (fd_op w)), .int (fd_by (fd_op w)), .int (-1), .int 0, .int v111_3, .int v144_4]))] [(hs, .inl (cs, 2000, .inr (.inl f)))]) := fk_pm ([[(hs, .inl (cs, 2000, .inr (.inl f)))], [(h0, .inr (2, [.ref hs, .ref hi, .ref hm, .int (nI n), .int cf1, .int (fd_op w), .int (fd_to w), .int (fd_from w), .int (fd_off w), .int (fd_field w), .int (fd_mem (fd_op w)), .int (fd_by (fd_op w)), .int (-1), .int 0, .int v111_3, .int v144_4]))]] : List va_W) ([[(h0, .inr (2, [.ref hs, .ref hi, .ref hm, .int (nI n), .int cf1, .int (fd_op w), .int (fd_to w), .int (fd_from w), .int (fd_off w), .int (fd_field w), .int (fd_mem (fd_op w)), .int (fd_by (fd_op w)), .int (-1), .int 0, .int v111_3, .int v144_4]))]] : List va_W) ([[(hs, .inl (cs, 2000, .inr (.inl f)))]] : List va_W) [1] [0] rfl rfl rfl
            refine fk_thenv (wr := [(hs, .inl (cs, 2000, .inr (.inl f)))]) (wn := (fun (u : Int32 × Int32 × Int32 × Int32 × Int32) => ([(hs, .inl (cs, 2000, .inr (.inl f))), (h0, .inr (2, [.ref hs, .ref hi, .ref hm, .int (nI n), .int cf1, .int (fd_op w), .int (fd_to w), .int (fd_from w), .int (fd_off w), .int (fd_field w), .int u.2.2.2.1, .int (fd_by (fd_op w)), .int u.1, .int u.2.1, .int u.2.2.2.2, .int u.2.2.1]))] : va_W))) (fz_runV (C := "FilterGuard$Code") (As := [.int 0]) (rest := []) (ci := 2) (q0 := 0) ⟨hx, hb, hml, hown, hts⟩ (c_Code_lookAtArithmetic l D h0 hs hi hm n cf1 (fd_op w) (fd_to w) (fd_from w) (fd_off w) (fd_field w) (fd_mem (fd_op w)) (fd_by (fd_op w)) (-1) 0 v111_3 v144_4 0 oj H.size hoj hoo (by decide)) rfl (by show fg_nm y_Code_lookAtArithmetic 1; decide +kernel) u_967 u_969 u_4 u_182 u_970 ⟨Nat.le_of_ble_eq_true rfl, Nat.le_of_ble_eq_true rfl⟩ hX (fk_Pl (fk_Pp hq35 hP)) (hK.sub (tys' := []) [] rfl) (fk_Dl (fk_Dp hq35 hD)) (hz.at hq35 hD hS hA) rfl rfl rfl rfl hl.1 (Nat.le_of_ble_eq_true rfl) d_Code_look_210 ⟨(Nat.le_of_ble_eq_true rfl), (Nat.le_of_ble_eq_true rfl)⟩) hq35 (fun (u : Int32 × Int32 × Int32 × Int32 × Int32) => fk_mp ([[(hs, .inl (cs, 2000, .inr (.inl f)))], [(h0, .inr (2, [.ref hs, .ref hi, .ref hm, .int (nI n), .int cf1, .int (fd_op w), .int (fd_to w), .int (fd_from w), .int (fd_off w), .int (fd_field w), .int u.2.2.2.1, .int (fd_by (fd_op w)), .int u.1, .int u.2.1, .int u.2.2.2.2, .int u.2.2.1]))]] : List va_W) ([[(hs, .inl (cs, 2000, .inr (.inl f)))]] : List va_W) ([[(h0, .inr (2, [.ref hs, .ref hi, .ref hm, .int (nI n), .int cf1, .int (fd_op w), .int (fd_to w), .int (fd_from w), .int (fd_off w), .int (fd_field w), .int u.2.2.2.1, .int (fd_by (fd_op w)), .int u.1, .int u.2.1, .int u.2.2.2.2, .int u.2.2.1]))]] : List va_W) [0] [1] rfl rfl rfl) hP hD hK hS hA (fun  u H locs hw210_36 hP hD hK hS => ?_)
            obtain ⟨v1_210_37, v2_210_38, v3_210_39, v4_210_40, v5_210_41⟩ := u
            try dsimp only at hw210_36
            have hP : va_P D classes [(hs, .inl (cs, 2000, .inr (.inl f))), (h0, .inr (2, [.ref hs, .ref hi, .ref hm, .int (nI n), .int cf1, .int (fd_op w), .int (fd_to w), .int (fd_from w), .int (fd_off w), .int (fd_field w), .int v4_210_40, .int (fd_by (fd_op w)), .int v1_210_37, .int v2_210_38, .int v5_210_41, .int v3_210_39]))] H := hP
            have hD : va_D A [(hs, .inl (cs, 2000, .inr (.inl f))), (h0, .inr (2, [.ref hs, .ref hi, .ref hm, .int (nI n), .int cf1, .int (fd_op w), .int (fd_to w), .int (fd_from w), .int (fd_off w), .int (fd_field w), .int v4_210_40, .int (fd_by (fd_op w)), .int v1_210_37, .int v2_210_38, .int v5_210_41, .int v3_210_39]))] := hD
            have hK : va_K D classes [(cs, .long)] s := hK
            refine W.widen (k := 0) (n := 0) (Nat.le_of_ble_eq_true rfl) (Nat.le_of_ble_eq_true rfl) ?_
            obtain ⟨hw210_36_0, hw210_36_1, hw210_36_2, hw210_36_3, hw210_36_4⟩ := hw210_36
            subst hw210_36_0
            subst hw210_36_1
            subst hw210_36_2
            subst hw210_36_3
            subst hw210_36_4
            have hP : va_P D classes [(hs, .inl (cs, 2000, .inr (.inl f))), (h0, .inr (2, [.ref hs, .ref hi, .ref hm, .int (nI n), .int cf1, .int (fd_op w), .int (fd_to w), .int (fd_from w), .int (fd_off w), .int (fd_field w), .int (fd_afam (fd_op w) (fd_mem (fd_op w))), .int (fd_by (fd_op w)), .int (fd_ao (fd_op w)), .int (fd_an (fd_op w) 0 0), .int (fd_art (fd_op w) v111_3), .int (fd_af (fd_op w) v144_4)]))] H := hP
            have hD : va_D A [(hs, .inl (cs, 2000, .inr (.inl f))), (h0, .inr (2, [.ref hs, .ref hi, .ref hm, .int (nI n), .int cf1, .int (fd_op w), .int (fd_to w), .int (fd_from w), .int (fd_off w), .int (fd_field w), .int (fd_afam (fd_op w) (fd_mem (fd_op w))), .int (fd_by (fd_op w)), .int (fd_ao (fd_op w)), .int (fd_an (fd_op w) 0 0), .int (fd_art (fd_op w) v111_3), .int (fd_af (fd_op w) v144_4)]))] := hD
            refine lv_goto (tgt := 245) hx hb d_Code_look_213 (by decide) ?_
            have eg : fd_grp (fd_op w) = 1 := (by unfold fd_grp; (repeat rw [if_neg c_6]); (repeat rw [if_pos c_15]); first | done | rfl | contradiction)
            have e4 : fd_b4 (fd_op w) = 0 := (by unfold fd_b4; (repeat rw [if_neg c_6]); (repeat rw [if_pos c_15]); first | done | rfl | contradiction)
            have t1 : (fd_afam (fd_op w) (fd_mem (fd_op w))) = fd_fam (fd_op w) := (by unfold fd_fam; rw [if_pos eg])
            have t2 : (fd_ao (fd_op w)) = fd_opn (fd_op w) := (by unfold fd_opn; rw [if_pos eg])
            have t3 : (fd_an (fd_op w) 0 0) = fd_nar (fd_op w) := (by unfold fd_nar; rw [if_pos eg]; try rw [e4])
            have t4 : (fd_art (fd_op w) v111_3) = fd_rt (fd_op w) := (by unfold fd_rt; rw [if_pos eg]; try rw [hv111_3])
            have t5 : (fd_af (fd_op w) v144_4) = fd_rf (fd_op w) := (by unfold fd_rf; rw [if_pos eg]; try rw [hv144_4])
            exact fg_retv ((fd_afam (fd_op w) (fd_mem (fd_op w))), (fd_ao (fd_op w)), (fd_an (fd_op w) 0 0), (fd_art (fd_op w) v111_3), (fd_af (fd_op w) v144_4)) hx hb hr hlocks ⟨t1, t2, t3, t4, t5⟩ (hP.sub (ws' := [(h0, .inr (2, [.ref hs, .ref hi, .ref hm, .int (nI n), .int cf1, .int (fd_op w), .int (fd_to w), .int (fd_from w), .int (fd_off w), .int (fd_field w), .int (fd_afam (fd_op w) (fd_mem (fd_op w))), .int (fd_by (fd_op w)), .int (fd_ao (fd_op w)), .int (fd_an (fd_op w) 0 0), .int (fd_art (fd_op w) v111_3), .int (fd_af (fd_op w) v144_4)])), (hs, .inl (cs, 2000, .inr (.inl f)))]) [1, 0] rfl) (hK.sub (tys' := []) [] rfl) (hD.sub (ws' := [(h0, .inr (2, [.ref hs, .ref hi, .ref hm, .int (nI n), .int cf1, .int (fd_op w), .int (fd_to w), .int (fd_from w), .int (fd_off w), .int (fd_field w), .int (fd_afam (fd_op w) (fd_mem (fd_op w))), .int (fd_by (fd_op w)), .int (fd_ao (fd_op w)), .int (fd_an (fd_op w) 0 0), .int (fd_art (fd_op w) v111_3), .int (fd_af (fd_op w) v144_4)])), (hs, .inl (cs, 2000, .inr (.inl f)))]) [1, 0] (by decide) rfl) hS (Nat.le_of_ble_eq_true rfl) (Nat.le_of_ble_eq_true rfl) d_Code_look_245
      refine lv_aload_n hx hb d_Code_look_144 rfl (lv_at hl 1 rfl) ?_
      refine va_get (D := D) (ci := 2) (v := .int (fd_mem (fd_op w))) (C := "FilterGuard$Code") (T := F_Code) (N := 16) hx hb hts i_Code hown hK hP 1 rfl rfl 10 (by decide) (hts _ u_252) (fun _ h9 => h9) rfl d_Code_look_145 ?_
      refine lv_iconst (v := 2) hx hb d_Code_look_148 (by decide) ?_
      refine lv_icmp_eq (tgt := 168) hx hb d_Code_look_149 (by decide) (fun c_43 => ?_) (fun c_43 => ?_)
      · refine lv_iconst (v := 1) hx hb d_Code_look_168 (by decide) ?_
        refine lv_goto (tgt := 173) hx hb d_Code_look_169 (by decide) ?_
        exact j144_4 1 (by unfold fd_rf0; (repeat rw [if_pos c_43]); first | done | rfl | contradiction) (Or.inl rfl)
      · refine lv_aload_n hx hb d_Code_look_152 rfl (lv_at hl 1 rfl) ?_
        refine va_get (D := D) (ci := 2) (v := .int (fd_mem (fd_op w))) (C := "FilterGuard$Code") (T := F_Code) (N := 16) hx hb hts i_Code hown hK hP 1 rfl rfl 10 (by decide) (hts _ u_252) (fun _ h9 => h9) rfl d_Code_look_153 ?_
        refine lv_iconst (v := 3) hx hb d_Code_look_156 (by decide) ?_
        refine lv_icmp_eq (tgt := 168) hx hb d_Code_look_157 (by decide) (fun c_44 => ?_) (fun c_44 => ?_)
        · refine lv_iconst (v := 1) hx hb d_Code_look_168 (by decide) ?_
          refine lv_goto (tgt := 173) hx hb d_Code_look_169 (by decide) ?_
          exact j144_4 1 (by unfold fd_rf0; (repeat rw [if_neg c_43]); (repeat rw [if_pos c_44]); first | done | rfl | contradiction) (Or.inl rfl)
        · refine lv_aload_n hx hb d_Code_look_160 rfl (lv_at hl 1 rfl) ?_
          refine va_get (D := D) (ci := 2) (v := .int (fd_mem (fd_op w))) (C := "FilterGuard$Code") (T := F_Code) (N := 16) hx hb hts i_Code hown hK hP 1 rfl rfl 10 (by decide) (hts _ u_252) (fun _ h9 => h9) rfl d_Code_look_161 ?_
          refine lv_iconst (v := 5) hx hb d_Code_look_164 (by decide) ?_
          refine lv_icmp_ne (tgt := 172) hx hb d_Code_look_165 (by decide) (fun c_45 => ?_) (fun c_45 => ?_)
          · refine lv_iconst (v := 0) hx hb d_Code_look_172 (by decide) ?_
            exact j144_4 0 (by unfold fd_rf0; (repeat rw [if_neg c_43]); (repeat rw [if_neg c_44]); (repeat rw [if_neg c_45]); first | done | rfl | contradiction) (Or.inr rfl)
          · refine lv_iconst (v := 1) hx hb d_Code_look_168 (by decide) ?_
            refine lv_goto (tgt := 173) hx hb d_Code_look_169 (by decide) ?_
            exact j144_4 1 (by unfold fd_rf0; (repeat rw [if_neg c_43]); (repeat rw [if_neg c_44]); (repeat rw [if_pos c_45]); first | done | rfl | contradiction) (Or.inl rfl)
    refine lv_aload_n hx hb d_Code_look_111 rfl (lv_at hl 1 rfl) ?_
    refine va_get (D := D) (ci := 2) (v := .int (fd_mem (fd_op w))) (C := "FilterGuard$Code") (T := F_Code) (N := 16) hx hb hts i_Code hown hK hP 1 rfl rfl 10 (by decide) (hts _ u_252) (fun _ h9 => h9) rfl d_Code_look_112 ?_
    refine lv_iconst (v := 3) hx hb d_Code_look_115 (by decide) ?_
    refine lv_icmp_eq (tgt := 135) hx hb d_Code_look_116 (by decide) (fun c_46 => ?_) (fun c_46 => ?_)
    · refine lv_iconst (v := 1) hx hb d_Code_look_135 (by decide) ?_
      refine lv_goto (tgt := 140) hx hb d_Code_look_136 (by decide) ?_
      exact j111_3 1 (by unfold fd_rt0; (repeat rw [if_pos c_46]); first | done | rfl | contradiction) (Or.inl rfl)
    · refine lv_aload_n hx hb d_Code_look_119 rfl (lv_at hl 1 rfl) ?_
      refine va_get (D := D) (ci := 2) (v := .int (fd_mem (fd_op w))) (C := "FilterGuard$Code") (T := F_Code) (N := 16) hx hb hts i_Code hown hK hP 1 rfl rfl 10 (by decide) (hts _ u_252) (fun _ h9 => h9) rfl d_Code_look_120 ?_
      refine lv_iconst (v := 4) hx hb d_Code_look_123 (by decide) ?_
      refine lv_icmp_eq (tgt := 135) hx hb d_Code_look_124 (by decide) (fun c_47 => ?_) (fun c_47 => ?_)
      · refine lv_iconst (v := 1) hx hb d_Code_look_135 (by decide) ?_
        refine lv_goto (tgt := 140) hx hb d_Code_look_136 (by decide) ?_
        exact j111_3 1 (by unfold fd_rt0; (repeat rw [if_neg c_46]); (repeat rw [if_pos c_47]); first | done | rfl | contradiction) (Or.inl rfl)
      · refine lv_aload_n hx hb d_Code_look_127 rfl (lv_at hl 1 rfl) ?_
        refine va_get (D := D) (ci := 2) (v := .int (fd_mem (fd_op w))) (C := "FilterGuard$Code") (T := F_Code) (N := 16) hx hb hts i_Code hown hK hP 1 rfl rfl 10 (by decide) (hts _ u_252) (fun _ h9 => h9) rfl d_Code_look_128 ?_
        refine lv_iconst (v := 5) hx hb d_Code_look_131 (by decide) ?_
        refine lv_icmp_ne (tgt := 139) hx hb d_Code_look_132 (by decide) (fun c_48 => ?_) (fun c_48 => ?_)
        · refine lv_iconst (v := 0) hx hb d_Code_look_139 (by decide) ?_
          exact j111_3 0 (by unfold fd_rt0; (repeat rw [if_neg c_46]); (repeat rw [if_neg c_47]); (repeat rw [if_neg c_48]); first | done | rfl | contradiction) (Or.inr rfl)
        · refine lv_iconst (v := 1) hx hb d_Code_look_135 (by decide) ?_
          refine lv_goto (tgt := 140) hx hb d_Code_look_136 (by decide) ?_
          exact j111_3 1 (by unfold fd_rt0; (repeat rw [if_neg c_46]); (repeat rw [if_neg c_47]); (repeat rw [if_pos c_48]); first | done | rfl | contradiction) (Or.inl rfl)
  refine lv_iload_n hx hb d_Code_look_0 rfl (lv_at hl 1 rfl) ?_
  refine lv_if_lt (tgt := 21) hx hb d_Code_look_1 (by decide) (fun c_49 => ?_) (fun c_49 => ?_)
  · refine lv_lconst (v := 0) hx hb d_Code_look_21 (by decide) ?_
    exact j0_0 0 (by rw [← hw]; unfold fd_word; (repeat rw [if_pos c_49]); first | done | rfl | contradiction)
  · refine lv_iload_n hx hb d_Code_look_4 rfl (lv_at hl 1 rfl) ?_
    refine lv_aload_n hx hb d_Code_look_5 rfl (lv_at hl 0 rfl) ?_
    refine va_get (D := D) (ci := 2) (v := .int (nI n)) (C := "FilterGuard$Code") (T := F_Code) (N := 16) hx hb hts i_Code hown hK hP 0 rfl rfl 3 (by decide) (hts _ u_226) (fun _ h9 => h9) rfl d_Code_look_6 ?_
    refine lv_icmp_ge (tgt := 21) hx hb d_Code_look_9 (by decide) (fun c_50 => ?_) (fun c_50 => ?_)
    · refine lv_lconst (v := 0) hx hb d_Code_look_21 (by decide) ?_
      exact j0_0 0 (by rw [← hw]; unfold fd_word; (repeat rw [if_neg c_49]); (repeat rw [if_pos c_50]); first | done | rfl | contradiction)
    · refine lv_aload_n hx hb d_Code_look_12 rfl (lv_at hl 0 rfl) ?_
      refine va_get (D := D) (ci := 2) (v := .ref hs) (C := "FilterGuard$Code") (T := F_Code) (N := 16) hx hb hts i_Code hown hK hP 0 rfl rfl 0 (by decide) (hts _ u_220) (fun _ h9 => h9) rfl d_Code_look_13 ?_
      refine lv_iload_n hx hb d_Code_look_16 rfl (lv_at hl 1 rfl) ?_
      refine va_lald hx hb hK hP 1 0 rfl rfl (fd_in c_49 c_50 hn (by decide)) d_Code_look_17 ?_
      refine lv_goto (tgt := 22) hx hb d_Code_look_18 (by decide) ?_
      exact j0_0 (f x1.toNatClampNeg) (by rw [← hw]; unfold fd_word; (repeat rw [if_neg c_49]); (repeat rw [if_neg c_50]); first | done | rfl | contradiction)
