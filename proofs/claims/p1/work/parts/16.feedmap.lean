abbrev y_G_write : MethodName := ⟨"FilterGuard", "write", "(I)V"⟩
theorem d_G_write_0 : decode prog_1_method_3_code 0 = .ok (.bipush 24, 2) := by decide +kernel
theorem d_G_write_2 : decode prog_1_method_3_code 2 = .ok (.istore_n 2, 1) := by decide +kernel
theorem d_G_write_3 : decode prog_1_method_3_code 3 = .ok (.iload_n 2, 1) := by decide +kernel
theorem d_G_write_4 : decode prog_1_method_3_code 4 = .ok (.ifCond .lt 32, 3) := by decide +kernel
theorem d_G_write_7 : decode prog_1_method_3_code 7 = .ok (.aload_n 0, 1) := by decide +kernel
theorem d_G_write_8 : decode prog_1_method_3_code 8 = .ok (.getfield 9, 3) := by decide +kernel
theorem d_G_write_11 : decode prog_1_method_3_code 11 = .ok (.aload_n 0, 1) := by decide +kernel
theorem d_G_write_12 : decode prog_1_method_3_code 12 = .ok (.getfield 58, 3) := by decide +kernel
theorem d_G_write_15 : decode prog_1_method_3_code 15 = .ok (.iload_n 1, 1) := by decide +kernel
theorem d_G_write_16 : decode prog_1_method_3_code 16 = .ok (.iload_n 2, 1) := by decide +kernel
theorem d_G_write_17 : decode prog_1_method_3_code 17 = .ok (.iushr, 1) := by decide +kernel
theorem d_G_write_18 : decode prog_1_method_3_code 18 = .ok (.i2b, 1) := by decide +kernel
theorem d_G_write_19 : decode prog_1_method_3_code 19 = .ok (.bastore, 1) := by decide +kernel
theorem d_G_write_20 : decode prog_1_method_3_code 20 = .ok (.aload_n 0, 1) := by decide +kernel
theorem d_G_write_21 : decode prog_1_method_3_code 21 = .ok (.dup, 1) := by decide +kernel
theorem d_G_write_22 : decode prog_1_method_3_code 22 = .ok (.getfield 58, 3) := by decide +kernel
theorem d_G_write_25 : decode prog_1_method_3_code 25 = .ok (.iconst 1, 1) := by decide +kernel
theorem d_G_write_26 : decode prog_1_method_3_code 26 = .ok (.iadd, 1) := by decide +kernel
theorem d_G_write_27 : decode prog_1_method_3_code 27 = .ok (.putfield 58, 3) := by decide +kernel
theorem d_G_write_30 : decode prog_1_method_3_code 30 = .ok (.iinc 2 (-8), 3) := by decide +kernel
theorem d_G_write_33 : decode prog_1_method_3_code 33 = .ok (.goto (-30), 3) := by decide +kernel
theorem d_G_write_36 : decode prog_1_method_3_code 36 = .ok (.return_, 1) := by decide +kernel
def rm_G_write : Room := { frames := 1, cells := 0, slots := 0, locals := 20 }
abbrev q_G_write (D : va_G) (h0 : Nat) (qt : Nat) (qs : Nat) (qc : Nat) (qh : Nat) (qf : Nat) (qe : Nat) (qm : Nat) (kt : ClassId) (n : Nat) (ft : (Nat → Int32)) (t : Nat) (x1 : Int32) (A : Nat → Prop) : Array Value → Jvm.State → Outcome → Jvm.State → Prop := va_Qv (fun (f1 : (Nat → Int32)) => True) (fg_B D A (fun (f1 : (Nat → Int32)) => [(h0, .inr (0, [.ref qt, .int (nI (t + 4)), .ref qs, .int 0, .ref qc, .ref qh, .ref qf, .ref qe, .ref qm, .int 0, .int (-1), .int 0, .int 0, .int 0])), (qt, .inl (kt, n, .inl f1))]) (fun (f1 : (Nat → Int32)) => [])) A
set_option maxHeartbeats 4000000 in
set_option maxRecDepth 100000 in
theorem c_G_write (l : Launch) (D : va_G) (h0 : Nat) (qt : Nat) (qs : Nat) (qc : Nat) (qh : Nat) (qf : Nat) (qe : Nat) (qm : Nat) (kt : ClassId) (n : Nat) (ft : (Nat → Int32)) (t : Nat) (x1 : Int32) (sz : Nat) (ht : t + 4 ≤ n) (hn : n < 2 ^ 31) : Met l y_G_write (fg_w y_G_write prog_1_method_3_code 3 none) rm_G_write (va_Pc [.ref h0, .int x1] (fg_P D [(kt, .byte)] [(h0, .inr (0, [.ref qt, .int (nI t), .ref qs, .int 0, .ref qc, .ref qh, .ref qf, .ref qe, .ref qm, .int 0, .int (-1), .int 0, .int 0, .int 0])), (qt, .inl (kt, n, .inl ft))] sz)) (q_G_write D h0 qt qs qc qh qf qe qm kt n ft t x1 (va_A [(h0, .inr (0, [.ref qt, .int (nI t), .ref qs, .int 0, .ref qc, .ref qh, .ref qf, .ref qe, .ref qm, .int 0, .int (-1), .int 0, .int 0, .int 0])), (qt, .inl (kt, n, .inl ft))] sz)) rm_G_write.cells rm_G_write.slots (va_A [(h0, .inr (0, [.ref qt, .int (nI t), .ref qs, .int 0, .ref qc, .ref qh, .ref qf, .ref qe, .ref qm, .int 0, .int (-1), .int 0, .int 0, .int 0])), (qt, .inl (kt, n, .inl ft))] sz) := by
  refine fg_enter (fun A => q_G_write D h0 qt qs qc qh qf qe qm kt n ft t x1 A) (by decide +kernel) (Nat.le_of_ble_eq_true rfl) ?_
  intro p e s m below meth c ls A hx hb hml hown hts hr hlocks hin hP hK hD hS hA hX hl
  have hl : lv_has ls 3 [(0, .ref h0), (1, .int x1)] := hl
  refine lv_bipush (v := 24) hx hb d_G_write_0 (by decide) ?_
  refine lv_istore_n (lv' := [(2, .int 24), (0, .ref h0), (1, .int x1)]) hx hb d_G_write_2 rfl hl (by decide) rfl (fun ls hl => ?_)
  refine lv_iload_n hx hb d_G_write_3 rfl (lv_at hl 0 rfl) ?_
  refine lv_if_lt (tgt := 36) hx hb d_G_write_4 (by decide) (fun c_1 => absurd c_1 (by decide)) (fun c_1 => ?_)
  refine lv_aload_n hx hb d_G_write_7 rfl (lv_at hl 1 rfl) ?_
  refine va_get (D := D) (ci := 0) (v := .ref qt) (C := "FilterGuard") (T := F_G) (N := 14) hx hb hts i_G hown hK hP 0 rfl rfl 0 (by decide) (hts _ u_693) (fun _ h9 => h9) rfl d_G_write_8 ?_
  refine lv_aload_n hx hb d_G_write_11 rfl (lv_at hl 1 rfl) ?_
  refine va_get (D := D) (ci := 0) (v := .int (nI t)) (C := "FilterGuard") (T := F_G) (N := 14) hx hb hts i_G hown hK hP 0 rfl rfl 1 (by decide) (hts _ u_694) (fun _ h9 => h9) rfl d_G_write_12 ?_
  refine lv_iload_n hx hb d_G_write_15 rfl (lv_at hl 2 rfl) ?_
  refine lv_iload_n hx hb d_G_write_16 rfl (lv_at hl 0 rfl) ?_
  refine lv_iushr (v := (x1.toUInt32 >>> ((24 : Int32).toUInt32 &&& Int32.toUInt32 31)).toInt32) hx hb d_G_write_17 rfl ?_
  refine lv_i2b (v := ((x1.toUInt32 >>> ((24 : Int32).toUInt32 &&& Int32.toUInt32 31)).toInt32).toInt8.toInt32) hx hb d_G_write_18 rfl ?_
  refine va_bast hx hb hK hP hD hS 1 0 rfl rfl (vp_in_nI (by omega) hn) d_G_write_19 (fun H locs hP hD hS => ?_)
  have hP : va_P D classes [(h0, .inr (0, [.ref qt, .int (nI t), .ref qs, .int 0, .ref qc, .ref qh, .ref qf, .ref qe, .ref qm, .int 0, .int (-1), .int 0, .int 0, .int 0])), (qt, .inl (kt, n, .inl (upd ft ((nI t).toNatClampNeg) (vp_nar .byte (((x1.toUInt32 >>> ((24 : Int32).toUInt32 &&& Int32.toUInt32 31)).toInt32).toInt8.toInt32)))))] H := hP
  have hD : va_D A [(h0, .inr (0, [.ref qt, .int (nI t), .ref qs, .int 0, .ref qc, .ref qh, .ref qf, .ref qe, .ref qm, .int 0, .int (-1), .int 0, .int 0, .int 0])), (qt, .inl (kt, n, .inl (upd ft ((nI t).toNatClampNeg) (vp_nar .byte (((x1.toUInt32 >>> ((24 : Int32).toUInt32 &&& Int32.toUInt32 31)).toInt32).toInt8.toInt32)))))] := hD
  obtain ⟨f_2, ef_2⟩ : ∃ g : Nat → Int32, g = upd ft ((nI t).toNatClampNeg) (vp_nar .byte (((x1.toUInt32 >>> ((24 : Int32).toUInt32 &&& Int32.toUInt32 31)).toInt32).toInt8.toInt32)) := ⟨_, rfl⟩
  rw [← ef_2] at hP hD
  refine lv_aload_n hx hb d_G_write_20 rfl (lv_at hl 1 rfl) ?_
  refine lv_dup hx hb d_G_write_21 rfl ?_
  refine va_get (D := D) (ci := 0) (v := .int (nI t)) (C := "FilterGuard") (T := F_G) (N := 14) hx hb hts i_G hown hK hP 0 rfl rfl 1 (by decide) (hts _ u_694) (fun _ h9 => h9) rfl d_G_write_22 ?_
  refine lv_iconst (v := 1) hx hb d_G_write_25 (by decide) ?_
  refine lv_iadd hx hb d_G_write_26 ?_
  refine fg_topi (y := nI (t + 1)) (nI_1 _) ?_
  refine va_put (D := D) (ci := 0) (v := .int (nI (t + 1))) (ty := .int) (C := "FilterGuard") (T := F_G) (N := 14) hx hb hts i_G t_G t_G_ok n_G hown hK hP hD hS 0 rfl rfl 1 (by decide) (hts _ u_694) (fun _ h9 => h9) rfl (by decide +kernel) rfl rfl (Nat.le_of_ble_eq_true rfl) d_G_write_27 (fun H locs hP hD hS => ?_)
  have hP : va_P D classes [(h0, .inr (0, [.ref qt, .int (nI (t + 1)), .ref qs, .int 0, .ref qc, .ref qh, .ref qf, .ref qe, .ref qm, .int 0, .int (-1), .int 0, .int 0, .int 0])), (qt, .inl (kt, n, .inl f_2))] H := hP
  have hD : va_D A [(h0, .inr (0, [.ref qt, .int (nI (t + 1)), .ref qs, .int 0, .ref qc, .ref qh, .ref qf, .ref qe, .ref qm, .int 0, .int (-1), .int 0, .int 0, .int 0])), (qt, .inl (kt, n, .inl f_2))] := hD
  refine lv_iinc (v := 16) (lv' := [(2, .int 16), (0, .ref h0), (1, .int x1)]) hx hb d_G_write_30 hl (k := 0) rfl (by decide) (by decide) rfl (fun ls hl => ?_)
  refine lv_goto (tgt := 3) hx hb d_G_write_33 (by decide) ?_
  refine lv_iload_n hx hb d_G_write_3 rfl (lv_at hl 0 rfl) ?_
  refine lv_if_lt (tgt := 36) hx hb d_G_write_4 (by decide) (fun c_3 => absurd c_3 (by decide)) (fun c_3 => ?_)
  refine lv_aload_n hx hb d_G_write_7 rfl (lv_at hl 1 rfl) ?_
  refine va_get (D := D) (ci := 0) (v := .ref qt) (C := "FilterGuard") (T := F_G) (N := 14) hx hb hts i_G hown hK hP 0 rfl rfl 0 (by decide) (hts _ u_693) (fun _ h9 => h9) rfl d_G_write_8 ?_
  refine lv_aload_n hx hb d_G_write_11 rfl (lv_at hl 1 rfl) ?_
  refine va_get (D := D) (ci := 0) (v := .int (nI (t + 1))) (C := "FilterGuard") (T := F_G) (N := 14) hx hb hts i_G hown hK hP 0 rfl rfl 1 (by decide) (hts _ u_694) (fun _ h9 => h9) rfl d_G_write_12 ?_
  refine lv_iload_n hx hb d_G_write_15 rfl (lv_at hl 2 rfl) ?_
  refine lv_iload_n hx hb d_G_write_16 rfl (lv_at hl 0 rfl) ?_
  refine lv_iushr (v := (x1.toUInt32 >>> ((16 : Int32).toUInt32 &&& Int32.toUInt32 31)).toInt32) hx hb d_G_write_17 rfl ?_
  refine lv_i2b (v := ((x1.toUInt32 >>> ((16 : Int32).toUInt32 &&& Int32.toUInt32 31)).toInt32).toInt8.toInt32) hx hb d_G_write_18 rfl ?_
  refine va_bast hx hb hK hP hD hS 1 0 rfl rfl (vp_in_nI (by omega) hn) d_G_write_19 (fun H locs hP hD hS => ?_)
  have hP : va_P D classes [(h0, .inr (0, [.ref qt, .int (nI (t + 1)), .ref qs, .int 0, .ref qc, .ref qh, .ref qf, .ref qe, .ref qm, .int 0, .int (-1), .int 0, .int 0, .int 0])), (qt, .inl (kt, n, .inl (upd f_2 ((nI (t + 1)).toNatClampNeg) (vp_nar .byte (((x1.toUInt32 >>> ((16 : Int32).toUInt32 &&& Int32.toUInt32 31)).toInt32).toInt8.toInt32)))))] H := hP
  have hD : va_D A [(h0, .inr (0, [.ref qt, .int (nI (t + 1)), .ref qs, .int 0, .ref qc, .ref qh, .ref qf, .ref qe, .ref qm, .int 0, .int (-1), .int 0, .int 0, .int 0])), (qt, .inl (kt, n, .inl (upd f_2 ((nI (t + 1)).toNatClampNeg) (vp_nar .byte (((x1.toUInt32 >>> ((16 : Int32).toUInt32 &&& Int32.toUInt32 31)).toInt32).toInt8.toInt32)))))] := hD
  obtain ⟨f_4, ef_4⟩ : ∃ g : Nat → Int32, g = upd f_2 ((nI (t + 1)).toNatClampNeg) (vp_nar .byte (((x1.toUInt32 >>> ((16 : Int32).toUInt32 &&& Int32.toUInt32 31)).toInt32).toInt8.toInt32)) := ⟨_, rfl⟩
  rw [← ef_4] at hP hD
  refine lv_aload_n hx hb d_G_write_20 rfl (lv_at hl 1 rfl) ?_
  refine lv_dup hx hb d_G_write_21 rfl ?_
  refine va_get (D := D) (ci := 0) (v := .int (nI (t + 1))) (C := "FilterGuard") (T := F_G) (N := 14) hx hb hts i_G hown hK hP 0 rfl rfl 1 (by decide) (hts _ u_694) (fun _ h9 => h9) rfl d_G_write_22 ?_
  refine lv_iconst (v := 1) hx hb d_G_write_25 (by decide) ?_
  refine lv_iadd hx hb d_G_write_26 ?_
  refine fg_topi (y := nI (t + 1 + 1)) (nI_1 _) ?_
  refine va_put (D := D) (ci := 0) (v := .int (nI (t + 1 + 1))) (ty := .int) (C := "FilterGuard") (T := F_G) (N := 14) hx hb hts i_G t_G t_G_ok n_G hown hK hP hD hS 0 rfl rfl 1 (by decide) (hts _ u_694) (fun _ h9 => h9) rfl (by decide +kernel) rfl rfl (Nat.le_of_ble_eq_true rfl) d_G_write_27 (fun H locs hP hD hS => ?_)
  have hP : va_P D classes [(h0, .inr (0, [.ref qt, .int (nI (t + 1 + 1)), .ref qs, .int 0, .ref qc, .ref qh, .ref qf, .ref qe, .ref qm, .int 0, .int (-1), .int 0, .int 0, .int 0])), (qt, .inl (kt, n, .inl f_4))] H := hP
  have hD : va_D A [(h0, .inr (0, [.ref qt, .int (nI (t + 1 + 1)), .ref qs, .int 0, .ref qc, .ref qh, .ref qf, .ref qe, .ref qm, .int 0, .int (-1), .int 0, .int 0, .int 0])), (qt, .inl (kt, n, .inl f_4))] := hD
  refine lv_iinc (v := 8) (lv' := [(2, .int 8), (0, .ref h0), (1, .int x1)]) hx hb d_G_write_30 hl (k := 0) rfl (by decide) (by decide) rfl (fun ls hl => ?_)
  refine lv_goto (tgt := 3) hx hb d_G_write_33 (by decide) ?_
  refine lv_iload_n hx hb d_G_write_3 rfl (lv_at hl 0 rfl) ?_
  refine lv_if_lt (tgt := 36) hx hb d_G_write_4 (by decide) (fun c_5 => absurd c_5 (by decide)) (fun c_5 => ?_)
  refine lv_aload_n hx hb d_G_write_7 rfl (lv_at hl 1 rfl) ?_
  refine va_get (D := D) (ci := 0) (v := .ref qt) (C := "FilterGuard") (T := F_G) (N := 14) hx hb hts i_G hown hK hP 0 rfl rfl 0 (by decide) (hts _ u_693) (fun _ h9 => h9) rfl d_G_write_8 ?_
  refine lv_aload_n hx hb d_G_write_11 rfl (lv_at hl 1 rfl) ?_
  refine va_get (D := D) (ci := 0) (v := .int (nI (t + 1 + 1))) (C := "FilterGuard") (T := F_G) (N := 14) hx hb hts i_G hown hK hP 0 rfl rfl 1 (by decide) (hts _ u_694) (fun _ h9 => h9) rfl d_G_write_12 ?_
  refine lv_iload_n hx hb d_G_write_15 rfl (lv_at hl 2 rfl) ?_
  refine lv_iload_n hx hb d_G_write_16 rfl (lv_at hl 0 rfl) ?_
  refine lv_iushr (v := (x1.toUInt32 >>> ((8 : Int32).toUInt32 &&& Int32.toUInt32 31)).toInt32) hx hb d_G_write_17 rfl ?_
  refine lv_i2b (v := ((x1.toUInt32 >>> ((8 : Int32).toUInt32 &&& Int32.toUInt32 31)).toInt32).toInt8.toInt32) hx hb d_G_write_18 rfl ?_
  refine va_bast hx hb hK hP hD hS 1 0 rfl rfl (vp_in_nI (by omega) hn) d_G_write_19 (fun H locs hP hD hS => ?_)
  have hP : va_P D classes [(h0, .inr (0, [.ref qt, .int (nI (t + 1 + 1)), .ref qs, .int 0, .ref qc, .ref qh, .ref qf, .ref qe, .ref qm, .int 0, .int (-1), .int 0, .int 0, .int 0])), (qt, .inl (kt, n, .inl (upd f_4 ((nI (t + 1 + 1)).toNatClampNeg) (vp_nar .byte (((x1.toUInt32 >>> ((8 : Int32).toUInt32 &&& Int32.toUInt32 31)).toInt32).toInt8.toInt32)))))] H := hP
  have hD : va_D A [(h0, .inr (0, [.ref qt, .int (nI (t + 1 + 1)), .ref qs, .int 0, .ref qc, .ref qh, .ref qf, .ref qe, .ref qm, .int 0, .int (-1), .int 0, .int 0, .int 0])), (qt, .inl (kt, n, .inl (upd f_4 ((nI (t + 1 + 1)).toNatClampNeg) (vp_nar .byte (((x1.toUInt32 >>> ((8 : Int32).toUInt32 &&& Int32.toUInt32 31)).toInt32).toInt8.toInt32)))))] := hD
  obtain ⟨f_6, ef_6⟩ : ∃ g : Nat → Int32, g = upd f_4 ((nI (t + 1 + 1)).toNatClampNeg) (vp_nar .byte (((x1.toUInt32 >>> ((8 : Int32).toUInt32 &&& Int32.toUInt32 31)).toInt32).toInt8.toInt32)) := ⟨_, rfl⟩
  rw [← ef_6] at hP hD
  refine lv_aload_n hx hb d_G_write_20 rfl (lv_at hl 1 rfl) ?_
  refine lv_dup hx hb d_G_write_21 rfl ?_
  refine va_get (D := D) (ci := 0) (v := .int (nI (t + 1 + 1))) (C := "FilterGuard") (T := F_G) (N := 14) hx hb hts i_G hown hK hP 0 rfl rfl 1 (by decide) (hts _ u_694) (fun _ h9 => h9) rfl d_G_write_22 ?_
  refine lv_iconst (v := 1) hx hb d_G_write_25 (by decide) ?_
  refine lv_iadd hx hb d_G_write_26 ?_
  refine fg_topi (y := nI (t + 1 + 1 + 1)) (nI_1 _) ?_
  refine va_put (D := D) (ci := 0) (v := .int (nI (t + 1 + 1 + 1))) (ty := .int) (C := "FilterGuard") (T := F_G) (N := 14) hx hb hts i_G t_G t_G_ok n_G hown hK hP hD hS 0 rfl rfl 1 (by decide) (hts _ u_694) (fun _ h9 => h9) rfl (by decide +kernel) rfl rfl (Nat.le_of_ble_eq_true rfl) d_G_write_27 (fun H locs hP hD hS => ?_)
  have hP : va_P D classes [(h0, .inr (0, [.ref qt, .int (nI (t + 1 + 1 + 1)), .ref qs, .int 0, .ref qc, .ref qh, .ref qf, .ref qe, .ref qm, .int 0, .int (-1), .int 0, .int 0, .int 0])), (qt, .inl (kt, n, .inl f_6))] H := hP
  have hD : va_D A [(h0, .inr (0, [.ref qt, .int (nI (t + 1 + 1 + 1)), .ref qs, .int 0, .ref qc, .ref qh, .ref qf, .ref qe, .ref qm, .int 0, .int (-1), .int 0, .int 0, .int 0])), (qt, .inl (kt, n, .inl f_6))] := hD
  refine lv_iinc (v := 0) (lv' := [(2, .int 0), (0, .ref h0), (1, .int x1)]) hx hb d_G_write_30 hl (k := 0) rfl (by decide) (by decide) rfl (fun ls hl => ?_)
  refine lv_goto (tgt := 3) hx hb d_G_write_33 (by decide) ?_
  refine lv_iload_n hx hb d_G_write_3 rfl (lv_at hl 0 rfl) ?_
  refine lv_if_lt (tgt := 36) hx hb d_G_write_4 (by decide) (fun c_7 => absurd c_7 (by decide)) (fun c_7 => ?_)
  refine lv_aload_n hx hb d_G_write_7 rfl (lv_at hl 1 rfl) ?_
  refine va_get (D := D) (ci := 0) (v := .ref qt) (C := "FilterGuard") (T := F_G) (N := 14) hx hb hts i_G hown hK hP 0 rfl rfl 0 (by decide) (hts _ u_693) (fun _ h9 => h9) rfl d_G_write_8 ?_
  refine lv_aload_n hx hb d_G_write_11 rfl (lv_at hl 1 rfl) ?_
  refine va_get (D := D) (ci := 0) (v := .int (nI (t + 1 + 1 + 1))) (C := "FilterGuard") (T := F_G) (N := 14) hx hb hts i_G hown hK hP 0 rfl rfl 1 (by decide) (hts _ u_694) (fun _ h9 => h9) rfl d_G_write_12 ?_
  refine lv_iload_n hx hb d_G_write_15 rfl (lv_at hl 2 rfl) ?_
  refine lv_iload_n hx hb d_G_write_16 rfl (lv_at hl 0 rfl) ?_
  refine lv_iushr (v := (x1.toUInt32 >>> ((0 : Int32).toUInt32 &&& Int32.toUInt32 31)).toInt32) hx hb d_G_write_17 rfl ?_
  refine lv_i2b (v := ((x1.toUInt32 >>> ((0 : Int32).toUInt32 &&& Int32.toUInt32 31)).toInt32).toInt8.toInt32) hx hb d_G_write_18 rfl ?_
  refine va_bast hx hb hK hP hD hS 1 0 rfl rfl (vp_in_nI (by omega) hn) d_G_write_19 (fun H locs hP hD hS => ?_)
  have hP : va_P D classes [(h0, .inr (0, [.ref qt, .int (nI (t + 1 + 1 + 1)), .ref qs, .int 0, .ref qc, .ref qh, .ref qf, .ref qe, .ref qm, .int 0, .int (-1), .int 0, .int 0, .int 0])), (qt, .inl (kt, n, .inl (upd f_6 ((nI (t + 1 + 1 + 1)).toNatClampNeg) (vp_nar .byte (((x1.toUInt32 >>> ((0 : Int32).toUInt32 &&& Int32.toUInt32 31)).toInt32).toInt8.toInt32)))))] H := hP
  have hD : va_D A [(h0, .inr (0, [.ref qt, .int (nI (t + 1 + 1 + 1)), .ref qs, .int 0, .ref qc, .ref qh, .ref qf, .ref qe, .ref qm, .int 0, .int (-1), .int 0, .int 0, .int 0])), (qt, .inl (kt, n, .inl (upd f_6 ((nI (t + 1 + 1 + 1)).toNatClampNeg) (vp_nar .byte (((x1.toUInt32 >>> ((0 : Int32).toUInt32 &&& Int32.toUInt32 31)).toInt32).toInt8.toInt32)))))] := hD
  obtain ⟨f_8, ef_8⟩ : ∃ g : Nat → Int32, g = upd f_6 ((nI (t + 1 + 1 + 1)).toNatClampNeg) (vp_nar .byte (((x1.toUInt32 >>> ((0 : Int32).toUInt32 &&& Int32.toUInt32 31)).toInt32).toInt8.toInt32)) := ⟨_, rfl⟩
  rw [← ef_8] at hP hD
  refine lv_aload_n hx hb d_G_write_20 rfl (lv_at hl 1 rfl) ?_
  refine lv_dup hx hb d_G_write_21 rfl ?_
  refine va_get (D := D) (ci := 0) (v := .int (nI (t + 1 + 1 + 1))) (C := "FilterGuard") (T := F_G) (N := 14) hx hb hts i_G hown hK hP 0 rfl rfl 1 (by decide) (hts _ u_694) (fun _ h9 => h9) rfl d_G_write_22 ?_
  refine lv_iconst (v := 1) hx hb d_G_write_25 (by decide) ?_
  refine lv_iadd hx hb d_G_write_26 ?_
  refine fg_topi (y := nI (t + 1 + 1 + 1 + 1)) (nI_1 _) ?_
  refine va_put (D := D) (ci := 0) (v := .int (nI (t + 1 + 1 + 1 + 1))) (ty := .int) (C := "FilterGuard") (T := F_G) (N := 14) hx hb hts i_G t_G t_G_ok n_G hown hK hP hD hS 0 rfl rfl 1 (by decide) (hts _ u_694) (fun _ h9 => h9) rfl (by decide +kernel) rfl rfl (Nat.le_of_ble_eq_true rfl) d_G_write_27 (fun H locs hP hD hS => ?_)
  have hP : va_P D classes [(h0, .inr (0, [.ref qt, .int (nI (t + 1 + 1 + 1 + 1)), .ref qs, .int 0, .ref qc, .ref qh, .ref qf, .ref qe, .ref qm, .int 0, .int (-1), .int 0, .int 0, .int 0])), (qt, .inl (kt, n, .inl f_8))] H := hP
  have hD : va_D A [(h0, .inr (0, [.ref qt, .int (nI (t + 1 + 1 + 1 + 1)), .ref qs, .int 0, .ref qc, .ref qh, .ref qf, .ref qe, .ref qm, .int 0, .int (-1), .int 0, .int 0, .int 0])), (qt, .inl (kt, n, .inl f_8))] := hD
  refine lv_iinc (v := (-8)) (lv' := [(2, .int (-8)), (0, .ref h0), (1, .int x1)]) hx hb d_G_write_30 hl (k := 0) rfl (by decide) (by decide) rfl (fun ls hl => ?_)
  refine lv_goto (tgt := 3) hx hb d_G_write_33 (by decide) ?_
  refine lv_iload_n hx hb d_G_write_3 rfl (lv_at hl 0 rfl) ?_
  refine lv_if_lt (tgt := 36) hx hb d_G_write_4 (by decide) (fun c_9 => ?_) (fun c_9 => absurd (by decide) c_9)
  exact fg_retv (f_8) hx hb hr hlocks trivial (hP.sub (ws' := [(h0, .inr (0, [.ref qt, .int (nI (t + 4)), .ref qs, .int 0, .ref qc, .ref qh, .ref qf, .ref qe, .ref qm, .int 0, .int (-1), .int 0, .int 0, .int 0])), (qt, .inl (kt, n, .inl f_8))]) [0, 1] rfl) (hK.sub (tys' := []) [] rfl) (hD.sub (ws' := [(h0, .inr (0, [.ref qt, .int (nI (t + 4)), .ref qs, .int 0, .ref qc, .ref qh, .ref qf, .ref qe, .ref qm, .int 0, .int (-1), .int 0, .int 0, .int 0])), (qt, .inl (kt, n, .inl f_8))]) [0, 1] (by decide) rfl) hS (Nat.le_of_ble_eq_true rfl) (Nat.le_of_ble_eq_true rfl) d_G_write_36
abbrev y_G_feed : MethodName := ⟨"FilterGuard", "feed", "(IIIII)Z"⟩
theorem d_G_feed_0 : decode prog_1_method_2_code 0 = .ok (.aload_n 0, 1) := by decide +kernel
theorem d_G_feed_1 : decode prog_1_method_2_code 1 = .ok (.getfield 58, 3) := by decide +kernel
theorem d_G_feed_4 : decode prog_1_method_2_code 4 = .ok (.bipush 20, 2) := by decide +kernel
theorem d_G_feed_6 : decode prog_1_method_2_code 6 = .ok (.iadd, 1) := by decide +kernel
theorem d_G_feed_7 : decode prog_1_method_2_code 7 = .ok (.ldc 61, 2) := by decide +kernel
theorem u_740 : Cond.constant "FilterGuard" 61 65536 ∈ fg_g := fg_in (List.mem_of_getElem? (i := 740) (by decide +kernel)) rfl
theorem d_G_feed_9 : decode prog_1_method_2_code 9 = .ok (.if_icmp .le 5, 3) := by decide +kernel
theorem d_G_feed_14 : decode prog_1_method_2_code 14 = .ok (.aload_n 0, 1) := by decide +kernel
theorem d_G_feed_15 : decode prog_1_method_2_code 15 = .ok (.getfield 58, 3) := by decide +kernel
theorem d_G_feed_18 : decode prog_1_method_2_code 18 = .ok (.bipush 20, 2) := by decide +kernel
theorem d_G_feed_20 : decode prog_1_method_2_code 20 = .ok (.iadd, 1) := by decide +kernel
theorem d_G_feed_21 : decode prog_1_method_2_code 21 = .ok (.aload_n 0, 1) := by decide +kernel
theorem d_G_feed_22 : decode prog_1_method_2_code 22 = .ok (.getfield 9, 3) := by decide +kernel
theorem d_G_feed_25 : decode prog_1_method_2_code 25 = .ok (.arraylength, 1) := by decide +kernel
theorem d_G_feed_26 : decode prog_1_method_2_code 26 = .ok (.if_icmp .le 26, 3) := by decide +kernel
theorem d_G_feed_52 : decode prog_1_method_2_code 52 = .ok (.aload_n 0, 1) := by decide +kernel
theorem d_G_feed_53 : decode prog_1_method_2_code 53 = .ok (.iload_n 1, 1) := by decide +kernel
theorem d_G_feed_54 : decode prog_1_method_2_code 54 = .ok (.invokevirtual 74, 3) := by decide +kernel
theorem u_758 : Cond.methodLink "FilterGuard" 74 ⟨"FilterGuard", "write", "(I)V"⟩ ∈ fg_g := fg_in (List.mem_of_getElem? (i := 758) (by decide +kernel)) rfl
theorem u_181 : Cond.initialized "FilterGuard" ∈ fg_g := fg_in (List.mem_of_getElem? (i := 181) (by decide +kernel)) rfl
theorem u_761 : Cond.code ⟨"FilterGuard", "write", "(I)V"⟩ prog_1_method_3_code 3 none ∈ fg_g := fg_in (List.mem_of_getElem? (i := 761) (by decide +kernel)) rfl
theorem u_760 : Cond.instanceMethod ⟨"FilterGuard", "write", "(I)V"⟩ ∈ fg_g := fg_in (List.mem_of_getElem? (i := 760) (by decide +kernel)) rfl
theorem u_0 : Cond.selects "FilterGuard" ⟨"FilterGuard", "write", "(I)V"⟩ ⟨"FilterGuard", "write", "(I)V"⟩ ∈ fg_g := fg_in (List.mem_of_getElem? (i := 0) (by decide +kernel)) rfl
theorem d_G_feed_57 : decode prog_1_method_2_code 57 = .ok (.aload_n 0, 1) := by decide +kernel
theorem d_G_feed_58 : decode prog_1_method_2_code 58 = .ok (.iload_n 2, 1) := by decide +kernel
theorem d_G_feed_59 : decode prog_1_method_2_code 59 = .ok (.invokevirtual 74, 3) := by decide +kernel
theorem d_G_feed_62 : decode prog_1_method_2_code 62 = .ok (.aload_n 0, 1) := by decide +kernel
theorem d_G_feed_63 : decode prog_1_method_2_code 63 = .ok (.iload_n 3, 1) := by decide +kernel
theorem d_G_feed_64 : decode prog_1_method_2_code 64 = .ok (.invokevirtual 74, 3) := by decide +kernel
theorem d_G_feed_67 : decode prog_1_method_2_code 67 = .ok (.aload_n 0, 1) := by decide +kernel
theorem d_G_feed_68 : decode prog_1_method_2_code 68 = .ok (.iload 4, 2) := by decide +kernel
theorem d_G_feed_70 : decode prog_1_method_2_code 70 = .ok (.invokevirtual 74, 3) := by decide +kernel
theorem d_G_feed_73 : decode prog_1_method_2_code 73 = .ok (.aload_n 0, 1) := by decide +kernel
theorem d_G_feed_74 : decode prog_1_method_2_code 74 = .ok (.iload 5, 2) := by decide +kernel
theorem d_G_feed_76 : decode prog_1_method_2_code 76 = .ok (.invokevirtual 74, 3) := by decide +kernel
theorem d_G_feed_79 : decode prog_1_method_2_code 79 = .ok (.iconst 1, 1) := by decide +kernel
theorem d_G_feed_80 : decode prog_1_method_2_code 80 = .ok (.ireturn, 1) := by decide +kernel
def rm_G_feed : Room := { frames := 2, cells := 0, slots := 0, locals := 60 }
abbrev q_G_feed (D : va_G) (h0 : Nat) (qt : Nat) (qs : Nat) (qc : Nat) (qh : Nat) (qf : Nat) (qe : Nat) (qm : Nat) (kt : ClassId) (n : Nat) (ft : (Nat → Int32)) (t : Nat) (x1 : Int32) (x2 : Int32) (x3 : Int32) (x4 : Int32) (x5 : Int32) (A : Nat → Prop) : Array Value → Jvm.State → Outcome → Jvm.State → Prop := va_Qi (fun (r : Int32) (f1 : (Nat → Int32)) => r = 1) (fg_B D A (fun (f1 : (Nat → Int32)) => [(h0, .inr (0, [.ref qt, .int (nI (t + 20)), .ref qs, .int 0, .ref qc, .ref qh, .ref qf, .ref qe, .ref qm, .int 0, .int (-1), .int 0, .int 0, .int 0])), (qt, .inl (kt, n, .inl f1))]) (fun (f1 : (Nat → Int32)) => [])) A
set_option maxHeartbeats 4000000 in
set_option maxRecDepth 100000 in
theorem c_G_feed (l : Launch) (D : va_G) (h0 : Nat) (qt : Nat) (qs : Nat) (qc : Nat) (qh : Nat) (qf : Nat) (qe : Nat) (qm : Nat) (kt : ClassId) (n : Nat) (ft : (Nat → Int32)) (t : Nat) (x1 : Int32) (x2 : Int32) (x3 : Int32) (x4 : Int32) (x5 : Int32) (sz : Nat) (ht : t + 20 ≤ n) (hn : n < 2 ^ 31) (hm : t + 20 ≤ 65536) : Met l y_G_feed (fg_w y_G_feed prog_1_method_2_code 6 (some .boolean)) rm_G_feed (va_Pc [.ref h0, .int x1, .int x2, .int x3, .int x4, .int x5] (fg_P D [(kt, .byte)] [(h0, .inr (0, [.ref qt, .int (nI t), .ref qs, .int 0, .ref qc, .ref qh, .ref qf, .ref qe, .ref qm, .int 0, .int (-1), .int 0, .int 0, .int 0])), (qt, .inl (kt, n, .inl ft))] sz)) (q_G_feed D h0 qt qs qc qh qf qe qm kt n ft t x1 x2 x3 x4 x5 (va_A [(h0, .inr (0, [.ref qt, .int (nI t), .ref qs, .int 0, .ref qc, .ref qh, .ref qf, .ref qe, .ref qm, .int 0, .int (-1), .int 0, .int 0, .int 0])), (qt, .inl (kt, n, .inl ft))] sz)) rm_G_feed.cells rm_G_feed.slots (va_A [(h0, .inr (0, [.ref qt, .int (nI t), .ref qs, .int 0, .ref qc, .ref qh, .ref qf, .ref qe, .ref qm, .int 0, .int (-1), .int 0, .int 0, .int 0])), (qt, .inl (kt, n, .inl ft))] sz) := by
  refine fg_enter (fun A => q_G_feed D h0 qt qs qc qh qf qe qm kt n ft t x1 x2 x3 x4 x5 A) (by decide +kernel) (Nat.le_of_ble_eq_true rfl) ?_
  intro p e s m below meth c ls A hx hb hml hown hts hr hlocks hin hP hK hD hS hA hX hl
  have hl : lv_has ls 6 [(0, .ref h0), (1, .int x1), (2, .int x2), (3, .int x3), (4, .int x4), (5, .int x5)] := hl
  refine lv_aload_n hx hb d_G_feed_0 rfl (lv_at hl 0 rfl) ?_
  refine va_get (D := D) (ci := 0) (v := .int (nI t)) (C := "FilterGuard") (T := F_G) (N := 14) hx hb hts i_G hown hK hP 0 rfl rfl 1 (by decide) (hts _ u_694) (fun _ h9 => h9) rfl d_G_feed_1 ?_
  refine lv_bipush (v := 20) hx hb d_G_feed_4 (by decide) ?_
  refine lv_iadd hx hb d_G_feed_6 ?_
  refine fg_topi (y := nI (t + 20)) (nI_add t 20) ?_
  refine lv_ldc hx hb hown (hts _ u_740) d_G_feed_7 ?_
  refine lv_icmp_le (tgt := 14) hx hb d_G_feed_9 (by decide) (fun c_1 => ?_) (fun c_1 => absurd (nI_le (b := 65536) (by omega) (by decide)) c_1)
  refine lv_aload_n hx hb d_G_feed_14 rfl (lv_at hl 0 rfl) ?_
  refine va_get (D := D) (ci := 0) (v := .int (nI t)) (C := "FilterGuard") (T := F_G) (N := 14) hx hb hts i_G hown hK hP 0 rfl rfl 1 (by decide) (hts _ u_694) (fun _ h9 => h9) rfl d_G_feed_15 ?_
  refine lv_bipush (v := 20) hx hb d_G_feed_18 (by decide) ?_
  refine lv_iadd hx hb d_G_feed_20 ?_
  refine fg_topi (y := nI (t + 20)) (nI_add t 20) ?_
  refine lv_aload_n hx hb d_G_feed_21 rfl (lv_at hl 0 rfl) ?_
  refine va_get (D := D) (ci := 0) (v := .ref qt) (C := "FilterGuard") (T := F_G) (N := 14) hx hb hts i_G hown hK hP 0 rfl rfl 0 (by decide) (hts _ u_693) (fun _ h9 => h9) rfl d_G_feed_22 ?_
  refine va_alen (v := nI n) hx hb hK hP 1 0 rfl rfl rfl d_G_feed_25 ?_
  refine lv_icmp_le (tgt := 52) hx hb d_G_feed_26 (by decide) (fun c_2 => ?_) (fun c_2 => absurd (nI_le (by omega) hn) c_2)
  refine lv_aload_n hx hb d_G_feed_52 rfl (lv_at hl 0 rfl) ?_
  refine lv_iload_n hx hb d_G_feed_53 rfl (lv_at hl 1 rfl) ?_
  refine fg_thenv (wr := []) (fg_runV (C := "FilterGuard") (As := [.int x1]) (rest := []) (ci := 0) (q0 := 0) ⟨hx, hb, hml, hown, hts⟩ (c_G_write l D h0 qt qs qc qh qf qe qm kt n ft t x1 s.heap.size (by omega) hn) rfl (by show fg_nm y_G_write 1; decide +kernel) u_758 u_760 u_0 u_181 u_761 ⟨Nat.le_of_ble_eq_true rfl, Nat.le_of_ble_eq_true rfl⟩ hX (hP.sub (ws' := [(h0, .inr (0, [.ref qt, .int (nI t), .ref qs, .int 0, .ref qc, .ref qh, .ref qf, .ref qe, .ref qm, .int 0, .int (-1), .int 0, .int 0, .int 0])), (qt, .inl (kt, n, .inl ft))]) [0, 1] rfl) (hK.sub (tys' := [(kt, .byte)]) [0] rfl) (hD.sub (ws' := [(h0, .inr (0, [.ref qt, .int (nI t), .ref qs, .int 0, .ref qc, .ref qh, .ref qf, .ref qe, .ref qm, .int 0, .int (-1), .int 0, .int 0, .int 0])), (qt, .inl (kt, n, .inl ft))]) [0, 1] (by decide) rfl) rfl rfl rfl rfl hl.1 (Nat.le_of_ble_eq_true rfl) d_G_feed_54 ⟨(Nat.le_of_ble_eq_true rfl), (Nat.le_of_ble_eq_true rfl)⟩) hP hD hK hS hA [0, 1] [] rfl rfl (by decide) (by decide) (fun  u H locs hw54_2 hP hD hK hS => ?_)
  obtain ⟨f1_54_3, rfl⟩ : ∃ z, z = u := ⟨_, rfl⟩
  try dsimp only at hw54_2
  have hP : va_P D classes [(h0, .inr (0, [.ref qt, .int (nI (t + 4)), .ref qs, .int 0, .ref qc, .ref qh, .ref qf, .ref qe, .ref qm, .int 0, .int (-1), .int 0, .int 0, .int 0])), (qt, .inl (kt, n, .inl f1_54_3))] H := hP
  have hD : va_D A [(h0, .inr (0, [.ref qt, .int (nI (t + 4)), .ref qs, .int 0, .ref qc, .ref qh, .ref qf, .ref qe, .ref qm, .int 0, .int (-1), .int 0, .int 0, .int 0])), (qt, .inl (kt, n, .inl f1_54_3))] := hD
  have hK : va_K D classes [(kt, .byte)] s := hK
  refine W.widen (k := 0) (n := 0) (Nat.le_of_ble_eq_true rfl) (Nat.le_of_ble_eq_true rfl) ?_
  refine lv_aload_n hx hb d_G_feed_57 rfl (lv_at hl 0 rfl) ?_
  refine lv_iload_n hx hb d_G_feed_58 rfl (lv_at hl 2 rfl) ?_
  refine fg_thenv (wr := []) (fg_runV (C := "FilterGuard") (As := [.int x2]) (rest := []) (ci := 0) (q0 := 0) ⟨hx, hb, hml, hown, hts⟩ (c_G_write l D h0 qt qs qc qh qf qe qm kt n f1_54_3 (t + 4) x2 H.size (by omega) hn) rfl (by show fg_nm y_G_write 1; decide +kernel) u_758 u_760 u_0 u_181 u_761 ⟨Nat.le_of_ble_eq_true rfl, Nat.le_of_ble_eq_true rfl⟩ hX (hP.sub (ws' := [(h0, .inr (0, [.ref qt, .int (nI (t + 4)), .ref qs, .int 0, .ref qc, .ref qh, .ref qf, .ref qe, .ref qm, .int 0, .int (-1), .int 0, .int 0, .int 0])), (qt, .inl (kt, n, .inl f1_54_3))]) [0, 1] rfl) (hK.sub (tys' := [(kt, .byte)]) [0] rfl) (hD.sub (ws' := [(h0, .inr (0, [.ref qt, .int (nI (t + 4)), .ref qs, .int 0, .ref qc, .ref qh, .ref qf, .ref qe, .ref qm, .int 0, .int (-1), .int 0, .int 0, .int 0])), (qt, .inl (kt, n, .inl f1_54_3))]) [0, 1] (by decide) rfl) rfl rfl rfl rfl hl.1 (Nat.le_of_ble_eq_true rfl) d_G_feed_59 ⟨(Nat.le_of_ble_eq_true rfl), (Nat.le_of_ble_eq_true rfl)⟩) hP hD hK hS hA [0, 1] [] rfl rfl (by decide) (by decide) (fun  u H locs hw59_4 hP hD hK hS => ?_)
  obtain ⟨f1_59_5, rfl⟩ : ∃ z, z = u := ⟨_, rfl⟩
  try dsimp only at hw59_4
  have hP : va_P D classes [(h0, .inr (0, [.ref qt, .int (nI ((t + 4) + 4)), .ref qs, .int 0, .ref qc, .ref qh, .ref qf, .ref qe, .ref qm, .int 0, .int (-1), .int 0, .int 0, .int 0])), (qt, .inl (kt, n, .inl f1_59_5))] H := hP
  have hD : va_D A [(h0, .inr (0, [.ref qt, .int (nI ((t + 4) + 4)), .ref qs, .int 0, .ref qc, .ref qh, .ref qf, .ref qe, .ref qm, .int 0, .int (-1), .int 0, .int 0, .int 0])), (qt, .inl (kt, n, .inl f1_59_5))] := hD
  have hK : va_K D classes [(kt, .byte)] s := hK
  refine W.widen (k := 0) (n := 0) (Nat.le_of_ble_eq_true rfl) (Nat.le_of_ble_eq_true rfl) ?_
  refine lv_aload_n hx hb d_G_feed_62 rfl (lv_at hl 0 rfl) ?_
  refine lv_iload_n hx hb d_G_feed_63 rfl (lv_at hl 3 rfl) ?_
  refine fg_thenv (wr := []) (fg_runV (C := "FilterGuard") (As := [.int x3]) (rest := []) (ci := 0) (q0 := 0) ⟨hx, hb, hml, hown, hts⟩ (c_G_write l D h0 qt qs qc qh qf qe qm kt n f1_59_5 (t + 8) x3 H.size (by omega) hn) rfl (by show fg_nm y_G_write 1; decide +kernel) u_758 u_760 u_0 u_181 u_761 ⟨Nat.le_of_ble_eq_true rfl, Nat.le_of_ble_eq_true rfl⟩ hX (hP.sub (ws' := [(h0, .inr (0, [.ref qt, .int (nI (t + 8)), .ref qs, .int 0, .ref qc, .ref qh, .ref qf, .ref qe, .ref qm, .int 0, .int (-1), .int 0, .int 0, .int 0])), (qt, .inl (kt, n, .inl f1_59_5))]) [0, 1] rfl) (hK.sub (tys' := [(kt, .byte)]) [0] rfl) (hD.sub (ws' := [(h0, .inr (0, [.ref qt, .int (nI (t + 8)), .ref qs, .int 0, .ref qc, .ref qh, .ref qf, .ref qe, .ref qm, .int 0, .int (-1), .int 0, .int 0, .int 0])), (qt, .inl (kt, n, .inl f1_59_5))]) [0, 1] (by decide) rfl) rfl rfl rfl rfl hl.1 (Nat.le_of_ble_eq_true rfl) d_G_feed_64 ⟨(Nat.le_of_ble_eq_true rfl), (Nat.le_of_ble_eq_true rfl)⟩) hP hD hK hS hA [0, 1] [] rfl rfl (by decide) (by decide) (fun  u H locs hw64_6 hP hD hK hS => ?_)
  obtain ⟨f1_64_7, rfl⟩ : ∃ z, z = u := ⟨_, rfl⟩
  try dsimp only at hw64_6
  have hP : va_P D classes [(h0, .inr (0, [.ref qt, .int (nI ((t + 8) + 4)), .ref qs, .int 0, .ref qc, .ref qh, .ref qf, .ref qe, .ref qm, .int 0, .int (-1), .int 0, .int 0, .int 0])), (qt, .inl (kt, n, .inl f1_64_7))] H := hP
  have hD : va_D A [(h0, .inr (0, [.ref qt, .int (nI ((t + 8) + 4)), .ref qs, .int 0, .ref qc, .ref qh, .ref qf, .ref qe, .ref qm, .int 0, .int (-1), .int 0, .int 0, .int 0])), (qt, .inl (kt, n, .inl f1_64_7))] := hD
  have hK : va_K D classes [(kt, .byte)] s := hK
  refine W.widen (k := 0) (n := 0) (Nat.le_of_ble_eq_true rfl) (Nat.le_of_ble_eq_true rfl) ?_
  refine lv_aload_n hx hb d_G_feed_67 rfl (lv_at hl 0 rfl) ?_
  refine lv_iload hx hb d_G_feed_68 (lv_at hl 4 rfl) ?_
  refine fg_thenv (wr := []) (fg_runV (C := "FilterGuard") (As := [.int x4]) (rest := []) (ci := 0) (q0 := 0) ⟨hx, hb, hml, hown, hts⟩ (c_G_write l D h0 qt qs qc qh qf qe qm kt n f1_64_7 (t + 12) x4 H.size (by omega) hn) rfl (by show fg_nm y_G_write 1; decide +kernel) u_758 u_760 u_0 u_181 u_761 ⟨Nat.le_of_ble_eq_true rfl, Nat.le_of_ble_eq_true rfl⟩ hX (hP.sub (ws' := [(h0, .inr (0, [.ref qt, .int (nI (t + 12)), .ref qs, .int 0, .ref qc, .ref qh, .ref qf, .ref qe, .ref qm, .int 0, .int (-1), .int 0, .int 0, .int 0])), (qt, .inl (kt, n, .inl f1_64_7))]) [0, 1] rfl) (hK.sub (tys' := [(kt, .byte)]) [0] rfl) (hD.sub (ws' := [(h0, .inr (0, [.ref qt, .int (nI (t + 12)), .ref qs, .int 0, .ref qc, .ref qh, .ref qf, .ref qe, .ref qm, .int 0, .int (-1), .int 0, .int 0, .int 0])), (qt, .inl (kt, n, .inl f1_64_7))]) [0, 1] (by decide) rfl) rfl rfl rfl rfl hl.1 (Nat.le_of_ble_eq_true rfl) d_G_feed_70 ⟨(Nat.le_of_ble_eq_true rfl), (Nat.le_of_ble_eq_true rfl)⟩) hP hD hK hS hA [0, 1] [] rfl rfl (by decide) (by decide) (fun  u H locs hw70_8 hP hD hK hS => ?_)
  obtain ⟨f1_70_9, rfl⟩ : ∃ z, z = u := ⟨_, rfl⟩
  try dsimp only at hw70_8
  have hP : va_P D classes [(h0, .inr (0, [.ref qt, .int (nI ((t + 12) + 4)), .ref qs, .int 0, .ref qc, .ref qh, .ref qf, .ref qe, .ref qm, .int 0, .int (-1), .int 0, .int 0, .int 0])), (qt, .inl (kt, n, .inl f1_70_9))] H := hP
  have hD : va_D A [(h0, .inr (0, [.ref qt, .int (nI ((t + 12) + 4)), .ref qs, .int 0, .ref qc, .ref qh, .ref qf, .ref qe, .ref qm, .int 0, .int (-1), .int 0, .int 0, .int 0])), (qt, .inl (kt, n, .inl f1_70_9))] := hD
  have hK : va_K D classes [(kt, .byte)] s := hK
  refine W.widen (k := 0) (n := 0) (Nat.le_of_ble_eq_true rfl) (Nat.le_of_ble_eq_true rfl) ?_
  refine lv_aload_n hx hb d_G_feed_73 rfl (lv_at hl 0 rfl) ?_
  refine lv_iload hx hb d_G_feed_74 (lv_at hl 5 rfl) ?_
  refine fg_thenv (wr := []) (fg_runV (C := "FilterGuard") (As := [.int x5]) (rest := []) (ci := 0) (q0 := 0) ⟨hx, hb, hml, hown, hts⟩ (c_G_write l D h0 qt qs qc qh qf qe qm kt n f1_70_9 (t + 16) x5 H.size (by omega) hn) rfl (by show fg_nm y_G_write 1; decide +kernel) u_758 u_760 u_0 u_181 u_761 ⟨Nat.le_of_ble_eq_true rfl, Nat.le_of_ble_eq_true rfl⟩ hX (hP.sub (ws' := [(h0, .inr (0, [.ref qt, .int (nI (t + 16)), .ref qs, .int 0, .ref qc, .ref qh, .ref qf, .ref qe, .ref qm, .int 0, .int (-1), .int 0, .int 0, .int 0])), (qt, .inl (kt, n, .inl f1_70_9))]) [0, 1] rfl) (hK.sub (tys' := [(kt, .byte)]) [0] rfl) (hD.sub (ws' := [(h0, .inr (0, [.ref qt, .int (nI (t + 16)), .ref qs, .int 0, .ref qc, .ref qh, .ref qf, .ref qe, .ref qm, .int 0, .int (-1), .int 0, .int 0, .int 0])), (qt, .inl (kt, n, .inl f1_70_9))]) [0, 1] (by decide) rfl) rfl rfl rfl rfl hl.1 (Nat.le_of_ble_eq_true rfl) d_G_feed_76 ⟨(Nat.le_of_ble_eq_true rfl), (Nat.le_of_ble_eq_true rfl)⟩) hP hD hK hS hA [0, 1] [] rfl rfl (by decide) (by decide) (fun  u H locs hw76_10 hP hD hK hS => ?_)
  obtain ⟨f1_76_11, rfl⟩ : ∃ z, z = u := ⟨_, rfl⟩
  try dsimp only at hw76_10
  have hP : va_P D classes [(h0, .inr (0, [.ref qt, .int (nI ((t + 16) + 4)), .ref qs, .int 0, .ref qc, .ref qh, .ref qf, .ref qe, .ref qm, .int 0, .int (-1), .int 0, .int 0, .int 0])), (qt, .inl (kt, n, .inl f1_76_11))] H := hP
  have hD : va_D A [(h0, .inr (0, [.ref qt, .int (nI ((t + 16) + 4)), .ref qs, .int 0, .ref qc, .ref qh, .ref qf, .ref qe, .ref qm, .int 0, .int (-1), .int 0, .int 0, .int 0])), (qt, .inl (kt, n, .inl f1_76_11))] := hD
  have hK : va_K D classes [(kt, .byte)] s := hK
  refine W.widen (k := 0) (n := 0) (Nat.le_of_ble_eq_true rfl) (Nat.le_of_ble_eq_true rfl) ?_
  refine lv_iconst (v := 1) hx hb d_G_feed_79 (by decide) ?_
  exact fg_retz (f1_76_11) hx hb hr hlocks rfl rfl (hP.sub (ws' := [(h0, .inr (0, [.ref qt, .int (nI (t + 20)), .ref qs, .int 0, .ref qc, .ref qh, .ref qf, .ref qe, .ref qm, .int 0, .int (-1), .int 0, .int 0, .int 0])), (qt, .inl (kt, n, .inl f1_76_11))]) [0, 1] rfl) (hK.sub (tys' := []) [] rfl) (hD.sub (ws' := [(h0, .inr (0, [.ref qt, .int (nI (t + 20)), .ref qs, .int 0, .ref qc, .ref qh, .ref qf, .ref qe, .ref qm, .int 0, .int (-1), .int 0, .int 0, .int 0])), (qt, .inl (kt, n, .inl f1_76_11))]) [0, 1] (by decide) rfl) hS (Nat.le_of_ble_eq_true rfl) (Nat.le_of_ble_eq_true rfl) d_G_feed_80
abbrev y_Store_init : MethodName := ⟨"FilterGuard$Store", "<init>", "(IIII)V"⟩
theorem d_Store_init_0 : decode prog_12_method_1_code 0 = .ok (.aload_n 0, 1) := by decide +kernel
theorem d_Store_init_1 : decode prog_12_method_1_code 1 = .ok (.invokespecial 3, 3) := by decide +kernel
theorem u_899 : Cond.methodLink "FilterGuard$Store" 3 ⟨"java/lang/Object", "<init>", "()V"⟩ ∈ fg_g := fg_in (List.mem_of_getElem? (i := 899) (by decide +kernel)) rfl
theorem d_Store_init_4 : decode prog_12_method_1_code 4 = .ok (.aload_n 0, 1) := by decide +kernel
theorem d_Store_init_5 : decode prog_12_method_1_code 5 = .ok (.iload_n 1, 1) := by decide +kernel
theorem d_Store_init_6 : decode prog_12_method_1_code 6 = .ok (.iconst 1, 1) := by decide +kernel
theorem d_Store_init_7 : decode prog_12_method_1_code 7 = .ok (.if_icmp .ne 7, 3) := by decide +kernel
theorem d_Store_init_14 : decode prog_12_method_1_code 14 = .ok (.iconst 0, 1) := by decide +kernel
theorem d_Store_init_15 : decode prog_12_method_1_code 15 = .ok (.putfield 11, 3) := by decide +kernel
theorem u_900 : Cond.fieldLink "FilterGuard$Store" 11 "FilterGuard$Store" "isTable" "Z" ∈ fg_g := fg_in (List.mem_of_getElem? (i := 900) (by decide +kernel)) rfl
theorem d_Store_init_18 : decode prog_12_method_1_code 18 = .ok (.aload_n 0, 1) := by decide +kernel
theorem d_Store_init_19 : decode prog_12_method_1_code 19 = .ok (.iload_n 2, 1) := by decide +kernel
theorem d_Store_init_20 : decode prog_12_method_1_code 20 = .ok (.putfield 15, 3) := by decide +kernel
theorem u_901 : Cond.fieldLink "FilterGuard$Store" 15 "FilterGuard$Store" "keyBytes" "I" ∈ fg_g := fg_in (List.mem_of_getElem? (i := 901) (by decide +kernel)) rfl
theorem d_Store_init_23 : decode prog_12_method_1_code 23 = .ok (.aload_n 0, 1) := by decide +kernel
theorem d_Store_init_24 : decode prog_12_method_1_code 24 = .ok (.iload_n 3, 1) := by decide +kernel
theorem d_Store_init_25 : decode prog_12_method_1_code 25 = .ok (.putfield 19, 3) := by decide +kernel
theorem u_906 : Cond.fieldLink "FilterGuard$Store" 19 "FilterGuard$Store" "valueBytes" "I" ∈ fg_g := fg_in (List.mem_of_getElem? (i := 906) (by decide +kernel)) rfl
theorem d_Store_init_28 : decode prog_12_method_1_code 28 = .ok (.aload_n 0, 1) := by decide +kernel
theorem d_Store_init_29 : decode prog_12_method_1_code 29 = .ok (.iload 4, 2) := by decide +kernel
theorem d_Store_init_31 : decode prog_12_method_1_code 31 = .ok (.putfield 22, 3) := by decide +kernel
theorem u_911 : Cond.fieldLink "FilterGuard$Store" 22 "FilterGuard$Store" "entries" "I" ∈ fg_g := fg_in (List.mem_of_getElem? (i := 911) (by decide +kernel)) rfl
theorem d_Store_init_34 : decode prog_12_method_1_code 34 = .ok (.aload_n 0, 1) := by decide +kernel
theorem d_Store_init_35 : decode prog_12_method_1_code 35 = .ok (.aload_n 0, 1) := by decide +kernel
theorem d_Store_init_36 : decode prog_12_method_1_code 36 = .ok (.getfield 11, 3) := by decide +kernel
theorem d_Store_init_39 : decode prog_12_method_1_code 39 = .ok (.ifCond .eq 10, 3) := by decide +kernel
theorem d_Store_init_49 : decode prog_12_method_1_code 49 = .ok (.iconst 0, 1) := by decide +kernel
theorem d_Store_init_50 : decode prog_12_method_1_code 50 = .ok (.newarray .byte, 2) := by decide +kernel
theorem d_Store_init_52 : decode prog_12_method_1_code 52 = .ok (.putfield 25, 3) := by decide +kernel
theorem u_914 : Cond.fieldLink "FilterGuard$Store" 25 "FilterGuard$Store" "keys" "[B" ∈ fg_g := fg_in (List.mem_of_getElem? (i := 914) (by decide +kernel)) rfl
theorem d_Store_init_55 : decode prog_12_method_1_code 55 = .ok (.aload_n 0, 1) := by decide +kernel
theorem d_Store_init_56 : decode prog_12_method_1_code 56 = .ok (.iload 4, 2) := by decide +kernel
theorem d_Store_init_58 : decode prog_12_method_1_code 58 = .ok (.iload_n 3, 1) := by decide +kernel
theorem d_Store_init_59 : decode prog_12_method_1_code 59 = .ok (.imul, 1) := by decide +kernel
theorem d_Store_init_60 : decode prog_12_method_1_code 60 = .ok (.newarray .byte, 2) := by decide +kernel
theorem d_Store_init_62 : decode prog_12_method_1_code 62 = .ok (.putfield 29, 3) := by decide +kernel
theorem u_915 : Cond.fieldLink "FilterGuard$Store" 29 "FilterGuard$Store" "values" "[B" ∈ fg_g := fg_in (List.mem_of_getElem? (i := 915) (by decide +kernel)) rfl
theorem d_Store_init_65 : decode prog_12_method_1_code 65 = .ok (.aload_n 0, 1) := by decide +kernel
theorem d_Store_init_66 : decode prog_12_method_1_code 66 = .ok (.iload 4, 2) := by decide +kernel
theorem d_Store_init_68 : decode prog_12_method_1_code 68 = .ok (.newarray .boolean, 2) := by decide +kernel
theorem d_Store_init_70 : decode prog_12_method_1_code 70 = .ok (.putfield 32, 3) := by decide +kernel
theorem u_917 : Cond.fieldLink "FilterGuard$Store" 32 "FilterGuard$Store" "isThere" "[Z" ∈ fg_g := fg_in (List.mem_of_getElem? (i := 917) (by decide +kernel)) rfl
theorem d_Store_init_73 : decode prog_12_method_1_code 73 = .ok (.iconst 0, 1) := by decide +kernel
theorem d_Store_init_74 : decode prog_12_method_1_code 74 = .ok (.istore 5, 2) := by decide +kernel
theorem d_Store_init_76 : decode prog_12_method_1_code 76 = .ok (.iload 5, 2) := by decide +kernel
theorem d_Store_init_78 : decode prog_12_method_1_code 78 = .ok (.iload 4, 2) := by decide +kernel
theorem d_Store_init_80 : decode prog_12_method_1_code 80 = .ok (.if_icmp .ge 28, 3) := by decide +kernel
theorem d_Store_init_108 : decode prog_12_method_1_code 108 = .ok (.return_, 1) := by decide +kernel
theorem d_Store_init_83 : decode prog_12_method_1_code 83 = .ok (.aload_n 0, 1) := by decide +kernel
theorem d_Store_init_84 : decode prog_12_method_1_code 84 = .ok (.getfield 32, 3) := by decide +kernel
theorem d_Store_init_87 : decode prog_12_method_1_code 87 = .ok (.iload 5, 2) := by decide +kernel
theorem d_Store_init_89 : decode prog_12_method_1_code 89 = .ok (.aload_n 0, 1) := by decide +kernel
theorem d_Store_init_90 : decode prog_12_method_1_code 90 = .ok (.getfield 11, 3) := by decide +kernel
theorem d_Store_init_93 : decode prog_12_method_1_code 93 = .ok (.ifCond .ne 7, 3) := by decide +kernel
theorem d_Store_init_96 : decode prog_12_method_1_code 96 = .ok (.iconst 1, 1) := by decide +kernel
theorem d_Store_init_97 : decode prog_12_method_1_code 97 = .ok (.goto 4, 3) := by decide +kernel
theorem d_Store_init_101 : decode prog_12_method_1_code 101 = .ok (.bastore, 1) := by decide +kernel
theorem d_Store_init_102 : decode prog_12_method_1_code 102 = .ok (.iinc 5 1, 3) := by decide +kernel
theorem d_Store_init_105 : decode prog_12_method_1_code 105 = .ok (.goto (-29), 3) := by decide +kernel
theorem d_Store_init_10 : decode prog_12_method_1_code 10 = .ok (.iconst 1, 1) := by decide +kernel
theorem d_Store_init_11 : decode prog_12_method_1_code 11 = .ok (.goto 4, 3) := by decide +kernel
theorem d_Store_init_42 : decode prog_12_method_1_code 42 = .ok (.iload 4, 2) := by decide +kernel
theorem d_Store_init_44 : decode prog_12_method_1_code 44 = .ok (.iload_n 2, 1) := by decide +kernel
theorem d_Store_init_45 : decode prog_12_method_1_code 45 = .ok (.imul, 1) := by decide +kernel
theorem d_Store_init_46 : decode prog_12_method_1_code 46 = .ok (.goto 4, 3) := by decide +kernel
theorem d_Store_init_100 : decode prog_12_method_1_code 100 = .ok (.iconst 0, 1) := by decide +kernel
def rm_Store_init : Room := { frames := 1, cells := 3, slots := 5184, locals := 20 }
abbrev q_Store_init (D : va_G) (h0 : Nat) (x1 : Int32) (y : Nat) (v : Nat) (e9 : Nat) (A : Nat → Prop) : Array Value → Jvm.State → Outcome → Jvm.State → Prop := va_Qv (fun (u : Int32 × Nat × Nat × Nat) => True) (fg_B D A (fun (u : Int32 × Nat × Nat × Nat) => [(h0, .inr (12, [.int u.1, .int (nI y), .int (nI v), .int (nI e9), .ref u.2.1, .ref u.2.2.1, .ref u.2.2.2]))]) (fun (u : Int32 × Nat × Nat × Nat) => [])) A
set_option maxHeartbeats 4000000 in
set_option maxRecDepth 100000 in
theorem c_Store_init (l : Launch) (D : va_G) (h0 : Nat) (x1 : Int32) (y : Nat) (v : Nat) (e9 : Nat) (sz : Nat) (hy1 : y ≤ 16) (hv : v ≤ 64) (he : e9 ≤ 64) : Met l y_Store_init (fg_w y_Store_init prog_12_method_1_code 6 none) rm_Store_init (va_Pc [.ref h0, .int x1, .int (nI y), .int (nI v), .int (nI e9)] (fg_P D [] [(h0, .inr (12, [.int 0, .int 0, .int 0, .int 0, .null, .null, .null]))] sz)) (q_Store_init D h0 x1 y v e9 (va_A [(h0, .inr (12, [.int 0, .int 0, .int 0, .int 0, .null, .null, .null]))] sz)) rm_Store_init.cells rm_Store_init.slots (va_A [(h0, .inr (12, [.int 0, .int 0, .int 0, .int 0, .null, .null, .null]))] sz) := by
  refine fg_enter (fun A => q_Store_init D h0 x1 y v e9 A) (by decide +kernel) (Nat.le_of_ble_eq_true rfl) ?_
  intro p e s m below meth c ls A hx hb hml hown hts hr hlocks hin hP hK hD hS hA hX hl
  have hl : lv_has ls 6 [(0, .ref h0), (1, .int x1), (2, .int (nI y)), (3, .int (nI v)), (4, .int (nI e9))] := hl
  have hey : e9 * y ≤ 64 * 16 := Nat.mul_le_mul he hy1
  have hev : e9 * v ≤ 64 * 64 := Nat.mul_le_mul he hv
  refine lv_aload_n hx hb d_Store_init_0 rfl (lv_at hl 0 rfl) ?_
  refine W.objInit hx hb hown (hts _ u_899) (hts _ u_210) (hts _ u_211) rfl (by rw [hml]; exact hl.1) rfl d_Store_init_1 (Nat.le_of_ble_eq_true rfl) (Nat.le_of_ble_eq_true rfl) ?_
  refine W.eq (g2 := F0 m 4 ls []) rfl ?_
  refine lv_aload_n hx hb d_Store_init_4 rfl (lv_at hl 0 rfl) ?_
  refine lv_iload_n hx hb d_Store_init_5 rfl (lv_at hl 1 rfl) ?_
  refine lv_iconst (v := 1) hx hb d_Store_init_6 (by decide) ?_
  refine lv_icmp_ne (tgt := 14) hx hb d_Store_init_7 (by decide) (fun c_1 => ?_) (fun c_1 => ?_)
  · refine lv_iconst (v := 0) hx hb d_Store_init_14 (by decide) ?_
    refine va_putF (D := D) (ci := 12) (v := .int 0) (ty := .boolean) (C := "FilterGuard$Store") (T := F_Store) (N := 7) hx hb hts i_Store t_Store t_Store_ok n_Store hown hK hP hD hS 0 rfl rfl 0 (by decide) (hts _ u_900) (fun _ h9 => h9) rfl hin rfl (by decide +kernel) rfl rfl (Nat.le_of_ble_eq_true rfl) d_Store_init_15 (fun H locs hP hD hS => ?_)
    have hP : va_P D classes [(h0, .inr (12, [.int 0, .int 0, .int 0, .int 0, .null, .null, .null]))] H := hP
    have hD : va_D A [(h0, .inr (12, [.int 0, .int 0, .int 0, .int 0, .null, .null, .null]))] := hD
    refine lv_aload_n hx hb d_Store_init_18 rfl (lv_at hl 0 rfl) ?_
    refine lv_iload_n hx hb d_Store_init_19 rfl (lv_at hl 2 rfl) ?_
    refine va_putF (D := D) (ci := 12) (v := .int (nI y)) (ty := .int) (C := "FilterGuard$Store") (T := F_Store) (N := 7) hx hb hts i_Store t_Store t_Store_ok n_Store hown hK hP hD hS 0 rfl rfl 1 (by decide) (hts _ u_901) (fun _ h9 => h9) rfl hin rfl (by decide +kernel) rfl rfl (Nat.le_of_ble_eq_true rfl) d_Store_init_20 (fun H locs hP hD hS => ?_)
    have hP : va_P D classes [(h0, .inr (12, [.int 0, .int (nI y), .int 0, .int 0, .null, .null, .null]))] H := hP
    have hD : va_D A [(h0, .inr (12, [.int 0, .int (nI y), .int 0, .int 0, .null, .null, .null]))] := hD
    refine lv_aload_n hx hb d_Store_init_23 rfl (lv_at hl 0 rfl) ?_
    refine lv_iload_n hx hb d_Store_init_24 rfl (lv_at hl 3 rfl) ?_
    refine va_putF (D := D) (ci := 12) (v := .int (nI v)) (ty := .int) (C := "FilterGuard$Store") (T := F_Store) (N := 7) hx hb hts i_Store t_Store t_Store_ok n_Store hown hK hP hD hS 0 rfl rfl 2 (by decide) (hts _ u_906) (fun _ h9 => h9) rfl hin rfl (by decide +kernel) rfl rfl (Nat.le_of_ble_eq_true rfl) d_Store_init_25 (fun H locs hP hD hS => ?_)
    have hP : va_P D classes [(h0, .inr (12, [.int 0, .int (nI y), .int (nI v), .int 0, .null, .null, .null]))] H := hP
    have hD : va_D A [(h0, .inr (12, [.int 0, .int (nI y), .int (nI v), .int 0, .null, .null, .null]))] := hD
    refine lv_aload_n hx hb d_Store_init_28 rfl (lv_at hl 0 rfl) ?_
    refine lv_iload hx hb d_Store_init_29 (lv_at hl 4 rfl) ?_
    refine va_putF (D := D) (ci := 12) (v := .int (nI e9)) (ty := .int) (C := "FilterGuard$Store") (T := F_Store) (N := 7) hx hb hts i_Store t_Store t_Store_ok n_Store hown hK hP hD hS 0 rfl rfl 3 (by decide) (hts _ u_911) (fun _ h9 => h9) rfl hin rfl (by decide +kernel) rfl rfl (Nat.le_of_ble_eq_true rfl) d_Store_init_31 (fun H locs hP hD hS => ?_)
    have hP : va_P D classes [(h0, .inr (12, [.int 0, .int (nI y), .int (nI v), .int (nI e9), .null, .null, .null]))] H := hP
    have hD : va_D A [(h0, .inr (12, [.int 0, .int (nI y), .int (nI v), .int (nI e9), .null, .null, .null]))] := hD
    refine lv_aload_n hx hb d_Store_init_34 rfl (lv_at hl 0 rfl) ?_
    refine lv_aload_n hx hb d_Store_init_35 rfl (lv_at hl 0 rfl) ?_
    refine va_get (D := D) (ci := 12) (v := .int 0) (C := "FilterGuard$Store") (T := F_Store) (N := 7) hx hb hts i_Store hown hK hP 0 rfl rfl 0 (by decide) (hts _ u_900) (fun _ h9 => h9) rfl d_Store_init_36 ?_
    refine lv_if_eq (tgt := 49) hx hb d_Store_init_39 (by decide) (fun c_2 => ?_) (fun c_2 => absurd (by decide) c_2)
    refine lv_iconst (v := 0) hx hb d_Store_init_49 (by decide) ?_
    refine va_newa (atype := .byte) (a0 := (0, .inl (fun _ => 0))) hx hb (hts _ u_309) rfl hK hP hD hS hA (fun _ => rfl) (by decide) (by decide) (by decide) (Nat.le_of_ble_eq_true rfl) (Nat.le_of_ble_eq_true rfl) d_Store_init_50 (fun q50_2 k50_2 H hK hP hD hS => ?_)
    have hP : va_P D classes [(h0, .inr (12, [.int 0, .int (nI y), .int (nI v), .int (nI e9), .null, .null, .null])), (q50_2, .inl (k50_2, 0, .inl (fun _ => 0)))] H := hP
    have hD : va_D A [(h0, .inr (12, [.int 0, .int (nI y), .int (nI v), .int (nI e9), .null, .null, .null])), (q50_2, .inl (k50_2, 0, .inl (fun _ => 0)))] := hD
    have hK : va_K D classes [(k50_2, .byte)] s := hK
    refine W.widen (k := 1) (n := 0) (Nat.le_of_ble_eq_true rfl) (Nat.le_of_ble_eq_true rfl) ?_
    refine va_putF (D := D) (ci := 12) (v := .ref q50_2) (ty := (.array .byte)) (C := "FilterGuard$Store") (T := F_Store) (N := 7) hx hb hts i_Store t_Store t_Store_ok n_Store hown hK hP hD hS 0 rfl rfl 4 (by decide) (hts _ u_914) (fun _ h9 => h9) rfl hin rfl (by decide +kernel) rfl rfl (Nat.le_of_ble_eq_true rfl) d_Store_init_52 (fun H locs hP hD hS => ?_)
    have hP : va_P D classes [(h0, .inr (12, [.int 0, .int (nI y), .int (nI v), .int (nI e9), .ref q50_2, .null, .null])), (q50_2, .inl (k50_2, 0, .inl (fun _ => 0)))] H := hP
    have hD : va_D A [(h0, .inr (12, [.int 0, .int (nI y), .int (nI v), .int (nI e9), .ref q50_2, .null, .null])), (q50_2, .inl (k50_2, 0, .inl (fun _ => 0)))] := hD
    refine lv_aload_n hx hb d_Store_init_55 rfl (lv_at hl 0 rfl) ?_
    refine lv_iload hx hb d_Store_init_56 (lv_at hl 4 rfl) ?_
    refine lv_iload_n hx hb d_Store_init_58 rfl (lv_at hl 3 rfl) ?_
    refine lv_imul hx hb d_Store_init_59 ?_
    refine fg_topi (y := nI (e9 * v)) (pk_mul e9 v) ?_
    refine va_newa (atype := .byte) (a0 := (e9 * v, .inl (fun _ => 0))) hx hb (hts _ u_309) rfl hK hP hD hS hA (fun _ => rfl) (nI_pos (by omega)) (nI_clamp (by omega)) (by show e9 * v * 1 ≤ _; omega) (Nat.le_of_ble_eq_true rfl) (by show _ ≤ 5184; omega) d_Store_init_60 (fun q60_3 k60_3 H hK hP hD hS => ?_)
    have hP : va_P D classes [(h0, .inr (12, [.int 0, .int (nI y), .int (nI v), .int (nI e9), .ref q50_2, .null, .null])), (q50_2, .inl (k50_2, 0, .inl (fun _ => 0))), (q60_3, .inl (k60_3, (e9 * v), .inl (fun _ => 0)))] H := hP
    have hD : va_D A [(h0, .inr (12, [.int 0, .int (nI y), .int (nI v), .int (nI e9), .ref q50_2, .null, .null])), (q50_2, .inl (k50_2, 0, .inl (fun _ => 0))), (q60_3, .inl (k60_3, (e9 * v), .inl (fun _ => 0)))] := hD
    have hK : va_K D classes [(k50_2, .byte), (k60_3, .byte)] s := hK
    refine W.widen (k := 2) (n := 0 + (e9 * v)) (Nat.le_of_ble_eq_true rfl) (by omega) ?_
    refine va_putF (D := D) (ci := 12) (v := .ref q60_3) (ty := (.array .byte)) (C := "FilterGuard$Store") (T := F_Store) (N := 7) hx hb hts i_Store t_Store t_Store_ok n_Store hown hK hP hD hS 0 rfl rfl 5 (by decide) (hts _ u_915) (fun _ h9 => h9) rfl hin rfl (by decide +kernel) rfl rfl (Nat.le_of_ble_eq_true rfl) d_Store_init_62 (fun H locs hP hD hS => ?_)
    have hP : va_P D classes [(h0, .inr (12, [.int 0, .int (nI y), .int (nI v), .int (nI e9), .ref q50_2, .ref q60_3, .null])), (q50_2, .inl (k50_2, 0, .inl (fun _ => 0))), (q60_3, .inl (k60_3, (e9 * v), .inl (fun _ => 0)))] H := hP
    have hD : va_D A [(h0, .inr (12, [.int 0, .int (nI y), .int (nI v), .int (nI e9), .ref q50_2, .ref q60_3, .null])), (q50_2, .inl (k50_2, 0, .inl (fun _ => 0))), (q60_3, .inl (k60_3, (e9 * v), .inl (fun _ => 0)))] := hD
    refine lv_aload_n hx hb d_Store_init_65 rfl (lv_at hl 0 rfl) ?_
    refine lv_iload hx hb d_Store_init_66 (lv_at hl 4 rfl) ?_
    refine va_newa (atype := .boolean) (a0 := (e9, .inl (fun _ => 0))) hx hb (hts _ u_311) rfl hK hP hD hS hA (fun _ => rfl) (nI_pos (by omega)) (nI_clamp (by omega)) (by show e9 * 1 ≤ _; omega) (Nat.le_of_ble_eq_true rfl) (by show _ ≤ 5184; omega) d_Store_init_68 (fun q68_4 k68_4 H hK hP hD hS => ?_)
    have hP : va_P D classes [(h0, .inr (12, [.int 0, .int (nI y), .int (nI v), .int (nI e9), .ref q50_2, .ref q60_3, .null])), (q50_2, .inl (k50_2, 0, .inl (fun _ => 0))), (q60_3, .inl (k60_3, (e9 * v), .inl (fun _ => 0))), (q68_4, .inl (k68_4, e9, .inl (fun _ => 0)))] H := hP
    have hD : va_D A [(h0, .inr (12, [.int 0, .int (nI y), .int (nI v), .int (nI e9), .ref q50_2, .ref q60_3, .null])), (q50_2, .inl (k50_2, 0, .inl (fun _ => 0))), (q60_3, .inl (k60_3, (e9 * v), .inl (fun _ => 0))), (q68_4, .inl (k68_4, e9, .inl (fun _ => 0)))] := hD
    have hK : va_K D classes [(k50_2, .byte), (k60_3, .byte), (k68_4, .boolean)] s := hK
    refine W.widen (k := 3) (n := 0 + (e9 * v) + e9) (Nat.le_of_ble_eq_true rfl) (by omega) ?_
    refine va_putF (D := D) (ci := 12) (v := .ref q68_4) (ty := (.array .boolean)) (C := "FilterGuard$Store") (T := F_Store) (N := 7) hx hb hts i_Store t_Store t_Store_ok n_Store hown hK hP hD hS 0 rfl rfl 6 (by decide) (hts _ u_917) (fun _ h9 => h9) rfl hin rfl (by decide +kernel) rfl rfl (Nat.le_of_ble_eq_true rfl) d_Store_init_70 (fun H locs hP hD hS => ?_)
    have hP : va_P D classes [(h0, .inr (12, [.int 0, .int (nI y), .int (nI v), .int (nI e9), .ref q50_2, .ref q60_3, .ref q68_4])), (q50_2, .inl (k50_2, 0, .inl (fun _ => 0))), (q60_3, .inl (k60_3, (e9 * v), .inl (fun _ => 0))), (q68_4, .inl (k68_4, e9, .inl (fun _ => 0)))] H := hP
    have hD : va_D A [(h0, .inr (12, [.int 0, .int (nI y), .int (nI v), .int (nI e9), .ref q50_2, .ref q60_3, .ref q68_4])), (q50_2, .inl (k50_2, 0, .inl (fun _ => 0))), (q60_3, .inl (k60_3, (e9 * v), .inl (fun _ => 0))), (q68_4, .inl (k68_4, e9, .inl (fun _ => 0)))] := hD
    refine lv_iconst (v := 0) hx hb d_Store_init_73 (by decide) ?_
    refine lv_istore (lv' := [(5, .int 0), (0, .ref h0), (1, .int x1), (2, .int (nI y)), (3, .int (nI v)), (4, .int (nI e9))]) hx hb d_Store_init_74 hl (by decide) rfl (fun ls hl => ?_)
    have loop76 : ∀ (n : Nat) (k : Nat) (f : Nat → Int32) (H : Heap) (locs : List Loc) (ls : Array Slot), k ≤ e9 → e9 - k < n → va_P D classes [(h0, .inr (12, [.int 0, .int (nI y), .int (nI v), .int (nI e9), .ref q50_2, .ref q60_3, .ref q68_4])), (q50_2, .inl (k50_2, 0, .inl (fun _ => 0))), (q60_3, .inl (k60_3, (e9 * v), .inl (fun _ => 0))), (q68_4, .inl (k68_4, e9, .inl f))] H → va_D A [(h0, .inr (12, [.int 0, .int (nI y), .int (nI v), .int (nI e9), .ref q50_2, .ref q60_3, .ref q68_4])), (q50_2, .inl (k50_2, 0, .inl (fun _ => 0))), (q60_3, .inl (k60_3, (e9 * v), .inl (fun _ => 0))), (q68_4, .inl (k68_4, e9, .inl f))] → va_S A s.heap H locs → lv_has ls 6 [(5, .int (nI k)), (0, .ref h0), (1, .int x1), (2, .int (nI y)), (3, .int (nI v)), (4, .int (nI e9))] → W p l e rm_Store_init s m [.ref h0, .int x1, .int (nI y), .int (nI v), .int (nI e9)].toArray below meth c H locs (3) (0 + (e9 * v) + e9) (MQ below (q_Store_init D h0 x1 y v e9 A) [.ref h0, .int x1, .int (nI y), .int (nI v), .int (nI e9)].toArray s rm_Store_init.cells rm_Store_init.slots A) (F0 m 76 ls []) := by
      intro n
      induction n with
      | zero => intro k f H locs ls hk hn; exact absurd hn (Nat.not_lt_zero _)
      | succ n ih =>
        intro k f H locs ls hk hn hP hD hS hl
        refine lv_iload hx hb d_Store_init_76 (lv_at hl 0 rfl) ?_
        refine lv_iload hx hb d_Store_init_78 (lv_at hl 5 rfl) ?_
        refine lv_icmp_ge (tgt := 108) hx hb d_Store_init_80 (by decide) (fun c_6 => ?_) (fun c_6 => ?_)
        · exact fg_retv (0, q50_2, q60_3, q68_4) hx hb hr hlocks trivial (hP.sub (ws' := [(h0, .inr (12, [.int 0, .int (nI y), .int (nI v), .int (nI e9), .ref q50_2, .ref q60_3, .ref q68_4]))]) [0] rfl) (hK.sub (tys' := []) [] rfl) (hD.sub (ws' := [(h0, .inr (12, [.int 0, .int (nI y), .int (nI v), .int (nI e9), .ref q50_2, .ref q60_3, .ref q68_4]))]) [0] (by decide) rfl) hS (Nat.le_of_ble_eq_true rfl) (by show _ ≤ 5184; omega) d_Store_init_108
        · have hlt : k < e9 := fg_lt (x := nI e9) rfl (by omega) hk c_6
          refine lv_aload_n hx hb d_Store_init_83 rfl (lv_at hl 1 rfl) ?_
          refine va_get (D := D) (ci := 12) (v := .ref q68_4) (C := "FilterGuard$Store") (T := F_Store) (N := 7) hx hb hts i_Store hown hK hP 0 rfl rfl 6 (by decide) (hts _ u_917) (fun _ h9 => h9) rfl d_Store_init_84 ?_
          refine lv_iload hx hb d_Store_init_87 (lv_at hl 0 rfl) ?_
          refine lv_aload_n hx hb d_Store_init_89 rfl (lv_at hl 1 rfl) ?_
          refine va_get (D := D) (ci := 12) (v := .int 0) (C := "FilterGuard$Store") (T := F_Store) (N := 7) hx hb hts i_Store hown hK hP 0 rfl rfl 0 (by decide) (hts _ u_900) (fun _ h9 => h9) rfl d_Store_init_90 ?_
          refine lv_if_ne (tgt := 100) hx hb d_Store_init_93 (by decide) (fun c_7 => absurd (by decide) c_7) (fun c_7 => ?_)
          refine lv_iconst (v := 1) hx hb d_Store_init_96 (by decide) ?_
          refine lv_goto (tgt := 101) hx hb d_Store_init_97 (by decide) ?_
          refine va_zast hx hb hK hP hD hS 3 2 rfl rfl (vp_in_nI hlt (by omega)) d_Store_init_101 (fun H locs hP hD hS => ?_)
          have hP : va_P D classes [(h0, .inr (12, [.int 0, .int (nI y), .int (nI v), .int (nI e9), .ref q50_2, .ref q60_3, .ref q68_4])), (q50_2, .inl (k50_2, 0, .inl (fun _ => 0))), (q60_3, .inl (k60_3, (e9 * v), .inl (fun _ => 0))), (q68_4, .inl (k68_4, e9, .inl (upd f ((nI k).toNatClampNeg) (vp_nar .boolean 1))))] H := hP
          have hD : va_D A [(h0, .inr (12, [.int 0, .int (nI y), .int (nI v), .int (nI e9), .ref q50_2, .ref q60_3, .ref q68_4])), (q50_2, .inl (k50_2, 0, .inl (fun _ => 0))), (q60_3, .inl (k60_3, (e9 * v), .inl (fun _ => 0))), (q68_4, .inl (k68_4, e9, .inl (upd f ((nI k).toNatClampNeg) (vp_nar .boolean 1))))] := hD
          obtain ⟨f_8, ef_8⟩ : ∃ g : Nat → Int32, g = upd f ((nI k).toNatClampNeg) (vp_nar .boolean 1) := ⟨_, rfl⟩
          rw [← ef_8] at hP hD
          refine lv_iinc (v := nI (k + 1)) (lv' := [(5, .int (nI (k + 1))), (0, .ref h0), (1, .int x1), (2, .int (nI y)), (3, .int (nI v)), (4, .int (nI e9))]) hx hb d_Store_init_102 hl (k := 0) rfl (nI_1 k) (by decide) rfl (fun ls hl => ?_)
          refine lv_goto (tgt := 76) hx hb d_Store_init_105 (by decide) ?_
          refine W.widen (k := 3) (n := 0 + (e9 * v) + e9) (by omega) (by omega) ?_
          exact ih (k + 1) f_8 _ _ _ (by omega) (by omega) (hP.sub (ws' := [(h0, .inr (12, [.int 0, .int (nI y), .int (nI v), .int (nI e9), .ref q50_2, .ref q60_3, .ref q68_4])), (q50_2, .inl (k50_2, 0, .inl (fun _ => 0))), (q60_3, .inl (k60_3, (e9 * v), .inl (fun _ => 0))), (q68_4, .inl (k68_4, e9, .inl f_8))]) [0, 1, 2, 3] rfl) (hD.sub (ws' := [(h0, .inr (12, [.int 0, .int (nI y), .int (nI v), .int (nI e9), .ref q50_2, .ref q60_3, .ref q68_4])), (q50_2, .inl (k50_2, 0, .inl (fun _ => 0))), (q60_3, .inl (k60_3, (e9 * v), .inl (fun _ => 0))), (q68_4, .inl (k68_4, e9, .inl f_8))]) [0, 1, 2, 3] (by decide) rfl) hS (lv_sub hl [0, 1, 2, 3, 4, 5] rfl)
    refine W.widen (k := 3) (n := 0 + (e9 * v) + e9) (by omega) (by omega) ?_
    exact loop76 (e9 + 1) 0 (fun _ => 0) _ _ _ (by omega) (by omega) (hP.sub (ws' := [(h0, .inr (12, [.int 0, .int (nI y), .int (nI v), .int (nI e9), .ref q50_2, .ref q60_3, .ref q68_4])), (q50_2, .inl (k50_2, 0, .inl (fun _ => 0))), (q60_3, .inl (k60_3, (e9 * v), .inl (fun _ => 0))), (q68_4, .inl (k68_4, e9, .inl (fun _ => 0)))]) [0, 1, 2, 3] rfl) (hD.sub (ws' := [(h0, .inr (12, [.int 0, .int (nI y), .int (nI v), .int (nI e9), .ref q50_2, .ref q60_3, .ref q68_4])), (q50_2, .inl (k50_2, 0, .inl (fun _ => 0))), (q60_3, .inl (k60_3, (e9 * v), .inl (fun _ => 0))), (q68_4, .inl (k68_4, e9, .inl (fun _ => 0)))]) [0, 1, 2, 3] (by decide) rfl) hS (lv_sub hl [0, 1, 2, 3, 4, 5] rfl)
  · refine lv_iconst (v := 1) hx hb d_Store_init_10 (by decide) ?_
    refine lv_goto (tgt := 15) hx hb d_Store_init_11 (by decide) ?_
    refine va_putF (D := D) (ci := 12) (v := .int 1) (ty := .boolean) (C := "FilterGuard$Store") (T := F_Store) (N := 7) hx hb hts i_Store t_Store t_Store_ok n_Store hown hK hP hD hS 0 rfl rfl 0 (by decide) (hts _ u_900) (fun _ h9 => h9) rfl hin rfl (by decide +kernel) rfl rfl (Nat.le_of_ble_eq_true rfl) d_Store_init_15 (fun H locs hP hD hS => ?_)
    have hP : va_P D classes [(h0, .inr (12, [.int 1, .int 0, .int 0, .int 0, .null, .null, .null]))] H := hP
    have hD : va_D A [(h0, .inr (12, [.int 1, .int 0, .int 0, .int 0, .null, .null, .null]))] := hD
    refine lv_aload_n hx hb d_Store_init_18 rfl (lv_at hl 0 rfl) ?_
    refine lv_iload_n hx hb d_Store_init_19 rfl (lv_at hl 2 rfl) ?_
    refine va_putF (D := D) (ci := 12) (v := .int (nI y)) (ty := .int) (C := "FilterGuard$Store") (T := F_Store) (N := 7) hx hb hts i_Store t_Store t_Store_ok n_Store hown hK hP hD hS 0 rfl rfl 1 (by decide) (hts _ u_901) (fun _ h9 => h9) rfl hin rfl (by decide +kernel) rfl rfl (Nat.le_of_ble_eq_true rfl) d_Store_init_20 (fun H locs hP hD hS => ?_)
    have hP : va_P D classes [(h0, .inr (12, [.int 1, .int (nI y), .int 0, .int 0, .null, .null, .null]))] H := hP
    have hD : va_D A [(h0, .inr (12, [.int 1, .int (nI y), .int 0, .int 0, .null, .null, .null]))] := hD
    refine lv_aload_n hx hb d_Store_init_23 rfl (lv_at hl 0 rfl) ?_
    refine lv_iload_n hx hb d_Store_init_24 rfl (lv_at hl 3 rfl) ?_
    refine va_putF (D := D) (ci := 12) (v := .int (nI v)) (ty := .int) (C := "FilterGuard$Store") (T := F_Store) (N := 7) hx hb hts i_Store t_Store t_Store_ok n_Store hown hK hP hD hS 0 rfl rfl 2 (by decide) (hts _ u_906) (fun _ h9 => h9) rfl hin rfl (by decide +kernel) rfl rfl (Nat.le_of_ble_eq_true rfl) d_Store_init_25 (fun H locs hP hD hS => ?_)
    have hP : va_P D classes [(h0, .inr (12, [.int 1, .int (nI y), .int (nI v), .int 0, .null, .null, .null]))] H := hP
    have hD : va_D A [(h0, .inr (12, [.int 1, .int (nI y), .int (nI v), .int 0, .null, .null, .null]))] := hD
    refine lv_aload_n hx hb d_Store_init_28 rfl (lv_at hl 0 rfl) ?_
    refine lv_iload hx hb d_Store_init_29 (lv_at hl 4 rfl) ?_
    refine va_putF (D := D) (ci := 12) (v := .int (nI e9)) (ty := .int) (C := "FilterGuard$Store") (T := F_Store) (N := 7) hx hb hts i_Store t_Store t_Store_ok n_Store hown hK hP hD hS 0 rfl rfl 3 (by decide) (hts _ u_911) (fun _ h9 => h9) rfl hin rfl (by decide +kernel) rfl rfl (Nat.le_of_ble_eq_true rfl) d_Store_init_31 (fun H locs hP hD hS => ?_)
    have hP : va_P D classes [(h0, .inr (12, [.int 1, .int (nI y), .int (nI v), .int (nI e9), .null, .null, .null]))] H := hP
    have hD : va_D A [(h0, .inr (12, [.int 1, .int (nI y), .int (nI v), .int (nI e9), .null, .null, .null]))] := hD
    refine lv_aload_n hx hb d_Store_init_34 rfl (lv_at hl 0 rfl) ?_
    refine lv_aload_n hx hb d_Store_init_35 rfl (lv_at hl 0 rfl) ?_
    refine va_get (D := D) (ci := 12) (v := .int 1) (C := "FilterGuard$Store") (T := F_Store) (N := 7) hx hb hts i_Store hown hK hP 0 rfl rfl 0 (by decide) (hts _ u_900) (fun _ h9 => h9) rfl d_Store_init_36 ?_
    refine lv_if_eq (tgt := 49) hx hb d_Store_init_39 (by decide) (fun c_9 => absurd c_9 (by decide)) (fun c_9 => ?_)
    refine lv_iload hx hb d_Store_init_42 (lv_at hl 4 rfl) ?_
    refine lv_iload_n hx hb d_Store_init_44 rfl (lv_at hl 2 rfl) ?_
    refine lv_imul hx hb d_Store_init_45 ?_
    refine fg_topi (y := nI (e9 * y)) (pk_mul e9 y) ?_
    refine lv_goto (tgt := 50) hx hb d_Store_init_46 (by decide) ?_
    refine va_newa (atype := .byte) (a0 := (e9 * y, .inl (fun _ => 0))) hx hb (hts _ u_309) rfl hK hP hD hS hA (fun _ => rfl) (nI_pos (by omega)) (nI_clamp (by omega)) (by show e9 * y * 1 ≤ _; omega) (Nat.le_of_ble_eq_true rfl) (by show _ ≤ 5184; omega) d_Store_init_50 (fun q50_9 k50_9 H hK hP hD hS => ?_)
    have hP : va_P D classes [(h0, .inr (12, [.int 1, .int (nI y), .int (nI v), .int (nI e9), .null, .null, .null])), (q50_9, .inl (k50_9, (e9 * y), .inl (fun _ => 0)))] H := hP
    have hD : va_D A [(h0, .inr (12, [.int 1, .int (nI y), .int (nI v), .int (nI e9), .null, .null, .null])), (q50_9, .inl (k50_9, (e9 * y), .inl (fun _ => 0)))] := hD
    have hK : va_K D classes [(k50_9, .byte)] s := hK
    refine W.widen (k := 1) (n := 0 + (e9 * y)) (Nat.le_of_ble_eq_true rfl) (by omega) ?_
    refine va_putF (D := D) (ci := 12) (v := .ref q50_9) (ty := (.array .byte)) (C := "FilterGuard$Store") (T := F_Store) (N := 7) hx hb hts i_Store t_Store t_Store_ok n_Store hown hK hP hD hS 0 rfl rfl 4 (by decide) (hts _ u_914) (fun _ h9 => h9) rfl hin rfl (by decide +kernel) rfl rfl (Nat.le_of_ble_eq_true rfl) d_Store_init_52 (fun H locs hP hD hS => ?_)
    have hP : va_P D classes [(h0, .inr (12, [.int 1, .int (nI y), .int (nI v), .int (nI e9), .ref q50_9, .null, .null])), (q50_9, .inl (k50_9, (e9 * y), .inl (fun _ => 0)))] H := hP
    have hD : va_D A [(h0, .inr (12, [.int 1, .int (nI y), .int (nI v), .int (nI e9), .ref q50_9, .null, .null])), (q50_9, .inl (k50_9, (e9 * y), .inl (fun _ => 0)))] := hD
    refine lv_aload_n hx hb d_Store_init_55 rfl (lv_at hl 0 rfl) ?_
    refine lv_iload hx hb d_Store_init_56 (lv_at hl 4 rfl) ?_
    refine lv_iload_n hx hb d_Store_init_58 rfl (lv_at hl 3 rfl) ?_
    refine lv_imul hx hb d_Store_init_59 ?_
    refine fg_topi (y := nI (e9 * v)) (pk_mul e9 v) ?_
    refine va_newa (atype := .byte) (a0 := (e9 * v, .inl (fun _ => 0))) hx hb (hts _ u_309) rfl hK hP hD hS hA (fun _ => rfl) (nI_pos (by omega)) (nI_clamp (by omega)) (by show e9 * v * 1 ≤ _; omega) (Nat.le_of_ble_eq_true rfl) (by show _ ≤ 5184; omega) d_Store_init_60 (fun q60_10 k60_10 H hK hP hD hS => ?_)
    have hP : va_P D classes [(h0, .inr (12, [.int 1, .int (nI y), .int (nI v), .int (nI e9), .ref q50_9, .null, .null])), (q50_9, .inl (k50_9, (e9 * y), .inl (fun _ => 0))), (q60_10, .inl (k60_10, (e9 * v), .inl (fun _ => 0)))] H := hP
    have hD : va_D A [(h0, .inr (12, [.int 1, .int (nI y), .int (nI v), .int (nI e9), .ref q50_9, .null, .null])), (q50_9, .inl (k50_9, (e9 * y), .inl (fun _ => 0))), (q60_10, .inl (k60_10, (e9 * v), .inl (fun _ => 0)))] := hD
    have hK : va_K D classes [(k50_9, .byte), (k60_10, .byte)] s := hK
    refine W.widen (k := 2) (n := 0 + (e9 * y) + (e9 * v)) (Nat.le_of_ble_eq_true rfl) (by omega) ?_
    refine va_putF (D := D) (ci := 12) (v := .ref q60_10) (ty := (.array .byte)) (C := "FilterGuard$Store") (T := F_Store) (N := 7) hx hb hts i_Store t_Store t_Store_ok n_Store hown hK hP hD hS 0 rfl rfl 5 (by decide) (hts _ u_915) (fun _ h9 => h9) rfl hin rfl (by decide +kernel) rfl rfl (Nat.le_of_ble_eq_true rfl) d_Store_init_62 (fun H locs hP hD hS => ?_)
    have hP : va_P D classes [(h0, .inr (12, [.int 1, .int (nI y), .int (nI v), .int (nI e9), .ref q50_9, .ref q60_10, .null])), (q50_9, .inl (k50_9, (e9 * y), .inl (fun _ => 0))), (q60_10, .inl (k60_10, (e9 * v), .inl (fun _ => 0)))] H := hP
    have hD : va_D A [(h0, .inr (12, [.int 1, .int (nI y), .int (nI v), .int (nI e9), .ref q50_9, .ref q60_10, .null])), (q50_9, .inl (k50_9, (e9 * y), .inl (fun _ => 0))), (q60_10, .inl (k60_10, (e9 * v), .inl (fun _ => 0)))] := hD
    refine lv_aload_n hx hb d_Store_init_65 rfl (lv_at hl 0 rfl) ?_
    refine lv_iload hx hb d_Store_init_66 (lv_at hl 4 rfl) ?_
    refine va_newa (atype := .boolean) (a0 := (e9, .inl (fun _ => 0))) hx hb (hts _ u_311) rfl hK hP hD hS hA (fun _ => rfl) (nI_pos (by omega)) (nI_clamp (by omega)) (by show e9 * 1 ≤ _; omega) (Nat.le_of_ble_eq_true rfl) (by show _ ≤ 5184; omega) d_Store_init_68 (fun q68_11 k68_11 H hK hP hD hS => ?_)
    have hP : va_P D classes [(h0, .inr (12, [.int 1, .int (nI y), .int (nI v), .int (nI e9), .ref q50_9, .ref q60_10, .null])), (q50_9, .inl (k50_9, (e9 * y), .inl (fun _ => 0))), (q60_10, .inl (k60_10, (e9 * v), .inl (fun _ => 0))), (q68_11, .inl (k68_11, e9, .inl (fun _ => 0)))] H := hP
    have hD : va_D A [(h0, .inr (12, [.int 1, .int (nI y), .int (nI v), .int (nI e9), .ref q50_9, .ref q60_10, .null])), (q50_9, .inl (k50_9, (e9 * y), .inl (fun _ => 0))), (q60_10, .inl (k60_10, (e9 * v), .inl (fun _ => 0))), (q68_11, .inl (k68_11, e9, .inl (fun _ => 0)))] := hD
    have hK : va_K D classes [(k50_9, .byte), (k60_10, .byte), (k68_11, .boolean)] s := hK
    refine W.widen (k := 3) (n := 0 + (e9 * y) + (e9 * v) + e9) (Nat.le_of_ble_eq_true rfl) (by omega) ?_
    refine va_putF (D := D) (ci := 12) (v := .ref q68_11) (ty := (.array .boolean)) (C := "FilterGuard$Store") (T := F_Store) (N := 7) hx hb hts i_Store t_Store t_Store_ok n_Store hown hK hP hD hS 0 rfl rfl 6 (by decide) (hts _ u_917) (fun _ h9 => h9) rfl hin rfl (by decide +kernel) rfl rfl (Nat.le_of_ble_eq_true rfl) d_Store_init_70 (fun H locs hP hD hS => ?_)
    have hP : va_P D classes [(h0, .inr (12, [.int 1, .int (nI y), .int (nI v), .int (nI e9), .ref q50_9, .ref q60_10, .ref q68_11])), (q50_9, .inl (k50_9, (e9 * y), .inl (fun _ => 0))), (q60_10, .inl (k60_10, (e9 * v), .inl (fun _ => 0))), (q68_11, .inl (k68_11, e9, .inl (fun _ => 0)))] H := hP
    have hD : va_D A [(h0, .inr (12, [.int 1, .int (nI y), .int (nI v), .int (nI e9), .ref q50_9, .ref q60_10, .ref q68_11])), (q50_9, .inl (k50_9, (e9 * y), .inl (fun _ => 0))), (q60_10, .inl (k60_10, (e9 * v), .inl (fun _ => 0))), (q68_11, .inl (k68_11, e9, .inl (fun _ => 0)))] := hD
    refine lv_iconst (v := 0) hx hb d_Store_init_73 (by decide) ?_
    refine lv_istore (lv' := [(5, .int 0), (0, .ref h0), (1, .int x1), (2, .int (nI y)), (3, .int (nI v)), (4, .int (nI e9))]) hx hb d_Store_init_74 hl (by decide) rfl (fun ls hl => ?_)
    have loop76 : ∀ (n : Nat) (k : Nat) (f : Nat → Int32) (H : Heap) (locs : List Loc) (ls : Array Slot), k ≤ e9 → e9 - k < n → va_P D classes [(h0, .inr (12, [.int 1, .int (nI y), .int (nI v), .int (nI e9), .ref q50_9, .ref q60_10, .ref q68_11])), (q50_9, .inl (k50_9, (e9 * y), .inl (fun _ => 0))), (q60_10, .inl (k60_10, (e9 * v), .inl (fun _ => 0))), (q68_11, .inl (k68_11, e9, .inl f))] H → va_D A [(h0, .inr (12, [.int 1, .int (nI y), .int (nI v), .int (nI e9), .ref q50_9, .ref q60_10, .ref q68_11])), (q50_9, .inl (k50_9, (e9 * y), .inl (fun _ => 0))), (q60_10, .inl (k60_10, (e9 * v), .inl (fun _ => 0))), (q68_11, .inl (k68_11, e9, .inl f))] → va_S A s.heap H locs → lv_has ls 6 [(5, .int (nI k)), (0, .ref h0), (1, .int x1), (2, .int (nI y)), (3, .int (nI v)), (4, .int (nI e9))] → W p l e rm_Store_init s m [.ref h0, .int x1, .int (nI y), .int (nI v), .int (nI e9)].toArray below meth c H locs (3) (0 + (e9 * y) + (e9 * v) + e9) (MQ below (q_Store_init D h0 x1 y v e9 A) [.ref h0, .int x1, .int (nI y), .int (nI v), .int (nI e9)].toArray s rm_Store_init.cells rm_Store_init.slots A) (F0 m 76 ls []) := by
      intro n
      induction n with
      | zero => intro k f H locs ls hk hn; exact absurd hn (Nat.not_lt_zero _)
      | succ n ih =>
        intro k f H locs ls hk hn hP hD hS hl
        refine lv_iload hx hb d_Store_init_76 (lv_at hl 0 rfl) ?_
        refine lv_iload hx hb d_Store_init_78 (lv_at hl 5 rfl) ?_
        refine lv_icmp_ge (tgt := 108) hx hb d_Store_init_80 (by decide) (fun c_13 => ?_) (fun c_13 => ?_)
        · exact fg_retv (1, q50_9, q60_10, q68_11) hx hb hr hlocks trivial (hP.sub (ws' := [(h0, .inr (12, [.int 1, .int (nI y), .int (nI v), .int (nI e9), .ref q50_9, .ref q60_10, .ref q68_11]))]) [0] rfl) (hK.sub (tys' := []) [] rfl) (hD.sub (ws' := [(h0, .inr (12, [.int 1, .int (nI y), .int (nI v), .int (nI e9), .ref q50_9, .ref q60_10, .ref q68_11]))]) [0] (by decide) rfl) hS (Nat.le_of_ble_eq_true rfl) (by show _ ≤ 5184; omega) d_Store_init_108
        · have hlt : k < e9 := fg_lt (x := nI e9) rfl (by omega) hk c_13
          refine lv_aload_n hx hb d_Store_init_83 rfl (lv_at hl 1 rfl) ?_
          refine va_get (D := D) (ci := 12) (v := .ref q68_11) (C := "FilterGuard$Store") (T := F_Store) (N := 7) hx hb hts i_Store hown hK hP 0 rfl rfl 6 (by decide) (hts _ u_917) (fun _ h9 => h9) rfl d_Store_init_84 ?_
          refine lv_iload hx hb d_Store_init_87 (lv_at hl 0 rfl) ?_
          refine lv_aload_n hx hb d_Store_init_89 rfl (lv_at hl 1 rfl) ?_
          refine va_get (D := D) (ci := 12) (v := .int 1) (C := "FilterGuard$Store") (T := F_Store) (N := 7) hx hb hts i_Store hown hK hP 0 rfl rfl 0 (by decide) (hts _ u_900) (fun _ h9 => h9) rfl d_Store_init_90 ?_
          refine lv_if_ne (tgt := 100) hx hb d_Store_init_93 (by decide) (fun c_14 => ?_) (fun c_14 => absurd c_14 (by decide))
          refine lv_iconst (v := 0) hx hb d_Store_init_100 (by decide) ?_
          refine va_zast hx hb hK hP hD hS 3 2 rfl rfl (vp_in_nI hlt (by omega)) d_Store_init_101 (fun H locs hP hD hS => ?_)
          have hP : va_P D classes [(h0, .inr (12, [.int 1, .int (nI y), .int (nI v), .int (nI e9), .ref q50_9, .ref q60_10, .ref q68_11])), (q50_9, .inl (k50_9, (e9 * y), .inl (fun _ => 0))), (q60_10, .inl (k60_10, (e9 * v), .inl (fun _ => 0))), (q68_11, .inl (k68_11, e9, .inl (upd f ((nI k).toNatClampNeg) (vp_nar .boolean 0))))] H := hP
          have hD : va_D A [(h0, .inr (12, [.int 1, .int (nI y), .int (nI v), .int (nI e9), .ref q50_9, .ref q60_10, .ref q68_11])), (q50_9, .inl (k50_9, (e9 * y), .inl (fun _ => 0))), (q60_10, .inl (k60_10, (e9 * v), .inl (fun _ => 0))), (q68_11, .inl (k68_11, e9, .inl (upd f ((nI k).toNatClampNeg) (vp_nar .boolean 0))))] := hD
          obtain ⟨f_15, ef_15⟩ : ∃ g : Nat → Int32, g = upd f ((nI k).toNatClampNeg) (vp_nar .boolean 0) := ⟨_, rfl⟩
          rw [← ef_15] at hP hD
          refine lv_iinc (v := nI (k + 1)) (lv' := [(5, .int (nI (k + 1))), (0, .ref h0), (1, .int x1), (2, .int (nI y)), (3, .int (nI v)), (4, .int (nI e9))]) hx hb d_Store_init_102 hl (k := 0) rfl (nI_1 k) (by decide) rfl (fun ls hl => ?_)
          refine lv_goto (tgt := 76) hx hb d_Store_init_105 (by decide) ?_
          refine W.widen (k := 3) (n := 0 + (e9 * y) + (e9 * v) + e9) (by omega) (by omega) ?_
          exact ih (k + 1) f_15 _ _ _ (by omega) (by omega) (hP.sub (ws' := [(h0, .inr (12, [.int 1, .int (nI y), .int (nI v), .int (nI e9), .ref q50_9, .ref q60_10, .ref q68_11])), (q50_9, .inl (k50_9, (e9 * y), .inl (fun _ => 0))), (q60_10, .inl (k60_10, (e9 * v), .inl (fun _ => 0))), (q68_11, .inl (k68_11, e9, .inl f_15))]) [0, 1, 2, 3] rfl) (hD.sub (ws' := [(h0, .inr (12, [.int 1, .int (nI y), .int (nI v), .int (nI e9), .ref q50_9, .ref q60_10, .ref q68_11])), (q50_9, .inl (k50_9, (e9 * y), .inl (fun _ => 0))), (q60_10, .inl (k60_10, (e9 * v), .inl (fun _ => 0))), (q68_11, .inl (k68_11, e9, .inl f_15))]) [0, 1, 2, 3] (by decide) rfl) hS (lv_sub hl [0, 1, 2, 3, 4, 5] rfl)
    refine W.widen (k := 3) (n := 0 + (e9 * y) + (e9 * v) + e9) (by omega) (by omega) ?_
    exact loop76 (e9 + 1) 0 (fun _ => 0) _ _ _ (by omega) (by omega) (hP.sub (ws' := [(h0, .inr (12, [.int 1, .int (nI y), .int (nI v), .int (nI e9), .ref q50_9, .ref q60_10, .ref q68_11])), (q50_9, .inl (k50_9, (e9 * y), .inl (fun _ => 0))), (q60_10, .inl (k60_10, (e9 * v), .inl (fun _ => 0))), (q68_11, .inl (k68_11, e9, .inl (fun _ => 0)))]) [0, 1, 2, 3] rfl) (hD.sub (ws' := [(h0, .inr (12, [.int 1, .int (nI y), .int (nI v), .int (nI e9), .ref q50_9, .ref q60_10, .ref q68_11])), (q50_9, .inl (k50_9, (e9 * y), .inl (fun _ => 0))), (q60_10, .inl (k60_10, (e9 * v), .inl (fun _ => 0))), (q68_11, .inl (k68_11, e9, .inl (fun _ => 0)))]) [0, 1, 2, 3] (by decide) rfl) hS (lv_sub hl [0, 1, 2, 3, 4, 5] rfl)
abbrev y_G_map : MethodName := ⟨"FilterGuard", "map", "(IIII)I"⟩
theorem d_G_map_0 : decode prog_1_method_4_code 0 = .ok (.iload_n 1, 1) := by decide +kernel
theorem d_G_map_1 : decode prog_1_method_4_code 1 = .ok (.ifCond .ne 16, 3) := by decide +kernel
theorem d_G_map_17 : decode prog_1_method_4_code 17 = .ok (.iload_n 1, 1) := by decide +kernel
theorem d_G_map_18 : decode prog_1_method_4_code 18 = .ok (.iconst 1, 1) := by decide +kernel
theorem d_G_map_19 : decode prog_1_method_4_code 19 = .ok (.if_icmp .ne 18, 3) := by decide +kernel
theorem d_G_map_37 : decode prog_1_method_4_code 37 = .ok (.iconst 0, 1) := by decide +kernel
theorem d_G_map_38 : decode prog_1_method_4_code 38 = .ok (.istore 5, 2) := by decide +kernel
theorem d_G_map_40 : decode prog_1_method_4_code 40 = .ok (.iload 5, 2) := by decide +kernel
theorem d_G_map_42 : decode prog_1_method_4_code 42 = .ok (.ifCond .eq 27, 3) := by decide +kernel
theorem d_G_map_69 : decode prog_1_method_4_code 69 = .ok (.new 78, 3) := by decide +kernel
theorem o_853 : Cond.stringRef "FilterGuard" 80 "no such map can be" ∈ lw_tbl := List.mem_of_getElem? (i := 853) (by decide +kernel)
theorem d_G_map_72 : decode prog_1_method_4_code 72 = .ok (.dup, 1) := by decide +kernel
theorem d_G_map_73 : decode prog_1_method_4_code 73 = .ok (.ldc 80, 2) := by decide +kernel
theorem d_G_map_75 : decode prog_1_method_4_code 75 = .ok (.invokespecial 82, 3) := by decide +kernel
theorem d_G_map_78 : decode prog_1_method_4_code 78 = .ok (.athrow, 1) := by decide +kernel
theorem d_G_map_22 : decode prog_1_method_4_code 22 = .ok (.iload_n 2, 1) := by decide +kernel
theorem d_G_map_23 : decode prog_1_method_4_code 23 = .ok (.iconst 1, 1) := by decide +kernel
theorem d_G_map_24 : decode prog_1_method_4_code 24 = .ok (.if_icmp .lt 13, 3) := by decide +kernel
theorem d_G_map_27 : decode prog_1_method_4_code 27 = .ok (.iload_n 2, 1) := by decide +kernel
theorem d_G_map_28 : decode prog_1_method_4_code 28 = .ok (.bipush 16, 2) := by decide +kernel
theorem d_G_map_30 : decode prog_1_method_4_code 30 = .ok (.if_icmp .gt 7, 3) := by decide +kernel
theorem d_G_map_33 : decode prog_1_method_4_code 33 = .ok (.iconst 1, 1) := by decide +kernel
theorem d_G_map_34 : decode prog_1_method_4_code 34 = .ok (.goto 4, 3) := by decide +kernel
theorem d_G_map_45 : decode prog_1_method_4_code 45 = .ok (.iload_n 3, 1) := by decide +kernel
theorem d_G_map_46 : decode prog_1_method_4_code 46 = .ok (.iconst 1, 1) := by decide +kernel
theorem d_G_map_47 : decode prog_1_method_4_code 47 = .ok (.if_icmp .lt 22, 3) := by decide +kernel
theorem d_G_map_50 : decode prog_1_method_4_code 50 = .ok (.iload_n 3, 1) := by decide +kernel
theorem d_G_map_51 : decode prog_1_method_4_code 51 = .ok (.bipush 64, 2) := by decide +kernel
theorem d_G_map_53 : decode prog_1_method_4_code 53 = .ok (.if_icmp .gt 16, 3) := by decide +kernel
theorem d_G_map_56 : decode prog_1_method_4_code 56 = .ok (.iload 4, 2) := by decide +kernel
theorem d_G_map_58 : decode prog_1_method_4_code 58 = .ok (.iconst 1, 1) := by decide +kernel
theorem d_G_map_59 : decode prog_1_method_4_code 59 = .ok (.if_icmp .lt 10, 3) := by decide +kernel
theorem d_G_map_62 : decode prog_1_method_4_code 62 = .ok (.iload 4, 2) := by decide +kernel
theorem d_G_map_64 : decode prog_1_method_4_code 64 = .ok (.bipush 64, 2) := by decide +kernel
theorem d_G_map_66 : decode prog_1_method_4_code 66 = .ok (.if_icmp .le 13, 3) := by decide +kernel
theorem d_G_map_4 : decode prog_1_method_4_code 4 = .ok (.iload_n 2, 1) := by decide +kernel
theorem d_G_map_5 : decode prog_1_method_4_code 5 = .ok (.iconst 4, 1) := by decide +kernel
theorem d_G_map_6 : decode prog_1_method_4_code 6 = .ok (.if_icmp .ne 7, 3) := by decide +kernel
theorem d_G_map_13 : decode prog_1_method_4_code 13 = .ok (.iconst 0, 1) := by decide +kernel
theorem d_G_map_14 : decode prog_1_method_4_code 14 = .ok (.goto 24, 3) := by decide +kernel
theorem d_G_map_9 : decode prog_1_method_4_code 9 = .ok (.iconst 1, 1) := by decide +kernel
theorem d_G_map_10 : decode prog_1_method_4_code 10 = .ok (.goto 28, 3) := by decide +kernel
def rm_G_mapT : Room := { frames := 6, cells := 1, slots := 6, locals := 100 }
abbrev q_G_mapT (D : va_G) (h0 : Nat) (qt : Nat) (qs : Nat) (qc : Nat) (qh : Nat) (qf : Nat) (qe : Nat) (qm : Nat) (x1 : Int32) (x2 : Int32) (x3 : Int32) (x4 : Int32) (A : Nat → Prop) : Array Value → Jvm.State → Outcome → Jvm.State → Prop := fg_Qt "java/lang/IllegalArgumentException" (fun (_ : Unit) => True) (fg_B D A (fun (_ : Unit) => [(h0, .inr (0, [.ref qt, .int 0, .ref qs, .int 0, .ref qc, .ref qh, .ref qf, .ref qe, .ref qm, .int 0, .int (-1), .int 0, .int 0, .int 0]))]) (fun (_ : Unit) => [])) A
set_option maxHeartbeats 4000000 in
set_option maxRecDepth 100000 in
theorem c_G_mapT (l : Launch) (D : va_G) (h0 : Nat) (qt : Nat) (qs : Nat) (qc : Nat) (qh : Nat) (qf : Nat) (qe : Nat) (qm : Nat) (x1 : Int32) (x2 : Int32) (x3 : Int32) (x4 : Int32) (sz : Nat) (hl9 : l.stackTraces = false) (hbad : ¬ fg_mapok x1 x2 x3 x4) : fg_MetT l y_G_map (fg_w y_G_map prog_1_method_4_code 6 (some .int)) rm_G_mapT (va_Pc [.ref h0, .int x1, .int x2, .int x3, .int x4] (fg_PZ D [] [(h0, .inr (0, [.ref qt, .int 0, .ref qs, .int 0, .ref qc, .ref qh, .ref qf, .ref qe, .ref qm, .int 0, .int (-1), .int 0, .int 0, .int 0]))] sz)) (q_G_mapT D h0 qt qs qc qh qf qe qm x1 x2 x3 x4 (va_A [(h0, .inr (0, [.ref qt, .int 0, .ref qs, .int 0, .ref qc, .ref qh, .ref qf, .ref qe, .ref qm, .int 0, .int (-1), .int 0, .int 0, .int 0]))] sz)) rm_G_mapT.cells rm_G_mapT.slots (va_A [(h0, .inr (0, [.ref qt, .int 0, .ref qs, .int 0, .ref qc, .ref qh, .ref qf, .ref qe, .ref qm, .int 0, .int (-1), .int 0, .int 0, .int 0]))] sz) := by
  refine fg_enterT (fun A => q_G_mapT D h0 qt qs qc qh qf qe qm x1 x2 x3 x4 A) (by decide +kernel) (Nat.le_of_ble_eq_true rfl) ?_
  intro p e s m below meth c ls A hx hb hml hown hts hr hlocks hin hP hK hD hS hA hX hl hno hz hy
  have hl : lv_has ls 6 [(0, .ref h0), (1, .int x1), (2, .int x2), (3, .int x3), (4, .int x4)] := hl
  refine lv_iload_n hx hb d_G_map_0 rfl (lv_at hl 1 rfl) ?_
  refine lv_if_ne (tgt := 17) hx hb d_G_map_1 (by decide) (fun c_1 => ?_) (fun c_1 => ?_)
  · refine lv_iload_n hx hb d_G_map_17 rfl (lv_at hl 1 rfl) ?_
    refine lv_iconst (v := 1) hx hb d_G_map_18 (by decide) ?_
    refine lv_icmp_ne (tgt := 37) hx hb d_G_map_19 (by decide) (fun c_2 => ?_) (fun c_2 => ?_)
    · refine lv_iconst (v := 0) hx hb d_G_map_37 (by decide) ?_
      refine lv_istore (lv' := [(5, .int 0), (0, .ref h0), (1, .int x1), (2, .int x2), (3, .int x3), (4, .int x4)]) hx hb d_G_map_38 hl (by decide) rfl (fun ls hl => ?_)
      refine lv_iload hx hb d_G_map_40 (lv_at hl 0 rfl) ?_
      refine lv_if_eq (tgt := 69) hx hb d_G_map_42 (by decide) (fun c_3 => ?_) (fun c_3 => absurd (by decide) c_3)
      obtain ⟨qs4, hqs4⟩ := hy.1 _ _ _ o_853
      exact fg_throw (X := "java/lang/IllegalArgumentException") (names := fg_up) () hl9 hx hb hno hlocks hown hts hX hz hqs4 (by decide +kernel) (by decide +kernel) a_G_82 u_812 u_199 trivial (hP.sub (ws' := [(h0, .inr (0, [.ref qt, .int 0, .ref qs, .int 0, .ref qc, .ref qh, .ref qf, .ref qe, .ref qm, .int 0, .int (-1), .int 0, .int 0, .int 0]))]) [0] rfl) (hK.sub (tys' := []) [] rfl) (hD.sub (ws' := [(h0, .inr (0, [.ref qt, .int 0, .ref qs, .int 0, .ref qc, .ref qh, .ref qf, .ref qe, .ref qm, .int 0, .int (-1), .int 0, .int 0, .int 0]))]) [0] (by decide) rfl) hS (hl.1.trans hml.symm) (Nat.lt_of_lt_of_le (Nat.lt_succ_self 5) (Nat.le_of_ble_eq_true rfl)) (Nat.le_of_ble_eq_true rfl) (Nat.le_of_ble_eq_true rfl) (Nat.le_of_ble_eq_true rfl) (Nat.le_of_ble_eq_true rfl) (Nat.le_of_ble_eq_true rfl) d_G_map_69 d_G_map_72 d_G_map_73 d_G_map_75 d_G_map_78
    · refine lv_iload_n hx hb d_G_map_22 rfl (lv_at hl 2 rfl) ?_
      refine lv_iconst (v := 1) hx hb d_G_map_23 (by decide) ?_
      refine lv_icmp_lt (tgt := 37) hx hb d_G_map_24 (by decide) (fun c_5 => ?_) (fun c_5 => ?_)
      · refine lv_iconst (v := 0) hx hb d_G_map_37 (by decide) ?_
        refine lv_istore (lv' := [(5, .int 0), (0, .ref h0), (1, .int x1), (2, .int x2), (3, .int x3), (4, .int x4)]) hx hb d_G_map_38 hl (by decide) rfl (fun ls hl => ?_)
        refine lv_iload hx hb d_G_map_40 (lv_at hl 0 rfl) ?_
        refine lv_if_eq (tgt := 69) hx hb d_G_map_42 (by decide) (fun c_6 => ?_) (fun c_6 => absurd (by decide) c_6)
        obtain ⟨qs7, hqs7⟩ := hy.1 _ _ _ o_853
        exact fg_throw (X := "java/lang/IllegalArgumentException") (names := fg_up) () hl9 hx hb hno hlocks hown hts hX hz hqs7 (by decide +kernel) (by decide +kernel) a_G_82 u_812 u_199 trivial (hP.sub (ws' := [(h0, .inr (0, [.ref qt, .int 0, .ref qs, .int 0, .ref qc, .ref qh, .ref qf, .ref qe, .ref qm, .int 0, .int (-1), .int 0, .int 0, .int 0]))]) [0] rfl) (hK.sub (tys' := []) [] rfl) (hD.sub (ws' := [(h0, .inr (0, [.ref qt, .int 0, .ref qs, .int 0, .ref qc, .ref qh, .ref qf, .ref qe, .ref qm, .int 0, .int (-1), .int 0, .int 0, .int 0]))]) [0] (by decide) rfl) hS (hl.1.trans hml.symm) (Nat.lt_of_lt_of_le (Nat.lt_succ_self 5) (Nat.le_of_ble_eq_true rfl)) (Nat.le_of_ble_eq_true rfl) (Nat.le_of_ble_eq_true rfl) (Nat.le_of_ble_eq_true rfl) (Nat.le_of_ble_eq_true rfl) (Nat.le_of_ble_eq_true rfl) d_G_map_69 d_G_map_72 d_G_map_73 d_G_map_75 d_G_map_78
      · refine lv_iload_n hx hb d_G_map_27 rfl (lv_at hl 2 rfl) ?_
        refine lv_bipush (v := 16) hx hb d_G_map_28 (by decide) ?_
        refine lv_icmp_gt (tgt := 37) hx hb d_G_map_30 (by decide) (fun c_8 => ?_) (fun c_8 => ?_)
        · refine lv_iconst (v := 0) hx hb d_G_map_37 (by decide) ?_
          refine lv_istore (lv' := [(5, .int 0), (0, .ref h0), (1, .int x1), (2, .int x2), (3, .int x3), (4, .int x4)]) hx hb d_G_map_38 hl (by decide) rfl (fun ls hl => ?_)
          refine lv_iload hx hb d_G_map_40 (lv_at hl 0 rfl) ?_
          refine lv_if_eq (tgt := 69) hx hb d_G_map_42 (by decide) (fun c_9 => ?_) (fun c_9 => absurd (by decide) c_9)
          obtain ⟨qs10, hqs10⟩ := hy.1 _ _ _ o_853
          exact fg_throw (X := "java/lang/IllegalArgumentException") (names := fg_up) () hl9 hx hb hno hlocks hown hts hX hz hqs10 (by decide +kernel) (by decide +kernel) a_G_82 u_812 u_199 trivial (hP.sub (ws' := [(h0, .inr (0, [.ref qt, .int 0, .ref qs, .int 0, .ref qc, .ref qh, .ref qf, .ref qe, .ref qm, .int 0, .int (-1), .int 0, .int 0, .int 0]))]) [0] rfl) (hK.sub (tys' := []) [] rfl) (hD.sub (ws' := [(h0, .inr (0, [.ref qt, .int 0, .ref qs, .int 0, .ref qc, .ref qh, .ref qf, .ref qe, .ref qm, .int 0, .int (-1), .int 0, .int 0, .int 0]))]) [0] (by decide) rfl) hS (hl.1.trans hml.symm) (Nat.lt_of_lt_of_le (Nat.lt_succ_self 5) (Nat.le_of_ble_eq_true rfl)) (Nat.le_of_ble_eq_true rfl) (Nat.le_of_ble_eq_true rfl) (Nat.le_of_ble_eq_true rfl) (Nat.le_of_ble_eq_true rfl) (Nat.le_of_ble_eq_true rfl) d_G_map_69 d_G_map_72 d_G_map_73 d_G_map_75 d_G_map_78
        · refine lv_iconst (v := 1) hx hb d_G_map_33 (by decide) ?_
          refine lv_goto (tgt := 38) hx hb d_G_map_34 (by decide) ?_
          refine lv_istore (lv' := [(5, .int 1), (0, .ref h0), (1, .int x1), (2, .int x2), (3, .int x3), (4, .int x4)]) hx hb d_G_map_38 hl (by decide) rfl (fun ls hl => ?_)
          refine lv_iload hx hb d_G_map_40 (lv_at hl 0 rfl) ?_
          refine lv_if_eq (tgt := 69) hx hb d_G_map_42 (by decide) (fun c_11 => absurd c_11 (by decide)) (fun c_11 => ?_)
          refine lv_iload_n hx hb d_G_map_45 rfl (lv_at hl 4 rfl) ?_
          refine lv_iconst (v := 1) hx hb d_G_map_46 (by decide) ?_
          refine lv_icmp_lt (tgt := 69) hx hb d_G_map_47 (by decide) (fun c_12 => ?_) (fun c_12 => ?_)
          · obtain ⟨qs13, hqs13⟩ := hy.1 _ _ _ o_853
            exact fg_throw (X := "java/lang/IllegalArgumentException") (names := fg_up) () hl9 hx hb hno hlocks hown hts hX hz hqs13 (by decide +kernel) (by decide +kernel) a_G_82 u_812 u_199 trivial (hP.sub (ws' := [(h0, .inr (0, [.ref qt, .int 0, .ref qs, .int 0, .ref qc, .ref qh, .ref qf, .ref qe, .ref qm, .int 0, .int (-1), .int 0, .int 0, .int 0]))]) [0] rfl) (hK.sub (tys' := []) [] rfl) (hD.sub (ws' := [(h0, .inr (0, [.ref qt, .int 0, .ref qs, .int 0, .ref qc, .ref qh, .ref qf, .ref qe, .ref qm, .int 0, .int (-1), .int 0, .int 0, .int 0]))]) [0] (by decide) rfl) hS (hl.1.trans hml.symm) (Nat.lt_of_lt_of_le (Nat.lt_succ_self 5) (Nat.le_of_ble_eq_true rfl)) (Nat.le_of_ble_eq_true rfl) (Nat.le_of_ble_eq_true rfl) (Nat.le_of_ble_eq_true rfl) (Nat.le_of_ble_eq_true rfl) (Nat.le_of_ble_eq_true rfl) d_G_map_69 d_G_map_72 d_G_map_73 d_G_map_75 d_G_map_78
          · refine lv_iload_n hx hb d_G_map_50 rfl (lv_at hl 4 rfl) ?_
            refine lv_bipush (v := 64) hx hb d_G_map_51 (by decide) ?_
            refine lv_icmp_gt (tgt := 69) hx hb d_G_map_53 (by decide) (fun c_14 => ?_) (fun c_14 => ?_)
            · obtain ⟨qs15, hqs15⟩ := hy.1 _ _ _ o_853
              exact fg_throw (X := "java/lang/IllegalArgumentException") (names := fg_up) () hl9 hx hb hno hlocks hown hts hX hz hqs15 (by decide +kernel) (by decide +kernel) a_G_82 u_812 u_199 trivial (hP.sub (ws' := [(h0, .inr (0, [.ref qt, .int 0, .ref qs, .int 0, .ref qc, .ref qh, .ref qf, .ref qe, .ref qm, .int 0, .int (-1), .int 0, .int 0, .int 0]))]) [0] rfl) (hK.sub (tys' := []) [] rfl) (hD.sub (ws' := [(h0, .inr (0, [.ref qt, .int 0, .ref qs, .int 0, .ref qc, .ref qh, .ref qf, .ref qe, .ref qm, .int 0, .int (-1), .int 0, .int 0, .int 0]))]) [0] (by decide) rfl) hS (hl.1.trans hml.symm) (Nat.lt_of_lt_of_le (Nat.lt_succ_self 5) (Nat.le_of_ble_eq_true rfl)) (Nat.le_of_ble_eq_true rfl) (Nat.le_of_ble_eq_true rfl) (Nat.le_of_ble_eq_true rfl) (Nat.le_of_ble_eq_true rfl) (Nat.le_of_ble_eq_true rfl) d_G_map_69 d_G_map_72 d_G_map_73 d_G_map_75 d_G_map_78
            · refine lv_iload hx hb d_G_map_56 (lv_at hl 5 rfl) ?_
              refine lv_iconst (v := 1) hx hb d_G_map_58 (by decide) ?_
              refine lv_icmp_lt (tgt := 69) hx hb d_G_map_59 (by decide) (fun c_16 => ?_) (fun c_16 => ?_)
              · obtain ⟨qs17, hqs17⟩ := hy.1 _ _ _ o_853
                exact fg_throw (X := "java/lang/IllegalArgumentException") (names := fg_up) () hl9 hx hb hno hlocks hown hts hX hz hqs17 (by decide +kernel) (by decide +kernel) a_G_82 u_812 u_199 trivial (hP.sub (ws' := [(h0, .inr (0, [.ref qt, .int 0, .ref qs, .int 0, .ref qc, .ref qh, .ref qf, .ref qe, .ref qm, .int 0, .int (-1), .int 0, .int 0, .int 0]))]) [0] rfl) (hK.sub (tys' := []) [] rfl) (hD.sub (ws' := [(h0, .inr (0, [.ref qt, .int 0, .ref qs, .int 0, .ref qc, .ref qh, .ref qf, .ref qe, .ref qm, .int 0, .int (-1), .int 0, .int 0, .int 0]))]) [0] (by decide) rfl) hS (hl.1.trans hml.symm) (Nat.lt_of_lt_of_le (Nat.lt_succ_self 5) (Nat.le_of_ble_eq_true rfl)) (Nat.le_of_ble_eq_true rfl) (Nat.le_of_ble_eq_true rfl) (Nat.le_of_ble_eq_true rfl) (Nat.le_of_ble_eq_true rfl) (Nat.le_of_ble_eq_true rfl) d_G_map_69 d_G_map_72 d_G_map_73 d_G_map_75 d_G_map_78
              · refine lv_iload hx hb d_G_map_62 (lv_at hl 5 rfl) ?_
                refine lv_bipush (v := 64) hx hb d_G_map_64 (by decide) ?_
                refine lv_icmp_le (tgt := 79) hx hb d_G_map_66 (by decide) (fun c_18 => ?_) (fun c_18 => ?_)
                · exfalso
                  unfold fg_mapok at hbad
                  simp only [Int32.le_iff_toInt_le, Int32.lt_iff_toInt_lt, ← Int32.toInt_inj, fg_t0, fg_t1, fg_t4, fg_t16, fg_t64] at hbad c_1 c_2 c_5 c_8 c_12 c_14 c_16 c_18
                  omega
                · obtain ⟨qs19, hqs19⟩ := hy.1 _ _ _ o_853
                  exact fg_throw (X := "java/lang/IllegalArgumentException") (names := fg_up) () hl9 hx hb hno hlocks hown hts hX hz hqs19 (by decide +kernel) (by decide +kernel) a_G_82 u_812 u_199 trivial (hP.sub (ws' := [(h0, .inr (0, [.ref qt, .int 0, .ref qs, .int 0, .ref qc, .ref qh, .ref qf, .ref qe, .ref qm, .int 0, .int (-1), .int 0, .int 0, .int 0]))]) [0] rfl) (hK.sub (tys' := []) [] rfl) (hD.sub (ws' := [(h0, .inr (0, [.ref qt, .int 0, .ref qs, .int 0, .ref qc, .ref qh, .ref qf, .ref qe, .ref qm, .int 0, .int (-1), .int 0, .int 0, .int 0]))]) [0] (by decide) rfl) hS (hl.1.trans hml.symm) (Nat.lt_of_lt_of_le (Nat.lt_succ_self 5) (Nat.le_of_ble_eq_true rfl)) (Nat.le_of_ble_eq_true rfl) (Nat.le_of_ble_eq_true rfl) (Nat.le_of_ble_eq_true rfl) (Nat.le_of_ble_eq_true rfl) (Nat.le_of_ble_eq_true rfl) d_G_map_69 d_G_map_72 d_G_map_73 d_G_map_75 d_G_map_78
  · refine lv_iload_n hx hb d_G_map_4 rfl (lv_at hl 2 rfl) ?_
    refine lv_iconst (v := 4) hx hb d_G_map_5 (by decide) ?_
    refine lv_icmp_ne (tgt := 13) hx hb d_G_map_6 (by decide) (fun c_20 => ?_) (fun c_20 => ?_)
    · refine lv_iconst (v := 0) hx hb d_G_map_13 (by decide) ?_
      refine lv_goto (tgt := 38) hx hb d_G_map_14 (by decide) ?_
      refine lv_istore (lv' := [(5, .int 0), (0, .ref h0), (1, .int x1), (2, .int x2), (3, .int x3), (4, .int x4)]) hx hb d_G_map_38 hl (by decide) rfl (fun ls hl => ?_)
      refine lv_iload hx hb d_G_map_40 (lv_at hl 0 rfl) ?_
      refine lv_if_eq (tgt := 69) hx hb d_G_map_42 (by decide) (fun c_21 => ?_) (fun c_21 => absurd (by decide) c_21)
      obtain ⟨qs22, hqs22⟩ := hy.1 _ _ _ o_853
      exact fg_throw (X := "java/lang/IllegalArgumentException") (names := fg_up) () hl9 hx hb hno hlocks hown hts hX hz hqs22 (by decide +kernel) (by decide +kernel) a_G_82 u_812 u_199 trivial (hP.sub (ws' := [(h0, .inr (0, [.ref qt, .int 0, .ref qs, .int 0, .ref qc, .ref qh, .ref qf, .ref qe, .ref qm, .int 0, .int (-1), .int 0, .int 0, .int 0]))]) [0] rfl) (hK.sub (tys' := []) [] rfl) (hD.sub (ws' := [(h0, .inr (0, [.ref qt, .int 0, .ref qs, .int 0, .ref qc, .ref qh, .ref qf, .ref qe, .ref qm, .int 0, .int (-1), .int 0, .int 0, .int 0]))]) [0] (by decide) rfl) hS (hl.1.trans hml.symm) (Nat.lt_of_lt_of_le (Nat.lt_succ_self 5) (Nat.le_of_ble_eq_true rfl)) (Nat.le_of_ble_eq_true rfl) (Nat.le_of_ble_eq_true rfl) (Nat.le_of_ble_eq_true rfl) (Nat.le_of_ble_eq_true rfl) (Nat.le_of_ble_eq_true rfl) d_G_map_69 d_G_map_72 d_G_map_73 d_G_map_75 d_G_map_78
    · refine lv_iconst (v := 1) hx hb d_G_map_9 (by decide) ?_
      refine lv_goto (tgt := 38) hx hb d_G_map_10 (by decide) ?_
      refine lv_istore (lv' := [(5, .int 1), (0, .ref h0), (1, .int x1), (2, .int x2), (3, .int x3), (4, .int x4)]) hx hb d_G_map_38 hl (by decide) rfl (fun ls hl => ?_)
      refine lv_iload hx hb d_G_map_40 (lv_at hl 0 rfl) ?_
      refine lv_if_eq (tgt := 69) hx hb d_G_map_42 (by decide) (fun c_23 => absurd c_23 (by decide)) (fun c_23 => ?_)
      refine lv_iload_n hx hb d_G_map_45 rfl (lv_at hl 4 rfl) ?_
      refine lv_iconst (v := 1) hx hb d_G_map_46 (by decide) ?_
      refine lv_icmp_lt (tgt := 69) hx hb d_G_map_47 (by decide) (fun c_24 => ?_) (fun c_24 => ?_)
      · obtain ⟨qs25, hqs25⟩ := hy.1 _ _ _ o_853
        exact fg_throw (X := "java/lang/IllegalArgumentException") (names := fg_up) () hl9 hx hb hno hlocks hown hts hX hz hqs25 (by decide +kernel) (by decide +kernel) a_G_82 u_812 u_199 trivial (hP.sub (ws' := [(h0, .inr (0, [.ref qt, .int 0, .ref qs, .int 0, .ref qc, .ref qh, .ref qf, .ref qe, .ref qm, .int 0, .int (-1), .int 0, .int 0, .int 0]))]) [0] rfl) (hK.sub (tys' := []) [] rfl) (hD.sub (ws' := [(h0, .inr (0, [.ref qt, .int 0, .ref qs, .int 0, .ref qc, .ref qh, .ref qf, .ref qe, .ref qm, .int 0, .int (-1), .int 0, .int 0, .int 0]))]) [0] (by decide) rfl) hS (hl.1.trans hml.symm) (Nat.lt_of_lt_of_le (Nat.lt_succ_self 5) (Nat.le_of_ble_eq_true rfl)) (Nat.le_of_ble_eq_true rfl) (Nat.le_of_ble_eq_true rfl) (Nat.le_of_ble_eq_true rfl) (Nat.le_of_ble_eq_true rfl) (Nat.le_of_ble_eq_true rfl) d_G_map_69 d_G_map_72 d_G_map_73 d_G_map_75 d_G_map_78
      · refine lv_iload_n hx hb d_G_map_50 rfl (lv_at hl 4 rfl) ?_
        refine lv_bipush (v := 64) hx hb d_G_map_51 (by decide) ?_
        refine lv_icmp_gt (tgt := 69) hx hb d_G_map_53 (by decide) (fun c_26 => ?_) (fun c_26 => ?_)
        · obtain ⟨qs27, hqs27⟩ := hy.1 _ _ _ o_853
          exact fg_throw (X := "java/lang/IllegalArgumentException") (names := fg_up) () hl9 hx hb hno hlocks hown hts hX hz hqs27 (by decide +kernel) (by decide +kernel) a_G_82 u_812 u_199 trivial (hP.sub (ws' := [(h0, .inr (0, [.ref qt, .int 0, .ref qs, .int 0, .ref qc, .ref qh, .ref qf, .ref qe, .ref qm, .int 0, .int (-1), .int 0, .int 0, .int 0]))]) [0] rfl) (hK.sub (tys' := []) [] rfl) (hD.sub (ws' := [(h0, .inr (0, [.ref qt, .int 0, .ref qs, .int 0, .ref qc, .ref qh, .ref qf, .ref qe, .ref qm, .int 0, .int (-1), .int 0, .int 0, .int 0]))]) [0] (by decide) rfl) hS (hl.1.trans hml.symm) (Nat.lt_of_lt_of_le (Nat.lt_succ_self 5) (Nat.le_of_ble_eq_true rfl)) (Nat.le_of_ble_eq_true rfl) (Nat.le_of_ble_eq_true rfl) (Nat.le_of_ble_eq_true rfl) (Nat.le_of_ble_eq_true rfl) (Nat.le_of_ble_eq_true rfl) d_G_map_69 d_G_map_72 d_G_map_73 d_G_map_75 d_G_map_78
        · refine lv_iload hx hb d_G_map_56 (lv_at hl 5 rfl) ?_
          refine lv_iconst (v := 1) hx hb d_G_map_58 (by decide) ?_
          refine lv_icmp_lt (tgt := 69) hx hb d_G_map_59 (by decide) (fun c_28 => ?_) (fun c_28 => ?_)
          · obtain ⟨qs29, hqs29⟩ := hy.1 _ _ _ o_853
            exact fg_throw (X := "java/lang/IllegalArgumentException") (names := fg_up) () hl9 hx hb hno hlocks hown hts hX hz hqs29 (by decide +kernel) (by decide +kernel) a_G_82 u_812 u_199 trivial (hP.sub (ws' := [(h0, .inr (0, [.ref qt, .int 0, .ref qs, .int 0, .ref qc, .ref qh, .ref qf, .ref qe, .ref qm, .int 0, .int (-1), .int 0, .int 0, .int 0]))]) [0] rfl) (hK.sub (tys' := []) [] rfl) (hD.sub (ws' := [(h0, .inr (0, [.ref qt, .int 0, .ref qs, .int 0, .ref qc, .ref qh, .ref qf, .ref qe, .ref qm, .int 0, .int (-1), .int 0, .int 0, .int 0]))]) [0] (by decide) rfl) hS (hl.1.trans hml.symm) (Nat.lt_of_lt_of_le (Nat.lt_succ_self 5) (Nat.le_of_ble_eq_true rfl)) (Nat.le_of_ble_eq_true rfl) (Nat.le_of_ble_eq_true rfl) (Nat.le_of_ble_eq_true rfl) (Nat.le_of_ble_eq_true rfl) (Nat.le_of_ble_eq_true rfl) d_G_map_69 d_G_map_72 d_G_map_73 d_G_map_75 d_G_map_78
          · refine lv_iload hx hb d_G_map_62 (lv_at hl 5 rfl) ?_
            refine lv_bipush (v := 64) hx hb d_G_map_64 (by decide) ?_
            refine lv_icmp_le (tgt := 79) hx hb d_G_map_66 (by decide) (fun c_30 => ?_) (fun c_30 => ?_)
            · exfalso
              unfold fg_mapok at hbad
              simp only [Int32.le_iff_toInt_le, Int32.lt_iff_toInt_lt, ← Int32.toInt_inj, fg_t0, fg_t1, fg_t4, fg_t16, fg_t64] at hbad c_1 c_20 c_24 c_26 c_28 c_30
              omega
            · obtain ⟨qs31, hqs31⟩ := hy.1 _ _ _ o_853
              exact fg_throw (X := "java/lang/IllegalArgumentException") (names := fg_up) () hl9 hx hb hno hlocks hown hts hX hz hqs31 (by decide +kernel) (by decide +kernel) a_G_82 u_812 u_199 trivial (hP.sub (ws' := [(h0, .inr (0, [.ref qt, .int 0, .ref qs, .int 0, .ref qc, .ref qh, .ref qf, .ref qe, .ref qm, .int 0, .int (-1), .int 0, .int 0, .int 0]))]) [0] rfl) (hK.sub (tys' := []) [] rfl) (hD.sub (ws' := [(h0, .inr (0, [.ref qt, .int 0, .ref qs, .int 0, .ref qc, .ref qh, .ref qf, .ref qe, .ref qm, .int 0, .int (-1), .int 0, .int 0, .int 0]))]) [0] (by decide) rfl) hS (hl.1.trans hml.symm) (Nat.lt_of_lt_of_le (Nat.lt_succ_self 5) (Nat.le_of_ble_eq_true rfl)) (Nat.le_of_ble_eq_true rfl) (Nat.le_of_ble_eq_true rfl) (Nat.le_of_ble_eq_true rfl) (Nat.le_of_ble_eq_true rfl) (Nat.le_of_ble_eq_true rfl) d_G_map_69 d_G_map_72 d_G_map_73 d_G_map_75 d_G_map_78
theorem d_G_map_79 : decode prog_1_method_4_code 79 = .ok (.aload_n 0, 1) := by decide +kernel
theorem d_G_map_80 : decode prog_1_method_4_code 80 = .ok (.getfield 85, 3) := by decide +kernel
theorem d_G_map_83 : decode prog_1_method_4_code 83 = .ok (.iconst 4, 1) := by decide +kernel
theorem d_G_map_84 : decode prog_1_method_4_code 84 = .ok (.if_icmp .ge 10, 3) := by decide +kernel
theorem d_G_map_87 : decode prog_1_method_4_code 87 = .ok (.aload_n 0, 1) := by decide +kernel
theorem d_G_map_88 : decode prog_1_method_4_code 88 = .ok (.getfield 88, 3) := by decide +kernel
theorem u_706 : Cond.fieldLink "FilterGuard" 88 "FilterGuard" "wasAccepted" "Z" ∈ fg_g := fg_in (List.mem_of_getElem? (i := 706) (by decide +kernel)) rfl
theorem d_G_map_91 : decode prog_1_method_4_code 91 = .ok (.ifCond .eq 13, 3) := by decide +kernel
theorem d_G_map_104 : decode prog_1_method_4_code 104 = .ok (.aload_n 0, 1) := by decide +kernel
theorem d_G_map_105 : decode prog_1_method_4_code 105 = .ok (.getfield 15, 3) := by decide +kernel
theorem d_G_map_108 : decode prog_1_method_4_code 108 = .ok (.aload_n 0, 1) := by decide +kernel
theorem d_G_map_109 : decode prog_1_method_4_code 109 = .ok (.getfield 85, 3) := by decide +kernel
theorem d_G_map_112 : decode prog_1_method_4_code 112 = .ok (.new 13, 3) := by decide +kernel
theorem u_895 : Cond.instantiable "FilterGuard$Store" 7 ∈ fg_g := fg_in (List.mem_of_getElem? (i := 895) (by decide +kernel)) rfl
theorem u_201 : Cond.initialized "FilterGuard$Store" ∈ fg_g := fg_in (List.mem_of_getElem? (i := 201) (by decide +kernel)) rfl
theorem d_G_map_115 : decode prog_1_method_4_code 115 = .ok (.dup, 1) := by decide +kernel
theorem d_G_map_116 : decode prog_1_method_4_code 116 = .ok (.iload_n 1, 1) := by decide +kernel
theorem d_G_map_117 : decode prog_1_method_4_code 117 = .ok (.iload_n 2, 1) := by decide +kernel
theorem d_G_map_118 : decode prog_1_method_4_code 118 = .ok (.iload_n 3, 1) := by decide +kernel
theorem d_G_map_119 : decode prog_1_method_4_code 119 = .ok (.iload 4, 2) := by decide +kernel
theorem d_G_map_121 : decode prog_1_method_4_code 121 = .ok (.invokespecial 97, 3) := by decide +kernel
theorem u_896 : Cond.methodLink "FilterGuard" 97 ⟨"FilterGuard$Store", "<init>", "(IIII)V"⟩ ∈ fg_g := fg_in (List.mem_of_getElem? (i := 896) (by decide +kernel)) rfl
theorem u_898 : Cond.code ⟨"FilterGuard$Store", "<init>", "(IIII)V"⟩ prog_12_method_1_code 6 none ∈ fg_g := fg_in (List.mem_of_getElem? (i := 898) (by decide +kernel)) rfl
theorem u_897 : Cond.instanceMethod ⟨"FilterGuard$Store", "<init>", "(IIII)V"⟩ ∈ fg_g := fg_in (List.mem_of_getElem? (i := 897) (by decide +kernel)) rfl
theorem d_G_map_124 : decode prog_1_method_4_code 124 = .ok (.aastore, 1) := by decide +kernel
theorem d_G_map_125 : decode prog_1_method_4_code 125 = .ok (.aload_n 0, 1) := by decide +kernel
theorem d_G_map_126 : decode prog_1_method_4_code 126 = .ok (.dup, 1) := by decide +kernel
theorem d_G_map_127 : decode prog_1_method_4_code 127 = .ok (.getfield 85, 3) := by decide +kernel
theorem d_G_map_130 : decode prog_1_method_4_code 130 = .ok (.iconst 1, 1) := by decide +kernel
theorem d_G_map_131 : decode prog_1_method_4_code 131 = .ok (.iadd, 1) := by decide +kernel
theorem d_G_map_132 : decode prog_1_method_4_code 132 = .ok (.putfield 85, 3) := by decide +kernel
theorem d_G_map_135 : decode prog_1_method_4_code 135 = .ok (.aload_n 0, 1) := by decide +kernel
theorem d_G_map_136 : decode prog_1_method_4_code 136 = .ok (.getfield 85, 3) := by decide +kernel
theorem d_G_map_139 : decode prog_1_method_4_code 139 = .ok (.iconst 1, 1) := by decide +kernel
theorem d_G_map_140 : decode prog_1_method_4_code 140 = .ok (.isub, 1) := by decide +kernel
theorem d_G_map_141 : decode prog_1_method_4_code 141 = .ok (.ireturn, 1) := by decide +kernel
def rm_G_mapO : Room := { frames := 2, cells := 4, slots := 5191, locals := 60 }
abbrev q_G_mapO (D : va_G) (h0 : Nat) (qt : Nat) (qs : Nat) (qc : Nat) (qh : Nat) (qf : Nat) (qe : Nat) (qm : Nat) (ks : ClassId) (fs0 : (Nat → Option Nat)) (x1 : Int32) (x2 : Int32) (x3 : Int32) (x4 : Int32) (A : Nat → Prop) : Array Value → Jvm.State → Outcome → Jvm.State → Prop := va_Qi (fun (r : Int32) (_ : Unit) => r = 0) (fg_B D A (fun (_ : Unit) => []) (fun (_ : Unit) => [])) A
set_option maxHeartbeats 4000000 in
set_option maxRecDepth 100000 in
theorem c_G_mapO (l : Launch) (D : va_G) (h0 : Nat) (qt : Nat) (qs : Nat) (qc : Nat) (qh : Nat) (qf : Nat) (qe : Nat) (qm : Nat) (ks : ClassId) (fs0 : (Nat → Option Nat)) (x1 : Int32) (x2 : Int32) (x3 : Int32) (x4 : Int32) (sz : Nat) (hok : fg_mapok x1 x2 x3 x4) : Met l y_G_map (fg_w y_G_map prog_1_method_4_code 6 (some .int)) rm_G_mapO (va_Pc [.ref h0, .int x1, .int x2, .int x3, .int x4] (fg_P D [(ks, (.object "FilterGuard$Store"))] [(h0, .inr (0, [.ref qt, .int 0, .ref qs, .int 0, .ref qc, .ref qh, .ref qf, .ref qe, .ref qm, .int 0, .int (-1), .int 0, .int 0, .int 0])), (qs, .inl (ks, 4, .inr (.inr (.inr (.inr fs0)))))] sz)) (q_G_mapO D h0 qt qs qc qh qf qe qm ks fs0 x1 x2 x3 x4 (va_A [(h0, .inr (0, [.ref qt, .int 0, .ref qs, .int 0, .ref qc, .ref qh, .ref qf, .ref qe, .ref qm, .int 0, .int (-1), .int 0, .int 0, .int 0])), (qs, .inl (ks, 4, .inr (.inr (.inr (.inr fs0)))))] sz)) rm_G_mapO.cells rm_G_mapO.slots (va_A [(h0, .inr (0, [.ref qt, .int 0, .ref qs, .int 0, .ref qc, .ref qh, .ref qf, .ref qe, .ref qm, .int 0, .int (-1), .int 0, .int 0, .int 0])), (qs, .inl (ks, 4, .inr (.inr (.inr (.inr fs0)))))] sz) := by
  refine fg_enter (fun A => q_G_mapO D h0 qt qs qc qh qf qe qm ks fs0 x1 x2 x3 x4 A) (by decide +kernel) (Nat.le_of_ble_eq_true rfl) ?_
  intro p e s m below meth c ls A hx hb hml hown hts hr hlocks hin hP hK hD hS hA hX hl
  have hl : lv_has ls 6 [(0, .ref h0), (1, .int x1), (2, .int x2), (3, .int x3), (4, .int x4)] := hl
  refine lv_iload_n hx hb d_G_map_0 rfl (lv_at hl 1 rfl) ?_
  refine lv_if_ne (tgt := 17) hx hb d_G_map_1 (by decide) (fun c_1 => ?_) (fun c_1 => ?_)
  · refine lv_iload_n hx hb d_G_map_17 rfl (lv_at hl 1 rfl) ?_
    refine lv_iconst (v := 1) hx hb d_G_map_18 (by decide) ?_
    refine lv_icmp_ne (tgt := 37) hx hb d_G_map_19 (by decide) (fun c_2 => ?_) (fun c_2 => ?_)
    · refine lv_iconst (v := 0) hx hb d_G_map_37 (by decide) ?_
      refine lv_istore (lv' := [(5, .int 0), (0, .ref h0), (1, .int x1), (2, .int x2), (3, .int x3), (4, .int x4)]) hx hb d_G_map_38 hl (by decide) rfl (fun ls hl => ?_)
      refine lv_iload hx hb d_G_map_40 (lv_at hl 0 rfl) ?_
      refine lv_if_eq (tgt := 69) hx hb d_G_map_42 (by decide) (fun c_3 => ?_) (fun c_3 => absurd (by decide) c_3)
      exfalso
      unfold fg_mapok at hok
      simp only [Int32.le_iff_toInt_le, Int32.lt_iff_toInt_lt, ← Int32.toInt_inj, fg_t0, fg_t1, fg_t4, fg_t16, fg_t64] at hok c_1 c_2
      omega
    · refine lv_iload_n hx hb d_G_map_22 rfl (lv_at hl 2 rfl) ?_
      refine lv_iconst (v := 1) hx hb d_G_map_23 (by decide) ?_
      refine lv_icmp_lt (tgt := 37) hx hb d_G_map_24 (by decide) (fun c_4 => ?_) (fun c_4 => ?_)
      · refine lv_iconst (v := 0) hx hb d_G_map_37 (by decide) ?_
        refine lv_istore (lv' := [(5, .int 0), (0, .ref h0), (1, .int x1), (2, .int x2), (3, .int x3), (4, .int x4)]) hx hb d_G_map_38 hl (by decide) rfl (fun ls hl => ?_)
        refine lv_iload hx hb d_G_map_40 (lv_at hl 0 rfl) ?_
        refine lv_if_eq (tgt := 69) hx hb d_G_map_42 (by decide) (fun c_5 => ?_) (fun c_5 => absurd (by decide) c_5)
        exfalso
        unfold fg_mapok at hok
        simp only [Int32.le_iff_toInt_le, Int32.lt_iff_toInt_lt, ← Int32.toInt_inj, fg_t0, fg_t1, fg_t4, fg_t16, fg_t64] at hok c_1 c_2 c_4
        omega
      · refine lv_iload_n hx hb d_G_map_27 rfl (lv_at hl 2 rfl) ?_
        refine lv_bipush (v := 16) hx hb d_G_map_28 (by decide) ?_
        refine lv_icmp_gt (tgt := 37) hx hb d_G_map_30 (by decide) (fun c_6 => ?_) (fun c_6 => ?_)
        · refine lv_iconst (v := 0) hx hb d_G_map_37 (by decide) ?_
          refine lv_istore (lv' := [(5, .int 0), (0, .ref h0), (1, .int x1), (2, .int x2), (3, .int x3), (4, .int x4)]) hx hb d_G_map_38 hl (by decide) rfl (fun ls hl => ?_)
          refine lv_iload hx hb d_G_map_40 (lv_at hl 0 rfl) ?_
          refine lv_if_eq (tgt := 69) hx hb d_G_map_42 (by decide) (fun c_7 => ?_) (fun c_7 => absurd (by decide) c_7)
          exfalso
          unfold fg_mapok at hok
          simp only [Int32.le_iff_toInt_le, Int32.lt_iff_toInt_lt, ← Int32.toInt_inj, fg_t0, fg_t1, fg_t4, fg_t16, fg_t64] at hok c_1 c_2 c_4 c_6
          omega
        · refine lv_iconst (v := 1) hx hb d_G_map_33 (by decide) ?_
          refine lv_goto (tgt := 38) hx hb d_G_map_34 (by decide) ?_
          refine lv_istore (lv' := [(5, .int 1), (0, .ref h0), (1, .int x1), (2, .int x2), (3, .int x3), (4, .int x4)]) hx hb d_G_map_38 hl (by decide) rfl (fun ls hl => ?_)
          refine lv_iload hx hb d_G_map_40 (lv_at hl 0 rfl) ?_
          refine lv_if_eq (tgt := 69) hx hb d_G_map_42 (by decide) (fun c_8 => absurd c_8 (by decide)) (fun c_8 => ?_)
          refine lv_iload_n hx hb d_G_map_45 rfl (lv_at hl 4 rfl) ?_
          refine lv_iconst (v := 1) hx hb d_G_map_46 (by decide) ?_
          refine lv_icmp_lt (tgt := 69) hx hb d_G_map_47 (by decide) (fun c_9 => ?_) (fun c_9 => ?_)
          · exfalso
            unfold fg_mapok at hok
            simp only [Int32.le_iff_toInt_le, Int32.lt_iff_toInt_lt, ← Int32.toInt_inj, fg_t0, fg_t1, fg_t4, fg_t16, fg_t64] at hok c_1 c_2 c_4 c_6 c_9
            omega
          · refine lv_iload_n hx hb d_G_map_50 rfl (lv_at hl 4 rfl) ?_
            refine lv_bipush (v := 64) hx hb d_G_map_51 (by decide) ?_
            refine lv_icmp_gt (tgt := 69) hx hb d_G_map_53 (by decide) (fun c_10 => ?_) (fun c_10 => ?_)
            · exfalso
              unfold fg_mapok at hok
              simp only [Int32.le_iff_toInt_le, Int32.lt_iff_toInt_lt, ← Int32.toInt_inj, fg_t0, fg_t1, fg_t4, fg_t16, fg_t64] at hok c_1 c_2 c_4 c_6 c_9 c_10
              omega
            · refine lv_iload hx hb d_G_map_56 (lv_at hl 5 rfl) ?_
              refine lv_iconst (v := 1) hx hb d_G_map_58 (by decide) ?_
              refine lv_icmp_lt (tgt := 69) hx hb d_G_map_59 (by decide) (fun c_11 => ?_) (fun c_11 => ?_)
              · exfalso
                unfold fg_mapok at hok
                simp only [Int32.le_iff_toInt_le, Int32.lt_iff_toInt_lt, ← Int32.toInt_inj, fg_t0, fg_t1, fg_t4, fg_t16, fg_t64] at hok c_1 c_2 c_4 c_6 c_9 c_10 c_11
                omega
              · refine lv_iload hx hb d_G_map_62 (lv_at hl 5 rfl) ?_
                refine lv_bipush (v := 64) hx hb d_G_map_64 (by decide) ?_
                refine lv_icmp_le (tgt := 79) hx hb d_G_map_66 (by decide) (fun c_12 => ?_) (fun c_12 => ?_)
                · refine lv_aload_n hx hb d_G_map_79 rfl (lv_at hl 1 rfl) ?_
                  refine va_get (D := D) (ci := 0) (v := .int 0) (C := "FilterGuard") (T := F_G) (N := 14) hx hb hts i_G hown hK hP 0 rfl rfl 3 (by decide) (hts _ u_696) (fun _ h9 => h9) rfl d_G_map_80 ?_
                  refine lv_iconst (v := 4) hx hb d_G_map_83 (by decide) ?_
                  refine lv_icmp_ge (tgt := 94) hx hb d_G_map_84 (by decide) (fun c_13 => absurd c_13 (by decide)) (fun c_13 => ?_)
                  refine lv_aload_n hx hb d_G_map_87 rfl (lv_at hl 1 rfl) ?_
                  refine va_get (D := D) (ci := 0) (v := .int 0) (C := "FilterGuard") (T := F_G) (N := 14) hx hb hts i_G hown hK hP 0 rfl rfl 13 (by decide) (hts _ u_706) (fun _ h9 => h9) rfl d_G_map_88 ?_
                  refine lv_if_eq (tgt := 104) hx hb d_G_map_91 (by decide) (fun c_14 => ?_) (fun c_14 => absurd (by decide) c_14)
                  obtain ⟨hk9, hv1, hv2, he1, he2⟩ := hok
                  have hy9 : 1 ≤ x2 ∧ x2 ≤ 16 := by
                    rcases hk9 with ⟨-, h⟩ | ⟨-, h⟩
                    · rw [h]; exact ⟨by decide, by decide⟩
                    · exact h
                  clear hk9
                  obtain ⟨y, -, hy8, ey⟩ := fg_rng (a := 1) (b := 16) rfl rfl (by decide) (by decide) hy9.1 hy9.2
                  obtain ⟨v, -, hv8, ev⟩ := fg_rng (a := 1) (b := 64) rfl rfl (by decide) (by decide) hv1 hv2
                  obtain ⟨e9, -, he8, ee⟩ := fg_rng (a := 1) (b := 64) rfl rfl (by decide) (by decide) he1 he2
                  subst ey ev ee
                  refine lv_aload_n hx hb d_G_map_104 rfl (lv_at hl 1 rfl) ?_
                  refine va_get (D := D) (ci := 0) (v := .ref qs) (C := "FilterGuard") (T := F_G) (N := 14) hx hb hts i_G hown hK hP 0 rfl rfl 2 (by decide) (hts _ u_695) (fun _ h9 => h9) rfl d_G_map_105 ?_
                  refine lv_aload_n hx hb d_G_map_108 rfl (lv_at hl 1 rfl) ?_
                  refine va_get (D := D) (ci := 0) (v := .int 0) (C := "FilterGuard") (T := F_G) (N := 14) hx hb hts i_G hown hK hP 0 rfl rfl 3 (by decide) (hts _ u_696) (fun _ h9 => h9) rfl d_G_map_109 ?_
                  refine va_new (ci := 12) (fs := [.int 0, .int 0, .int 0, .int 0, .null, .null, .null]) (C := "FilterGuard$Store") (T := F_Store) (N := 7) hx hb hts i_Store t_Store t_Store_ok hown (hts _ u_212) (hts _ u_895) (hts _ u_201) hK hP hD hS hA rfl z_Store (Nat.le_of_ble_eq_true rfl) (Nat.le_of_ble_eq_true rfl) d_G_map_112 (fun q112_14 H hP hD hS => ?_)
                  have hP : va_P D classes [(h0, .inr (0, [.ref qt, .int 0, .ref qs, .int 0, .ref qc, .ref qh, .ref qf, .ref qe, .ref qm, .int 0, .int (-1), .int 0, .int 0, .int 0])), (qs, .inl (ks, 4, .inr (.inr (.inr (.inr fs0))))), (q112_14, .inr (12, [.int 0, .int 0, .int 0, .int 0, .null, .null, .null]))] H := hP
                  have hD : va_D A [(h0, .inr (0, [.ref qt, .int 0, .ref qs, .int 0, .ref qc, .ref qh, .ref qf, .ref qe, .ref qm, .int 0, .int (-1), .int 0, .int 0, .int 0])), (qs, .inl (ks, 4, .inr (.inr (.inr (.inr fs0))))), (q112_14, .inr (12, [.int 0, .int 0, .int 0, .int 0, .null, .null, .null]))] := hD
                  refine W.widen (k := 1) (n := 7) (Nat.le_of_ble_eq_true rfl) (Nat.le_of_ble_eq_true rfl) ?_
                  refine lv_dup hx hb d_G_map_115 rfl ?_
                  refine lv_iload_n hx hb d_G_map_116 rfl (lv_at hl 2 rfl) ?_
                  refine lv_iload_n hx hb d_G_map_117 rfl (lv_at hl 3 rfl) ?_
                  refine lv_iload_n hx hb d_G_map_118 rfl (lv_at hl 4 rfl) ?_
                  refine lv_iload hx hb d_G_map_119 (lv_at hl 5 rfl) ?_
                  refine fg_thenv (wr := [(h0, .inr (0, [.ref qt, .int 0, .ref qs, .int 0, .ref qc, .ref qh, .ref qf, .ref qe, .ref qm, .int 0, .int (-1), .int 0, .int 0, .int 0])), (qs, .inl (ks, 4, .inr (.inr (.inr (.inr fs0)))))]) (fg_runI (As := [.int x1, .int (nI y), .int (nI v), .int (nI e9)]) (rest := [.ref q112_14, .int 0, .ref qs]) ⟨hx, hb, hml, hown, hts⟩ (c_Store_init l D q112_14 x1 y v e9 H.size hy8 hv8 he8) rfl (by show fg_nm y_Store_init 4; decide +kernel) u_896 u_897 u_201 u_898 ⟨Nat.le_of_ble_eq_true rfl, Nat.le_of_ble_eq_true rfl⟩ hX (hP.sub (ws' := [(q112_14, .inr (12, [.int 0, .int 0, .int 0, .int 0, .null, .null, .null]))]) [2] rfl) (hK.sub (tys' := []) [] rfl) (hD.sub (ws' := [(q112_14, .inr (12, [.int 0, .int 0, .int 0, .int 0, .null, .null, .null]))]) [2] (by decide) rfl) rfl hl.1 (Nat.le_of_ble_eq_true rfl) d_G_map_121 ⟨(Nat.le_of_ble_eq_true rfl), (Nat.le_of_ble_eq_true rfl)⟩) hP hD hK hS hA [2] [0, 1] rfl rfl (by decide) (by decide) (fun  u H locs hw121_15 hP hD hK hS => ?_)
                  obtain ⟨tv_121_16, q1_121_17, q2_121_18, q3_121_19⟩ := u
                  try dsimp only at hw121_15
                  have hP : va_P D classes [(h0, .inr (0, [.ref qt, .int 0, .ref qs, .int 0, .ref qc, .ref qh, .ref qf, .ref qe, .ref qm, .int 0, .int (-1), .int 0, .int 0, .int 0])), (qs, .inl (ks, 4, .inr (.inr (.inr (.inr fs0))))), (q112_14, .inr (12, [.int tv_121_16, .int (nI y), .int (nI v), .int (nI e9), .ref q1_121_17, .ref q2_121_18, .ref q3_121_19]))] H := hP
                  have hD : va_D A [(h0, .inr (0, [.ref qt, .int 0, .ref qs, .int 0, .ref qc, .ref qh, .ref qf, .ref qe, .ref qm, .int 0, .int (-1), .int 0, .int 0, .int 0])), (qs, .inl (ks, 4, .inr (.inr (.inr (.inr fs0))))), (q112_14, .inr (12, [.int tv_121_16, .int (nI y), .int (nI v), .int (nI e9), .ref q1_121_17, .ref q2_121_18, .ref q3_121_19]))] := hD
                  have hK : va_K D classes [(ks, (.object "FilterGuard$Store"))] s := hK
                  refine W.widen (k := 4) (n := 5191) (Nat.le_of_ble_eq_true rfl) (Nat.le_of_ble_eq_true rfl) ?_
                  refine va_astq hx hb hK hP hD hS 1 0 2 12 rfl rfl rfl rfl (by unfold vp_in; decide) d_G_map_124 (fun H locs hP hD hS => ?_)
                  have hP : va_P D classes [(h0, .inr (0, [.ref qt, .int 0, .ref qs, .int 0, .ref qc, .ref qh, .ref qf, .ref qe, .ref qm, .int 0, .int (-1), .int 0, .int 0, .int 0])), (qs, .inl (ks, 4, .inr (.inr (.inr (.inr (va_up fs0 ((0 : Int32).toNatClampNeg) (some q112_14))))))), (q112_14, .inr (12, [.int tv_121_16, .int (nI y), .int (nI v), .int (nI e9), .ref q1_121_17, .ref q2_121_18, .ref q3_121_19]))] H := hP
                  have hD : va_D A [(h0, .inr (0, [.ref qt, .int 0, .ref qs, .int 0, .ref qc, .ref qh, .ref qf, .ref qe, .ref qm, .int 0, .int (-1), .int 0, .int 0, .int 0])), (qs, .inl (ks, 4, .inr (.inr (.inr (.inr (va_up fs0 ((0 : Int32).toNatClampNeg) (some q112_14))))))), (q112_14, .inr (12, [.int tv_121_16, .int (nI y), .int (nI v), .int (nI e9), .ref q1_121_17, .ref q2_121_18, .ref q3_121_19]))] := hD
                  obtain ⟨f_21, ef_21⟩ : ∃ g : Nat → Option Nat, g = va_up fs0 ((0 : Int32).toNatClampNeg) (some q112_14) := ⟨_, rfl⟩
                  rw [← ef_21] at hP hD
                  refine lv_aload_n hx hb d_G_map_125 rfl (lv_at hl 1 rfl) ?_
                  refine lv_dup hx hb d_G_map_126 rfl ?_
                  refine va_get (D := D) (ci := 0) (v := .int 0) (C := "FilterGuard") (T := F_G) (N := 14) hx hb hts i_G hown hK hP 0 rfl rfl 3 (by decide) (hts _ u_696) (fun _ h9 => h9) rfl d_G_map_127 ?_
                  refine lv_iconst (v := 1) hx hb d_G_map_130 (by decide) ?_
                  refine lv_iadd hx hb d_G_map_131 ?_
                  refine fg_topi (y := 1) (by decide) ?_
                  refine va_put (D := D) (ci := 0) (v := .int 1) (ty := .int) (C := "FilterGuard") (T := F_G) (N := 14) hx hb hts i_G t_G t_G_ok n_G hown hK hP hD hS 0 rfl rfl 3 (by decide) (hts _ u_696) (fun _ h9 => h9) rfl (by decide +kernel) rfl rfl (Nat.le_of_ble_eq_true rfl) d_G_map_132 (fun H locs hP hD hS => ?_)
                  have hP : va_P D classes [(h0, .inr (0, [.ref qt, .int 0, .ref qs, .int 1, .ref qc, .ref qh, .ref qf, .ref qe, .ref qm, .int 0, .int (-1), .int 0, .int 0, .int 0])), (qs, .inl (ks, 4, .inr (.inr (.inr (.inr f_21))))), (q112_14, .inr (12, [.int tv_121_16, .int (nI y), .int (nI v), .int (nI e9), .ref q1_121_17, .ref q2_121_18, .ref q3_121_19]))] H := hP
                  have hD : va_D A [(h0, .inr (0, [.ref qt, .int 0, .ref qs, .int 1, .ref qc, .ref qh, .ref qf, .ref qe, .ref qm, .int 0, .int (-1), .int 0, .int 0, .int 0])), (qs, .inl (ks, 4, .inr (.inr (.inr (.inr f_21))))), (q112_14, .inr (12, [.int tv_121_16, .int (nI y), .int (nI v), .int (nI e9), .ref q1_121_17, .ref q2_121_18, .ref q3_121_19]))] := hD
                  refine lv_aload_n hx hb d_G_map_135 rfl (lv_at hl 1 rfl) ?_
                  refine va_get (D := D) (ci := 0) (v := .int 1) (C := "FilterGuard") (T := F_G) (N := 14) hx hb hts i_G hown hK hP 0 rfl rfl 3 (by decide) (hts _ u_696) (fun _ h9 => h9) rfl d_G_map_136 ?_
                  refine lv_iconst (v := 1) hx hb d_G_map_139 (by decide) ?_
                  refine lv_isub hx hb d_G_map_140 ?_
                  refine fg_topi (y := 0) (by decide) ?_
                  exact fg_reti () hx hb hr hlocks rfl (hP.sub (ws' := []) [] rfl) (hK.sub (tys' := []) [] rfl) (hD.sub (ws' := []) [] (by decide) rfl) hS (Nat.le_of_ble_eq_true rfl) (Nat.le_of_ble_eq_true rfl) d_G_map_141
                · exfalso
                  unfold fg_mapok at hok
                  simp only [Int32.le_iff_toInt_le, Int32.lt_iff_toInt_lt, ← Int32.toInt_inj, fg_t0, fg_t1, fg_t4, fg_t16, fg_t64] at hok c_1 c_2 c_4 c_6 c_9 c_10 c_11 c_12
                  omega
  · refine lv_iload_n hx hb d_G_map_4 rfl (lv_at hl 2 rfl) ?_
    refine lv_iconst (v := 4) hx hb d_G_map_5 (by decide) ?_
    refine lv_icmp_ne (tgt := 13) hx hb d_G_map_6 (by decide) (fun c_22 => ?_) (fun c_22 => ?_)
    · refine lv_iconst (v := 0) hx hb d_G_map_13 (by decide) ?_
      refine lv_goto (tgt := 38) hx hb d_G_map_14 (by decide) ?_
      refine lv_istore (lv' := [(5, .int 0), (0, .ref h0), (1, .int x1), (2, .int x2), (3, .int x3), (4, .int x4)]) hx hb d_G_map_38 hl (by decide) rfl (fun ls hl => ?_)
      refine lv_iload hx hb d_G_map_40 (lv_at hl 0 rfl) ?_
      refine lv_if_eq (tgt := 69) hx hb d_G_map_42 (by decide) (fun c_23 => ?_) (fun c_23 => absurd (by decide) c_23)
      exfalso
      unfold fg_mapok at hok
      simp only [Int32.le_iff_toInt_le, Int32.lt_iff_toInt_lt, ← Int32.toInt_inj, fg_t0, fg_t1, fg_t4, fg_t16, fg_t64] at hok c_1 c_22
      omega
    · refine lv_iconst (v := 1) hx hb d_G_map_9 (by decide) ?_
      refine lv_goto (tgt := 38) hx hb d_G_map_10 (by decide) ?_
      refine lv_istore (lv' := [(5, .int 1), (0, .ref h0), (1, .int x1), (2, .int x2), (3, .int x3), (4, .int x4)]) hx hb d_G_map_38 hl (by decide) rfl (fun ls hl => ?_)
      refine lv_iload hx hb d_G_map_40 (lv_at hl 0 rfl) ?_
      refine lv_if_eq (tgt := 69) hx hb d_G_map_42 (by decide) (fun c_24 => absurd c_24 (by decide)) (fun c_24 => ?_)
      refine lv_iload_n hx hb d_G_map_45 rfl (lv_at hl 4 rfl) ?_
      refine lv_iconst (v := 1) hx hb d_G_map_46 (by decide) ?_
      refine lv_icmp_lt (tgt := 69) hx hb d_G_map_47 (by decide) (fun c_25 => ?_) (fun c_25 => ?_)
      · exfalso
        unfold fg_mapok at hok
        simp only [Int32.le_iff_toInt_le, Int32.lt_iff_toInt_lt, ← Int32.toInt_inj, fg_t0, fg_t1, fg_t4, fg_t16, fg_t64] at hok c_1 c_22 c_25
        omega
      · refine lv_iload_n hx hb d_G_map_50 rfl (lv_at hl 4 rfl) ?_
        refine lv_bipush (v := 64) hx hb d_G_map_51 (by decide) ?_
        refine lv_icmp_gt (tgt := 69) hx hb d_G_map_53 (by decide) (fun c_26 => ?_) (fun c_26 => ?_)
        · exfalso
          unfold fg_mapok at hok
          simp only [Int32.le_iff_toInt_le, Int32.lt_iff_toInt_lt, ← Int32.toInt_inj, fg_t0, fg_t1, fg_t4, fg_t16, fg_t64] at hok c_1 c_22 c_25 c_26
          omega
        · refine lv_iload hx hb d_G_map_56 (lv_at hl 5 rfl) ?_
          refine lv_iconst (v := 1) hx hb d_G_map_58 (by decide) ?_
          refine lv_icmp_lt (tgt := 69) hx hb d_G_map_59 (by decide) (fun c_27 => ?_) (fun c_27 => ?_)
          · exfalso
            unfold fg_mapok at hok
            simp only [Int32.le_iff_toInt_le, Int32.lt_iff_toInt_lt, ← Int32.toInt_inj, fg_t0, fg_t1, fg_t4, fg_t16, fg_t64] at hok c_1 c_22 c_25 c_26 c_27
            omega
          · refine lv_iload hx hb d_G_map_62 (lv_at hl 5 rfl) ?_
            refine lv_bipush (v := 64) hx hb d_G_map_64 (by decide) ?_
            refine lv_icmp_le (tgt := 79) hx hb d_G_map_66 (by decide) (fun c_28 => ?_) (fun c_28 => ?_)
            · refine lv_aload_n hx hb d_G_map_79 rfl (lv_at hl 1 rfl) ?_
              refine va_get (D := D) (ci := 0) (v := .int 0) (C := "FilterGuard") (T := F_G) (N := 14) hx hb hts i_G hown hK hP 0 rfl rfl 3 (by decide) (hts _ u_696) (fun _ h9 => h9) rfl d_G_map_80 ?_
              refine lv_iconst (v := 4) hx hb d_G_map_83 (by decide) ?_
              refine lv_icmp_ge (tgt := 94) hx hb d_G_map_84 (by decide) (fun c_29 => absurd c_29 (by decide)) (fun c_29 => ?_)
              refine lv_aload_n hx hb d_G_map_87 rfl (lv_at hl 1 rfl) ?_
              refine va_get (D := D) (ci := 0) (v := .int 0) (C := "FilterGuard") (T := F_G) (N := 14) hx hb hts i_G hown hK hP 0 rfl rfl 13 (by decide) (hts _ u_706) (fun _ h9 => h9) rfl d_G_map_88 ?_
              refine lv_if_eq (tgt := 104) hx hb d_G_map_91 (by decide) (fun c_30 => ?_) (fun c_30 => absurd (by decide) c_30)
              obtain ⟨hk9, hv1, hv2, he1, he2⟩ := hok
              have hy9 : 1 ≤ x2 ∧ x2 ≤ 16 := by
                rcases hk9 with ⟨-, h⟩ | ⟨-, h⟩
                · rw [h]; exact ⟨by decide, by decide⟩
                · exact h
              clear hk9
              obtain ⟨y, -, hy8, ey⟩ := fg_rng (a := 1) (b := 16) rfl rfl (by decide) (by decide) hy9.1 hy9.2
              obtain ⟨v, -, hv8, ev⟩ := fg_rng (a := 1) (b := 64) rfl rfl (by decide) (by decide) hv1 hv2
              obtain ⟨e9, -, he8, ee⟩ := fg_rng (a := 1) (b := 64) rfl rfl (by decide) (by decide) he1 he2
              subst ey ev ee
              refine lv_aload_n hx hb d_G_map_104 rfl (lv_at hl 1 rfl) ?_
              refine va_get (D := D) (ci := 0) (v := .ref qs) (C := "FilterGuard") (T := F_G) (N := 14) hx hb hts i_G hown hK hP 0 rfl rfl 2 (by decide) (hts _ u_695) (fun _ h9 => h9) rfl d_G_map_105 ?_
              refine lv_aload_n hx hb d_G_map_108 rfl (lv_at hl 1 rfl) ?_
              refine va_get (D := D) (ci := 0) (v := .int 0) (C := "FilterGuard") (T := F_G) (N := 14) hx hb hts i_G hown hK hP 0 rfl rfl 3 (by decide) (hts _ u_696) (fun _ h9 => h9) rfl d_G_map_109 ?_
              refine va_new (ci := 12) (fs := [.int 0, .int 0, .int 0, .int 0, .null, .null, .null]) (C := "FilterGuard$Store") (T := F_Store) (N := 7) hx hb hts i_Store t_Store t_Store_ok hown (hts _ u_212) (hts _ u_895) (hts _ u_201) hK hP hD hS hA rfl z_Store (Nat.le_of_ble_eq_true rfl) (Nat.le_of_ble_eq_true rfl) d_G_map_112 (fun q112_30 H hP hD hS => ?_)
              have hP : va_P D classes [(h0, .inr (0, [.ref qt, .int 0, .ref qs, .int 0, .ref qc, .ref qh, .ref qf, .ref qe, .ref qm, .int 0, .int (-1), .int 0, .int 0, .int 0])), (qs, .inl (ks, 4, .inr (.inr (.inr (.inr fs0))))), (q112_30, .inr (12, [.int 0, .int 0, .int 0, .int 0, .null, .null, .null]))] H := hP
              have hD : va_D A [(h0, .inr (0, [.ref qt, .int 0, .ref qs, .int 0, .ref qc, .ref qh, .ref qf, .ref qe, .ref qm, .int 0, .int (-1), .int 0, .int 0, .int 0])), (qs, .inl (ks, 4, .inr (.inr (.inr (.inr fs0))))), (q112_30, .inr (12, [.int 0, .int 0, .int 0, .int 0, .null, .null, .null]))] := hD
              refine W.widen (k := 1) (n := 7) (Nat.le_of_ble_eq_true rfl) (Nat.le_of_ble_eq_true rfl) ?_
              refine lv_dup hx hb d_G_map_115 rfl ?_
              refine lv_iload_n hx hb d_G_map_116 rfl (lv_at hl 2 rfl) ?_
              refine lv_iload_n hx hb d_G_map_117 rfl (lv_at hl 3 rfl) ?_
              refine lv_iload_n hx hb d_G_map_118 rfl (lv_at hl 4 rfl) ?_
              refine lv_iload hx hb d_G_map_119 (lv_at hl 5 rfl) ?_
              refine fg_thenv (wr := [(h0, .inr (0, [.ref qt, .int 0, .ref qs, .int 0, .ref qc, .ref qh, .ref qf, .ref qe, .ref qm, .int 0, .int (-1), .int 0, .int 0, .int 0])), (qs, .inl (ks, 4, .inr (.inr (.inr (.inr fs0)))))]) (fg_runI (As := [.int x1, .int (nI y), .int (nI v), .int (nI e9)]) (rest := [.ref q112_30, .int 0, .ref qs]) ⟨hx, hb, hml, hown, hts⟩ (c_Store_init l D q112_30 x1 y v e9 H.size hy8 hv8 he8) rfl (by show fg_nm y_Store_init 4; decide +kernel) u_896 u_897 u_201 u_898 ⟨Nat.le_of_ble_eq_true rfl, Nat.le_of_ble_eq_true rfl⟩ hX (hP.sub (ws' := [(q112_30, .inr (12, [.int 0, .int 0, .int 0, .int 0, .null, .null, .null]))]) [2] rfl) (hK.sub (tys' := []) [] rfl) (hD.sub (ws' := [(q112_30, .inr (12, [.int 0, .int 0, .int 0, .int 0, .null, .null, .null]))]) [2] (by decide) rfl) rfl hl.1 (Nat.le_of_ble_eq_true rfl) d_G_map_121 ⟨(Nat.le_of_ble_eq_true rfl), (Nat.le_of_ble_eq_true rfl)⟩) hP hD hK hS hA [2] [0, 1] rfl rfl (by decide) (by decide) (fun  u H locs hw121_31 hP hD hK hS => ?_)
              obtain ⟨tv_121_32, q1_121_33, q2_121_34, q3_121_35⟩ := u
              try dsimp only at hw121_31
              have hP : va_P D classes [(h0, .inr (0, [.ref qt, .int 0, .ref qs, .int 0, .ref qc, .ref qh, .ref qf, .ref qe, .ref qm, .int 0, .int (-1), .int 0, .int 0, .int 0])), (qs, .inl (ks, 4, .inr (.inr (.inr (.inr fs0))))), (q112_30, .inr (12, [.int tv_121_32, .int (nI y), .int (nI v), .int (nI e9), .ref q1_121_33, .ref q2_121_34, .ref q3_121_35]))] H := hP
              have hD : va_D A [(h0, .inr (0, [.ref qt, .int 0, .ref qs, .int 0, .ref qc, .ref qh, .ref qf, .ref qe, .ref qm, .int 0, .int (-1), .int 0, .int 0, .int 0])), (qs, .inl (ks, 4, .inr (.inr (.inr (.inr fs0))))), (q112_30, .inr (12, [.int tv_121_32, .int (nI y), .int (nI v), .int (nI e9), .ref q1_121_33, .ref q2_121_34, .ref q3_121_35]))] := hD
              have hK : va_K D classes [(ks, (.object "FilterGuard$Store"))] s := hK
              refine W.widen (k := 4) (n := 5191) (Nat.le_of_ble_eq_true rfl) (Nat.le_of_ble_eq_true rfl) ?_
              refine va_astq hx hb hK hP hD hS 1 0 2 12 rfl rfl rfl rfl (by unfold vp_in; decide) d_G_map_124 (fun H locs hP hD hS => ?_)
              have hP : va_P D classes [(h0, .inr (0, [.ref qt, .int 0, .ref qs, .int 0, .ref qc, .ref qh, .ref qf, .ref qe, .ref qm, .int 0, .int (-1), .int 0, .int 0, .int 0])), (qs, .inl (ks, 4, .inr (.inr (.inr (.inr (va_up fs0 ((0 : Int32).toNatClampNeg) (some q112_30))))))), (q112_30, .inr (12, [.int tv_121_32, .int (nI y), .int (nI v), .int (nI e9), .ref q1_121_33, .ref q2_121_34, .ref q3_121_35]))] H := hP
              have hD : va_D A [(h0, .inr (0, [.ref qt, .int 0, .ref qs, .int 0, .ref qc, .ref qh, .ref qf, .ref qe, .ref qm, .int 0, .int (-1), .int 0, .int 0, .int 0])), (qs, .inl (ks, 4, .inr (.inr (.inr (.inr (va_up fs0 ((0 : Int32).toNatClampNeg) (some q112_30))))))), (q112_30, .inr (12, [.int tv_121_32, .int (nI y), .int (nI v), .int (nI e9), .ref q1_121_33, .ref q2_121_34, .ref q3_121_35]))] := hD
              obtain ⟨f_37, ef_37⟩ : ∃ g : Nat → Option Nat, g = va_up fs0 ((0 : Int32).toNatClampNeg) (some q112_30) := ⟨_, rfl⟩
              rw [← ef_37] at hP hD
              refine lv_aload_n hx hb d_G_map_125 rfl (lv_at hl 1 rfl) ?_
              refine lv_dup hx hb d_G_map_126 rfl ?_
              refine va_get (D := D) (ci := 0) (v := .int 0) (C := "FilterGuard") (T := F_G) (N := 14) hx hb hts i_G hown hK hP 0 rfl rfl 3 (by decide) (hts _ u_696) (fun _ h9 => h9) rfl d_G_map_127 ?_
              refine lv_iconst (v := 1) hx hb d_G_map_130 (by decide) ?_
              refine lv_iadd hx hb d_G_map_131 ?_
              refine fg_topi (y := 1) (by decide) ?_
              refine va_put (D := D) (ci := 0) (v := .int 1) (ty := .int) (C := "FilterGuard") (T := F_G) (N := 14) hx hb hts i_G t_G t_G_ok n_G hown hK hP hD hS 0 rfl rfl 3 (by decide) (hts _ u_696) (fun _ h9 => h9) rfl (by decide +kernel) rfl rfl (Nat.le_of_ble_eq_true rfl) d_G_map_132 (fun H locs hP hD hS => ?_)
              have hP : va_P D classes [(h0, .inr (0, [.ref qt, .int 0, .ref qs, .int 1, .ref qc, .ref qh, .ref qf, .ref qe, .ref qm, .int 0, .int (-1), .int 0, .int 0, .int 0])), (qs, .inl (ks, 4, .inr (.inr (.inr (.inr f_37))))), (q112_30, .inr (12, [.int tv_121_32, .int (nI y), .int (nI v), .int (nI e9), .ref q1_121_33, .ref q2_121_34, .ref q3_121_35]))] H := hP
              have hD : va_D A [(h0, .inr (0, [.ref qt, .int 0, .ref qs, .int 1, .ref qc, .ref qh, .ref qf, .ref qe, .ref qm, .int 0, .int (-1), .int 0, .int 0, .int 0])), (qs, .inl (ks, 4, .inr (.inr (.inr (.inr f_37))))), (q112_30, .inr (12, [.int tv_121_32, .int (nI y), .int (nI v), .int (nI e9), .ref q1_121_33, .ref q2_121_34, .ref q3_121_35]))] := hD
              refine lv_aload_n hx hb d_G_map_135 rfl (lv_at hl 1 rfl) ?_
              refine va_get (D := D) (ci := 0) (v := .int 1) (C := "FilterGuard") (T := F_G) (N := 14) hx hb hts i_G hown hK hP 0 rfl rfl 3 (by decide) (hts _ u_696) (fun _ h9 => h9) rfl d_G_map_136 ?_
              refine lv_iconst (v := 1) hx hb d_G_map_139 (by decide) ?_
              refine lv_isub hx hb d_G_map_140 ?_
              refine fg_topi (y := 0) (by decide) ?_
              exact fg_reti () hx hb hr hlocks rfl (hP.sub (ws' := []) [] rfl) (hK.sub (tys' := []) [] rfl) (hD.sub (ws' := []) [] (by decide) rfl) hS (Nat.le_of_ble_eq_true rfl) (Nat.le_of_ble_eq_true rfl) d_G_map_141
            · exfalso
              unfold fg_mapok at hok
              simp only [Int32.le_iff_toInt_le, Int32.lt_iff_toInt_lt, ← Int32.toInt_inj, fg_t0, fg_t1, fg_t4, fg_t16, fg_t64] at hok c_1 c_22 c_25 c_26 c_27 c_28
              omega
