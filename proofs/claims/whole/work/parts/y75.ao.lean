theorem d_M_copyState_32 : decode prog_14_method_60_code 32 = .ok (.iload_n 3, 1) := by decide +kernel
theorem d_M_copyState_33 : decode prog_14_method_60_code 33 = .ok (.bipush 64, 2) := by decide +kernel
theorem d_M_copyState_35 : decode prog_14_method_60_code 35 = .ok (.if_icmp .ge 31, 3) := by decide +kernel
theorem d_M_copyState_66 : decode prog_14_method_60_code 66 = .ok (.return_, 1) := by decide +kernel
theorem d_M_copyState_38 : decode prog_14_method_60_code 38 = .ok (.aload_n 0, 1) := by decide +kernel
theorem d_M_copyState_39 : decode prog_14_method_60_code 39 = .ok (.getfield 122, 3) := by decide +kernel
theorem g_M_58 {p : Program} {l : Launch} {e : Env} {R : Room} {s : Jvm.State} {m : MethodId} {args : Array Value} {below : List Frame} {meth : Method} {c : Code} {H : Heap} {locs : List Loc} {cells slots : Nat} {Q : Jvm.State → Prop} {cc : ByteArray} {pc : Nat} {ls : Array Slot} {rest : List Value} {D : va_G} {ad : Nat → Nat → Nat} {ca : Nat → ClassId} {M : me_M} {N : Nat → Nat} {own : String} {index j : Nat} (hexec : p.tables.exec = Jvm.exec) (hb : c.code = cc) (hts : ∀ w ∈ fg_g, w.before args s = true) (hown : s.vm.findClass own = some m.cls) (hK : va_K D classes (me_T ca) s) (hP : va_P D classes (me_W ad ca M) H) (hwf : me_wf N M) (hj : j < N 1) (hlink : (Cond.fieldLink own index "FilterGuardModel" "written" "[I").before args s = true) (hdg : decode cc pc = .ok (.getfield index, 3)) (kk : W p l e R s m args below meth c H locs cells slots Q (F0 m (pc + 3) ls (va_rf ((mR M 1 j 58).map (ad 13)) :: rest))) : W p l e R s m args below meth c H locs cells slots Q (F0 m pc ls (.ref (ad 1 j) :: rest)) := me_get (k := 1) (f := 58) (C := "FilterGuardModel") (T := F_M) (Nf := 75) hexec hb hts i_M hown hK hP hwf hj (by decide) rfl (by decide) (by decide) hlink (fun _ h9 => h9) hdg kk
theorem d_M_copyState_42 : decode prog_14_method_60_code 42 = .ok (.bipush 64, 2) := by decide +kernel
theorem d_M_copyState_44 : decode prog_14_method_60_code 44 = .ok (.iload_n 2, 1) := by decide +kernel
theorem d_M_copyState_45 : decode prog_14_method_60_code 45 = .ok (.imul, 1) := by decide +kernel
theorem d_M_copyState_46 : decode prog_14_method_60_code 46 = .ok (.iload_n 3, 1) := by decide +kernel
theorem d_M_copyState_47 : decode prog_14_method_60_code 47 = .ok (.iadd, 1) := by decide +kernel
theorem d_M_copyState_48 : decode prog_14_method_60_code 48 = .ok (.aload_n 0, 1) := by decide +kernel
theorem d_M_copyState_49 : decode prog_14_method_60_code 49 = .ok (.getfield 122, 3) := by decide +kernel
theorem d_M_copyState_52 : decode prog_14_method_60_code 52 = .ok (.bipush 64, 2) := by decide +kernel
theorem d_M_copyState_54 : decode prog_14_method_60_code 54 = .ok (.iload_n 1, 1) := by decide +kernel
theorem d_M_copyState_55 : decode prog_14_method_60_code 55 = .ok (.imul, 1) := by decide +kernel
theorem d_M_copyState_56 : decode prog_14_method_60_code 56 = .ok (.iload_n 3, 1) := by decide +kernel
theorem d_M_copyState_57 : decode prog_14_method_60_code 57 = .ok (.iadd, 1) := by decide +kernel
theorem d_M_copyState_58 : decode prog_14_method_60_code 58 = .ok (.iaload, 1) := by decide +kernel
theorem d_M_copyState_59 : decode prog_14_method_60_code 59 = .ok (.iastore, 1) := by decide +kernel
theorem d_M_copyState_60 : decode prog_14_method_60_code 60 = .ok (.iinc 3 1, 3) := by decide +kernel
theorem d_M_copyState_63 : decode prog_14_method_60_code 63 = .ok (.goto (-31), 3) := by decide +kernel
theorem d_M_copyState_2 : decode prog_14_method_60_code 2 = .ok (.iload_n 3, 1) := by decide +kernel
theorem d_M_copyState_3 : decode prog_14_method_60_code 3 = .ok (.bipush 75, 2) := by decide +kernel
theorem d_M_copyState_5 : decode prog_14_method_60_code 5 = .ok (.if_icmp .ge 25, 3) := by decide +kernel
theorem d_M_copyState_30 : decode prog_14_method_60_code 30 = .ok (.iconst 0, 1) := by decide +kernel
theorem d_M_copyState_31 : decode prog_14_method_60_code 31 = .ok (.istore_n 3, 1) := by decide +kernel
theorem d_M_copyState_8 : decode prog_14_method_60_code 8 = .ok (.aload_n 0, 1) := by decide +kernel
theorem d_M_copyState_9 : decode prog_14_method_60_code 9 = .ok (.iload_n 1, 1) := by decide +kernel
theorem d_M_copyState_10 : decode prog_14_method_60_code 10 = .ok (.invokestatic 357, 3) := by decide +kernel
theorem u_2060 : Cond.methodLink "FilterGuardModel" 357 ⟨"FilterGuardModel", "rowOf", "(I)I"⟩ ∈ fg_g := fg_in (List.mem_of_getElem? (i := 2060) (by decide +kernel)) rfl
theorem u_2062 : Cond.code ⟨"FilterGuardModel", "rowOf", "(I)I"⟩ prog_14_method_58_code 1 (some .int) ∈ fg_g := fg_in (List.mem_of_getElem? (i := 2062) (by decide +kernel)) rfl
theorem u_2061 : Cond.static ⟨"FilterGuardModel", "rowOf", "(I)I"⟩ ∈ fg_g := fg_in (List.mem_of_getElem? (i := 2061) (by decide +kernel)) rfl
theorem d_M_copyState_13 : decode prog_14_method_60_code 13 = .ok (.iload_n 3, 1) := by decide +kernel
theorem d_M_copyState_14 : decode prog_14_method_60_code 14 = .ok (.iadd, 1) := by decide +kernel
theorem d_M_copyState_15 : decode prog_14_method_60_code 15 = .ok (.iload_n 2, 1) := by decide +kernel
theorem d_M_copyState_16 : decode prog_14_method_60_code 16 = .ok (.invokestatic 357, 3) := by decide +kernel
theorem d_M_copyState_19 : decode prog_14_method_60_code 19 = .ok (.iload_n 3, 1) := by decide +kernel
theorem d_M_copyState_20 : decode prog_14_method_60_code 20 = .ok (.iadd, 1) := by decide +kernel
theorem d_M_copyState_21 : decode prog_14_method_60_code 21 = .ok (.invokevirtual 360, 3) := by decide +kernel
theorem u_2092 : Cond.methodLink "FilterGuardModel" 360 ⟨"FilterGuardModel", "copyItem", "(II)V"⟩ ∈ fg_g := fg_in (List.mem_of_getElem? (i := 2092) (by decide +kernel)) rfl
theorem u_2095 : Cond.code ⟨"FilterGuardModel", "copyItem", "(II)V"⟩ prog_14_method_59_code 3 none ∈ fg_g := fg_in (List.mem_of_getElem? (i := 2095) (by decide +kernel)) rfl
theorem u_2094 : Cond.instanceMethod ⟨"FilterGuardModel", "copyItem", "(II)V"⟩ ∈ fg_g := fg_in (List.mem_of_getElem? (i := 2094) (by decide +kernel)) rfl
theorem u_102 : Cond.selects "FilterGuardModel" ⟨"FilterGuardModel", "copyItem", "(II)V"⟩ ⟨"FilterGuardModel", "copyItem", "(II)V"⟩ ∈ fg_g := fg_in (List.mem_of_getElem? (i := 102) (by decide +kernel)) rfl
theorem d_M_copyState_24 : decode prog_14_method_60_code 24 = .ok (.iinc 3 1, 3) := by decide +kernel
theorem d_M_copyState_27 : decode prog_14_method_60_code 27 = .ok (.goto (-25), 3) := by decide +kernel
theorem d_M_copyState_0 : decode prog_14_method_60_code 0 = .ok (.iconst 0, 1) := by decide +kernel
theorem d_M_copyState_1 : decode prog_14_method_60_code 1 = .ok (.istore_n 3, 1) := by decide +kernel
abbrev y_M_copyState : MethodName := ⟨"FilterGuardModel", "copyState", "(II)V"⟩
def rm_M_copyState : Room := { frames := 3, cells := 0, slots := 0, locals := 64 }
abbrev q_M_copyState (D : va_G) (ad : Nat → Nat → Nat) (ca : Nat → ClassId) (N : Nat → Nat) (M0 MZ : me_M) (A : Nat → Prop) : Array Value → Jvm.State → Outcome → Jvm.State → Prop := va_Qv (fun (_ : Unit) => me_wf N MZ ∧ me_kp M0 MZ) (fg_B D A (fun _ => me_W ad ca MZ) (fun _ => [])) A
set_option maxHeartbeats 4000000 in
set_option maxRecDepth 100000 in
theorem c_M_copyState (l : Launch) (D : va_G) (ad : Nat → Nat → Nat) (ca : Nat → ClassId) (N : Nat → Nat) (M0 MZ : me_M) (j0 : Nat) (x1 : Int32) (x2 : Int32) (h : f_M_copyState M0 j0 x1 x2 = (some MZ)) (hwf : me_wf N M0) (hj0 : j0 < N 1) (sz : Nat) : Met l y_M_copyState (fg_w y_M_copyState prog_14_method_60_code 4 none) rm_M_copyState (va_Pc [.ref (ad 1 j0), .int x1, .int x2] (fz_P D (me_T ca) (me_W ad ca M0) sz)) (q_M_copyState D ad ca N M0 MZ (va_A (me_W ad ca M0) sz)) rm_M_copyState.cells rm_M_copyState.slots (va_A (me_W ad ca M0) sz) := by
  refine fz_enter (fun A => q_M_copyState D ad ca N M0 MZ A) (by decide +kernel) (Nat.le_of_ble_eq_true rfl) ?_
  intro p e s m below meth c ls A hx hb hml hown hts hr hlocks hin hP hK hD hS hA hX hl hz
  have hl : lv_has ls 4 [(0, .ref (ad 1 j0)), (1, .int x1), (2, .int x2)] := hl
  unfold f_M_copyState at h
  have hkp : me_kp M0 M0 := me_kp.rf
  have hkb := hkp
  have b_32 : ∀ (fu : Nat), ∀ (M : me_M) (y3 : Int32) (H : Heap) (locs : List Loc) (ls : Array Slot), f_M_copyState_l32 j0 x1 x2 fu M y3 = (some MZ) → me_wf N M → me_kp M0 M → va_P D classes (me_W ad ca M) H → va_D A (me_W ad ca M) → va_S A s.heap H locs → lv_has ls 4 [(0, .ref (ad 1 j0)), (1, .int x1), (2, .int x2), (3, .int y3)] → W p l e rm_M_copyState s m [.ref (ad 1 j0), .int x1, .int x2].toArray below meth c H locs 0 0 (MQ below (q_M_copyState D ad ca N M0 MZ A) [.ref (ad 1 j0), .int x1, .int x2].toArray s rm_M_copyState.cells rm_M_copyState.slots A) (F0 m 32 ls []) := by
    intro fu
    induction fu with
    | zero =>
      intro M y3 H locs ls h hwf hkp hP hD hS hl
      cases h
    | succ fu ih =>
      intro M y3 H locs ls h hwf hkp hP hD hS hl
      unfold f_M_copyState_l32 at h
      have hkb := hkp
      refine lv_iload_n hx hb d_M_copyState_32 rfl (lv_at hl 3 rfl) ?_
      refine lv_bipush (v := 64) hx hb d_M_copyState_33 (by decide) ?_
      refine lv_icmp_ge (tgt := 66) hx hb d_M_copyState_35 (by decide) (fun c1 => ?_) (fun c1 => ?_)
      · have h := if_t c1 h
        exact me_retv (me_kp M0) h hx hb hr hlocks hwf hkp hP hK hD hS d_M_copyState_66
      have h := if_f c1 h
      refine lv_aload_n hx hb d_M_copyState_38 rfl (lv_at hl 0 rfl) ?_
      refine g_M_58 hx hb hts hown hK hP hwf hj0 (hts _ u_1799) d_M_copyState_39 ?_
      obtain ⟨j2, e3, h⟩ := bd_ob h
      have hj2 : j2 < N 13 := (hwf.2.1 1 j0 58 _ e3 (by decide) hj0)
      refine me_opt (j := j2) e3 ?_
      refine lv_bipush (v := 64) hx hb d_M_copyState_42 (by decide) ?_
      refine lv_iload_n hx hb d_M_copyState_44 rfl (lv_at hl 2 rfl) ?_
      refine lv_imul hx hb d_M_copyState_45 ?_
      refine lv_iload_n hx hb d_M_copyState_46 rfl (lv_at hl 3 rfl) ?_
      refine lv_iadd hx hb d_M_copyState_47 ?_
      refine lv_aload_n hx hb d_M_copyState_48 rfl (lv_at hl 0 rfl) ?_
      refine g_M_58 hx hb hts hown hK hP hwf hj0 (hts _ u_1799) d_M_copyState_49 ?_
      refine me_opt (j := j2) e3 ?_
      refine lv_bipush (v := 64) hx hb d_M_copyState_52 (by decide) ?_
      refine lv_iload_n hx hb d_M_copyState_54 rfl (lv_at hl 1 rfl) ?_
      refine lv_imul hx hb d_M_copyState_55 ?_
      refine lv_iload_n hx hb d_M_copyState_56 rfl (lv_at hl 3 rfl) ?_
      refine lv_iadd hx hb d_M_copyState_57 ?_
      obtain ⟨g4, h⟩ := gd_ob h
      refine me_iald hx hb hK hP hwf hj2 g4 d_M_copyState_58 ?_
      obtain ⟨g5, h⟩ := gd_ob h
      obtain ⟨M6, eM6, h⟩ := st_ob h
      refine me_iast eM6 hx hb hK hP hD hwf hS hj2 g5 d_M_copyState_59 (fun H locs hP hD hwf hS => ?_)
      have hkp := kp_I eM6 hkp
      refine lv_iinc (v := y3 + 1) (lv' := [(3, .int (y3 + 1)), (0, .ref (ad 1 j0)), (1, .int x1), (2, .int x2)]) hx hb d_M_copyState_60 hl (k := 3) rfl (by rfl) (by decide) rfl (fun ls hl => ?_)
      refine lv_goto (tgt := 32) hx hb d_M_copyState_63 (by decide) ?_
      exact ih M6 (y3 + 1) _ _ _ h hwf hkp hP hD hS (lv_sub hl [1, 2, 3, 0] rfl)
  have b_2 : ∀ (fu : Nat), ∀ (M : me_M) (y3 : Int32) (H : Heap) (locs : List Loc) (ls : Array Slot), f_M_copyState_l2 j0 x1 x2 fu M y3 = (some MZ) → me_wf N M → me_kp M0 M → va_P D classes (me_W ad ca M) H → va_D A (me_W ad ca M) → va_S A s.heap H locs → lv_has ls 4 [(0, .ref (ad 1 j0)), (1, .int x1), (2, .int x2), (3, .int y3)] → W p l e rm_M_copyState s m [.ref (ad 1 j0), .int x1, .int x2].toArray below meth c H locs 0 0 (MQ below (q_M_copyState D ad ca N M0 MZ A) [.ref (ad 1 j0), .int x1, .int x2].toArray s rm_M_copyState.cells rm_M_copyState.slots A) (F0 m 2 ls []) := by
    intro fu
    induction fu with
    | zero =>
      intro M y3 H locs ls h hwf hkp hP hD hS hl
      cases h
    | succ fu ih =>
      intro M y3 H locs ls h hwf hkp hP hD hS hl
      unfold f_M_copyState_l2 at h
      have hkb := hkp
      refine lv_iload_n hx hb d_M_copyState_2 rfl (lv_at hl 3 rfl) ?_
      refine lv_bipush (v := 75) hx hb d_M_copyState_3 (by decide) ?_
      refine lv_icmp_ge (tgt := 30) hx hb d_M_copyState_5 (by decide) (fun c7 => ?_) (fun c7 => ?_)
      · have h := if_t c7 h
        refine lv_iconst (v := 0) hx hb d_M_copyState_30 (by decide) ?_
        refine lv_istore_n (lv' := [(3, .int 0), (0, .ref (ad 1 j0)), (1, .int x1), (2, .int x2)]) hx hb d_M_copyState_31 rfl hl (by decide) rfl (fun ls hl => ?_)
        exact b_32 _ M (0 : Int32) _ _ _ h hwf hkp hP hD hS (lv_sub hl [1, 2, 3, 0] rfl)
      have h := if_f c7 h
      refine lv_aload_n hx hb d_M_copyState_8 rfl (lv_at hl 0 rfl) ?_
      refine lv_iload_n hx hb d_M_copyState_9 rfl (lv_at hl 1 rfl) ?_
      obtain ⟨r8, er8, h⟩ := bd_ob h
      refine me_pani' (r0 := r8) (fg_runS (wc := []) (tc := []) (A2 := A) (As := [.int x1]) (rest := [.ref (ad 1 j0)]) ⟨hx, hb, hml, hown, hts⟩ (c_M_rowOf l D r8 x1 er8 _) (by show fg_nm y_M_rowOf 1; decide +kernel) u_2060 u_2061 u_192 u_2062 ⟨Nat.le_of_ble_eq_true rfl, Nat.le_of_ble_eq_true rfl⟩ hX me_P0 (hK.sub (tys' := []) [] rfl) me_D0 rfl hl.1 (Nat.le_of_ble_eq_true rfl) d_M_copyState_10 ⟨Nat.le_of_ble_eq_true rfl, Nat.le_of_ble_eq_true rfl⟩) hP hD hK hS hA rfl rfl (fun H locs hw hP hD hS => ?_)
      refine lv_iload_n hx hb d_M_copyState_13 rfl (lv_at hl 3 rfl) ?_
      refine lv_iadd hx hb d_M_copyState_14 ?_
      refine lv_iload_n hx hb d_M_copyState_15 rfl (lv_at hl 2 rfl) ?_
      obtain ⟨r9, er9, h⟩ := bd_ob h
      refine me_pani' (r0 := r9) (fg_runS (wc := []) (tc := []) (A2 := A) (As := [.int x2]) (rest := [.int (r8 + y3), .ref (ad 1 j0)]) ⟨hx, hb, hml, hown, hts⟩ (c_M_rowOf l D r9 x2 er9 _) (by show fg_nm y_M_rowOf 1; decide +kernel) u_2060 u_2061 u_192 u_2062 ⟨Nat.le_of_ble_eq_true rfl, Nat.le_of_ble_eq_true rfl⟩ hX me_P0 (hK.sub (tys' := []) [] rfl) me_D0 rfl hl.1 (Nat.le_of_ble_eq_true rfl) d_M_copyState_16 ⟨Nat.le_of_ble_eq_true rfl, Nat.le_of_ble_eq_true rfl⟩) hP hD hK hS hA rfl rfl (fun H locs hw hP hD hS => ?_)
      refine lv_iload_n hx hb d_M_copyState_19 rfl (lv_at hl 3 rfl) ?_
      refine lv_iadd hx hb d_M_copyState_20 ?_
      obtain ⟨M10, eM10, h⟩ := bd_ob h
      refine me_thenv0 (M1 := M10) (me_runV (C := "FilterGuardModel") (As := [.int (r8 + y3), .int (r9 + y3)]) (rest := []) ⟨hx, hb, hml, hown, hts⟩ (c_M_copyItem l D ad ca N M M10 j0 (r8 + y3) (r9 + y3) eM10 hwf hj0 _) rfl (by show fg_nm y_M_copyItem 2; decide +kernel) u_2092 u_2094 u_102 u_192 u_2095 ⟨Nat.le_of_ble_eq_true rfl, Nat.le_of_ble_eq_true rfl⟩ hX hz hK hP hD hwf hS hA hj0 (by decide) rfl rfl rfl hl.1 (Nat.le_of_ble_eq_true rfl) d_M_copyState_21 ⟨Nat.le_of_ble_eq_true rfl, Nat.le_of_ble_eq_true rfl⟩) hP hD hK hS hA rfl rfl (fun H locs hw hP hD hS => ?_)
      obtain ⟨hwf, hk9⟩ := hw
      have hkp := hkp.tr hk9
      refine lv_iinc (v := y3 + 1) (lv' := [(3, .int (y3 + 1)), (0, .ref (ad 1 j0)), (1, .int x1), (2, .int x2)]) hx hb d_M_copyState_24 hl (k := 3) rfl (by rfl) (by decide) rfl (fun ls hl => ?_)
      refine lv_goto (tgt := 2) hx hb d_M_copyState_27 (by decide) ?_
      exact ih M10 (y3 + 1) _ _ _ h hwf hkp hP hD hS (lv_sub hl [1, 2, 3, 0] rfl)
  refine lv_iconst (v := 0) hx hb d_M_copyState_0 (by decide) ?_
  refine lv_istore_n (lv' := [(3, .int 0), (0, .ref (ad 1 j0)), (1, .int x1), (2, .int x2)]) hx hb d_M_copyState_1 rfl hl (by decide) rfl (fun ls hl => ?_)
  exact b_2 _ M0 (0 : Int32) _ _ _ h hwf hkp hP hD hS (lv_sub hl [1, 2, 3, 0] rfl)
theorem d_M_clear_0 : decode prog_14_method_61_code 0 = .ok (.aload_n 0, 1) := by decide +kernel
theorem d_M_clear_1 : decode prog_14_method_61_code 1 = .ok (.getfield 89, 3) := by decide +kernel
theorem d_M_clear_4 : decode prog_14_method_61_code 4 = .ok (.iload_n 1, 1) := by decide +kernel
theorem d_M_clear_5 : decode prog_14_method_61_code 5 = .ok (.iconst 0, 1) := by decide +kernel
theorem d_M_clear_6 : decode prog_14_method_61_code 6 = .ok (.bastore, 1) := by decide +kernel
theorem d_M_clear_7 : decode prog_14_method_61_code 7 = .ok (.aload_n 0, 1) := by decide +kernel
theorem d_M_clear_8 : decode prog_14_method_61_code 8 = .ok (.getfield 92, 3) := by decide +kernel
theorem d_M_clear_11 : decode prog_14_method_61_code 11 = .ok (.iload_n 1, 1) := by decide +kernel
theorem d_M_clear_12 : decode prog_14_method_61_code 12 = .ok (.iconst 0, 1) := by decide +kernel
theorem d_M_clear_13 : decode prog_14_method_61_code 13 = .ok (.iastore, 1) := by decide +kernel
theorem d_M_clear_14 : decode prog_14_method_61_code 14 = .ok (.aload_n 0, 1) := by decide +kernel
theorem d_M_clear_15 : decode prog_14_method_61_code 15 = .ok (.getfield 95, 3) := by decide +kernel
theorem d_M_clear_18 : decode prog_14_method_61_code 18 = .ok (.iload_n 1, 1) := by decide +kernel
theorem d_M_clear_19 : decode prog_14_method_61_code 19 = .ok (.iconst 0, 1) := by decide +kernel
theorem d_M_clear_20 : decode prog_14_method_61_code 20 = .ok (.iastore, 1) := by decide +kernel
theorem d_M_clear_21 : decode prog_14_method_61_code 21 = .ok (.aload_n 0, 1) := by decide +kernel
theorem d_M_clear_22 : decode prog_14_method_61_code 22 = .ok (.getfield 98, 3) := by decide +kernel
theorem d_M_clear_25 : decode prog_14_method_61_code 25 = .ok (.iload_n 1, 1) := by decide +kernel
theorem d_M_clear_26 : decode prog_14_method_61_code 26 = .ok (.iconst 0, 1) := by decide +kernel
theorem d_M_clear_27 : decode prog_14_method_61_code 27 = .ok (.iastore, 1) := by decide +kernel
theorem d_M_clear_28 : decode prog_14_method_61_code 28 = .ok (.aload_n 0, 1) := by decide +kernel
theorem d_M_clear_29 : decode prog_14_method_61_code 29 = .ok (.getfield 101, 3) := by decide +kernel
theorem d_M_clear_32 : decode prog_14_method_61_code 32 = .ok (.iload_n 1, 1) := by decide +kernel
theorem d_M_clear_33 : decode prog_14_method_61_code 33 = .ok (.iconst 0, 1) := by decide +kernel
theorem d_M_clear_34 : decode prog_14_method_61_code 34 = .ok (.iastore, 1) := by decide +kernel
theorem d_M_clear_35 : decode prog_14_method_61_code 35 = .ok (.return_, 1) := by decide +kernel
abbrev y_M_clear : MethodName := ⟨"FilterGuardModel", "clear", "(I)V"⟩
def rm_M_clear : Room := { frames := 1, cells := 0, slots := 0, locals := 20 }
abbrev q_M_clear (D : va_G) (ad : Nat → Nat → Nat) (ca : Nat → ClassId) (N : Nat → Nat) (M0 MZ : me_M) (A : Nat → Prop) : Array Value → Jvm.State → Outcome → Jvm.State → Prop := va_Qv (fun (_ : Unit) => me_wf N MZ ∧ me_kp M0 MZ) (fg_B D A (fun _ => me_W ad ca MZ) (fun _ => [])) A
set_option maxHeartbeats 4000000 in
set_option maxRecDepth 100000 in
theorem c_M_clear (l : Launch) (D : va_G) (ad : Nat → Nat → Nat) (ca : Nat → ClassId) (N : Nat → Nat) (M0 MZ : me_M) (j0 : Nat) (x1 : Int32) (h : f_M_clear M0 j0 x1 = (some MZ)) (hwf : me_wf N M0) (hj0 : j0 < N 1) (sz : Nat) : Met l y_M_clear (fg_w y_M_clear prog_14_method_61_code 2 none) rm_M_clear (va_Pc [.ref (ad 1 j0), .int x1] (fz_P D (me_T ca) (me_W ad ca M0) sz)) (q_M_clear D ad ca N M0 MZ (va_A (me_W ad ca M0) sz)) rm_M_clear.cells rm_M_clear.slots (va_A (me_W ad ca M0) sz) := by
  refine fz_enter (fun A => q_M_clear D ad ca N M0 MZ A) (by decide +kernel) (Nat.le_of_ble_eq_true rfl) ?_
  intro p e s m below meth c ls A hx hb hml hown hts hr hlocks hin hP hK hD hS hA hX hl hz
  have hl : lv_has ls 2 [(0, .ref (ad 1 j0)), (1, .int x1)] := hl
  unfold f_M_clear at h
  have hkp : me_kp M0 M0 := me_kp.rf
  have hkb := hkp
  refine lv_aload_n hx hb d_M_clear_0 rfl (lv_at hl 0 rfl) ?_
  refine g_M_47 hx hb hts hown hK hP hwf hj0 (hts _ u_1788) d_M_clear_1 ?_
  obtain ⟨j1, e2, h⟩ := bd_ob h
  have hj1 : j1 < N 14 := (hwf.2.1 1 j0 47 _ e2 (by decide) hj0)
  refine me_opt (j := j1) e2 ?_
  refine lv_iload_n hx hb d_M_clear_4 rfl (lv_at hl 1 rfl) ?_
  refine lv_iconst (v := 0) hx hb d_M_clear_5 (by decide) ?_
  obtain ⟨g3, h⟩ := gd_ob h
  obtain ⟨M4, eM4, h⟩ := st_ob h
  refine me_bast eM4 hx hb hK hP hD hwf hS hj1 g3 d_M_clear_6 (fun H locs hP hD hwf hS => ?_)
  have hkp := kp_I eM4 hkp
  refine lv_aload_n hx hb d_M_clear_7 rfl (lv_at hl 0 rfl) ?_
  refine g_M_48 hx hb hts hown hK hP hwf hj0 (hts _ u_1789) d_M_clear_8 ?_
  obtain ⟨j5, e6, h⟩ := bd_ob h
  have hj5 : j5 < N 13 := (hwf.2.1 1 j0 48 _ (kp_r hkb hkp e6) (by decide) hj0)
  refine me_opt (j := j5) (kp_r hkb hkp e6) ?_
  refine lv_iload_n hx hb d_M_clear_11 rfl (lv_at hl 1 rfl) ?_
  refine lv_iconst (v := 0) hx hb d_M_clear_12 (by decide) ?_
  obtain ⟨g7, h⟩ := gd_ob h
  obtain ⟨M8, eM8, h⟩ := st_ob h
  refine me_iast eM8 hx hb hK hP hD hwf hS hj5 (kp_z hkb.z hkp.z g7) d_M_clear_13 (fun H locs hP hD hwf hS => ?_)
  have hkp := kp_I eM8 hkp
  refine lv_aload_n hx hb d_M_clear_14 rfl (lv_at hl 0 rfl) ?_
  refine g_M_49 hx hb hts hown hK hP hwf hj0 (hts _ u_1790) d_M_clear_15 ?_
  obtain ⟨j9, e10, h⟩ := bd_ob h
  have hj9 : j9 < N 13 := (hwf.2.1 1 j0 49 _ (kp_r hkb hkp e10) (by decide) hj0)
  refine me_opt (j := j9) (kp_r hkb hkp e10) ?_
  refine lv_iload_n hx hb d_M_clear_18 rfl (lv_at hl 1 rfl) ?_
  refine lv_iconst (v := 0) hx hb d_M_clear_19 (by decide) ?_
  obtain ⟨g11, h⟩ := gd_ob h
  obtain ⟨M12, eM12, h⟩ := st_ob h
  refine me_iast eM12 hx hb hK hP hD hwf hS hj9 (kp_z hkb.z hkp.z g11) d_M_clear_20 (fun H locs hP hD hwf hS => ?_)
  have hkp := kp_I eM12 hkp
  refine lv_aload_n hx hb d_M_clear_21 rfl (lv_at hl 0 rfl) ?_
  refine g_M_50 hx hb hts hown hK hP hwf hj0 (hts _ u_1791) d_M_clear_22 ?_
  obtain ⟨j13, e14, h⟩ := bd_ob h
  have hj13 : j13 < N 13 := (hwf.2.1 1 j0 50 _ (kp_r hkb hkp e14) (by decide) hj0)
  refine me_opt (j := j13) (kp_r hkb hkp e14) ?_
  refine lv_iload_n hx hb d_M_clear_25 rfl (lv_at hl 1 rfl) ?_
  refine lv_iconst (v := 0) hx hb d_M_clear_26 (by decide) ?_
  obtain ⟨g15, h⟩ := gd_ob h
  obtain ⟨M16, eM16, h⟩ := st_ob h
  refine me_iast eM16 hx hb hK hP hD hwf hS hj13 (kp_z hkb.z hkp.z g15) d_M_clear_27 (fun H locs hP hD hwf hS => ?_)
  have hkp := kp_I eM16 hkp
  refine lv_aload_n hx hb d_M_clear_28 rfl (lv_at hl 0 rfl) ?_
  refine g_M_51 hx hb hts hown hK hP hwf hj0 (hts _ u_1792) d_M_clear_29 ?_
  obtain ⟨j17, e18, h⟩ := bd_ob h
  have hj17 : j17 < N 13 := (hwf.2.1 1 j0 51 _ (kp_r hkb hkp e18) (by decide) hj0)
  refine me_opt (j := j17) (kp_r hkb hkp e18) ?_
  refine lv_iload_n hx hb d_M_clear_32 rfl (lv_at hl 1 rfl) ?_
  refine lv_iconst (v := 0) hx hb d_M_clear_33 (by decide) ?_
  obtain ⟨g19, h⟩ := gd_ob h
  obtain ⟨M20, eM20, h⟩ := st_ob h
  refine me_iast eM20 hx hb hK hP hD hwf hS hj17 (kp_z hkb.z hkp.z g19) d_M_clear_34 (fun H locs hP hD hwf hS => ?_)
  have hkp := kp_I eM20 hkp
  exact me_retv (me_kp M0) h hx hb hr hlocks hwf hkp hP hK hD hS d_M_clear_35
theorem d_M_setKind_0 : decode prog_14_method_62_code 0 = .ok (.aload_n 0, 1) := by decide +kernel
theorem d_M_setKind_1 : decode prog_14_method_62_code 1 = .ok (.iload_n 1, 1) := by decide +kernel
theorem d_M_setKind_2 : decode prog_14_method_62_code 2 = .ok (.invokevirtual 363, 3) := by decide +kernel
theorem u_2040 : Cond.methodLink "FilterGuardModel" 363 ⟨"FilterGuardModel", "clear", "(I)V"⟩ ∈ fg_g := fg_in (List.mem_of_getElem? (i := 2040) (by decide +kernel)) rfl
theorem u_2043 : Cond.code ⟨"FilterGuardModel", "clear", "(I)V"⟩ prog_14_method_61_code 2 none ∈ fg_g := fg_in (List.mem_of_getElem? (i := 2043) (by decide +kernel)) rfl
theorem u_2042 : Cond.instanceMethod ⟨"FilterGuardModel", "clear", "(I)V"⟩ ∈ fg_g := fg_in (List.mem_of_getElem? (i := 2042) (by decide +kernel)) rfl
theorem u_91 : Cond.selects "FilterGuardModel" ⟨"FilterGuardModel", "clear", "(I)V"⟩ ⟨"FilterGuardModel", "clear", "(I)V"⟩ ∈ fg_g := fg_in (List.mem_of_getElem? (i := 91) (by decide +kernel)) rfl
theorem d_M_setKind_5 : decode prog_14_method_62_code 5 = .ok (.aload_n 0, 1) := by decide +kernel
theorem d_M_setKind_6 : decode prog_14_method_62_code 6 = .ok (.getfield 89, 3) := by decide +kernel
theorem d_M_setKind_9 : decode prog_14_method_62_code 9 = .ok (.iload_n 1, 1) := by decide +kernel
theorem d_M_setKind_10 : decode prog_14_method_62_code 10 = .ok (.iload_n 2, 1) := by decide +kernel
theorem d_M_setKind_11 : decode prog_14_method_62_code 11 = .ok (.i2b, 1) := by decide +kernel
theorem d_M_setKind_12 : decode prog_14_method_62_code 12 = .ok (.bastore, 1) := by decide +kernel
theorem d_M_setKind_13 : decode prog_14_method_62_code 13 = .ok (.return_, 1) := by decide +kernel
abbrev y_M_setKind : MethodName := ⟨"FilterGuardModel", "setKind", "(II)V"⟩
def rm_M_setKind : Room := { frames := 2, cells := 0, slots := 0, locals := 41 }
abbrev q_M_setKind (D : va_G) (ad : Nat → Nat → Nat) (ca : Nat → ClassId) (N : Nat → Nat) (M0 MZ : me_M) (A : Nat → Prop) : Array Value → Jvm.State → Outcome → Jvm.State → Prop := va_Qv (fun (_ : Unit) => me_wf N MZ ∧ me_kp M0 MZ) (fg_B D A (fun _ => me_W ad ca MZ) (fun _ => [])) A
set_option maxHeartbeats 4000000 in
set_option maxRecDepth 100000 in
theorem c_M_setKind (l : Launch) (D : va_G) (ad : Nat → Nat → Nat) (ca : Nat → ClassId) (N : Nat → Nat) (M0 MZ : me_M) (j0 : Nat) (x1 : Int32) (x2 : Int32) (h : f_M_setKind M0 j0 x1 x2 = (some MZ)) (hwf : me_wf N M0) (hj0 : j0 < N 1) (sz : Nat) : Met l y_M_setKind (fg_w y_M_setKind prog_14_method_62_code 3 none) rm_M_setKind (va_Pc [.ref (ad 1 j0), .int x1, .int x2] (fz_P D (me_T ca) (me_W ad ca M0) sz)) (q_M_setKind D ad ca N M0 MZ (va_A (me_W ad ca M0) sz)) rm_M_setKind.cells rm_M_setKind.slots (va_A (me_W ad ca M0) sz) := by
  refine fz_enter (fun A => q_M_setKind D ad ca N M0 MZ A) (by decide +kernel) (Nat.le_of_ble_eq_true rfl) ?_
  intro p e s m below meth c ls A hx hb hml hown hts hr hlocks hin hP hK hD hS hA hX hl hz
  have hl : lv_has ls 3 [(0, .ref (ad 1 j0)), (1, .int x1), (2, .int x2)] := hl
  unfold f_M_setKind at h
  have hkp : me_kp M0 M0 := me_kp.rf
  have hkb := hkp
  refine lv_aload_n hx hb d_M_setKind_0 rfl (lv_at hl 0 rfl) ?_
  refine lv_iload_n hx hb d_M_setKind_1 rfl (lv_at hl 1 rfl) ?_
  obtain ⟨M1, eM1, h⟩ := bd_ob h
  refine me_thenv0 (M1 := M1) (me_runV (C := "FilterGuardModel") (As := [.int x1]) (rest := []) ⟨hx, hb, hml, hown, hts⟩ (c_M_clear l D ad ca N M0 M1 j0 x1 eM1 hwf hj0 _) rfl (by show fg_nm y_M_clear 1; decide +kernel) u_2040 u_2042 u_91 u_192 u_2043 ⟨Nat.le_of_ble_eq_true rfl, Nat.le_of_ble_eq_true rfl⟩ hX hz hK hP hD hwf hS hA hj0 (by decide) rfl rfl rfl hl.1 (Nat.le_of_ble_eq_true rfl) d_M_setKind_2 ⟨Nat.le_of_ble_eq_true rfl, Nat.le_of_ble_eq_true rfl⟩) hP hD hK hS hA rfl rfl (fun H locs hw hP hD hS => ?_)
  obtain ⟨hwf, hk9⟩ := hw
  have hkp := hkp.tr hk9
  refine lv_aload_n hx hb d_M_setKind_5 rfl (lv_at hl 0 rfl) ?_
  refine g_M_47 hx hb hts hown hK hP hwf hj0 (hts _ u_1788) d_M_setKind_6 ?_
  obtain ⟨j2, e3, h⟩ := bd_ob h
  have hj2 : j2 < N 14 := (hwf.2.1 1 j0 47 _ (kp_r hkb hkp e3) (by decide) hj0)
  refine me_opt (j := j2) (kp_r hkb hkp e3) ?_
  refine lv_iload_n hx hb d_M_setKind_9 rfl (lv_at hl 1 rfl) ?_
  refine lv_iload_n hx hb d_M_setKind_10 rfl (lv_at hl 2 rfl) ?_
  refine lv_i2b (v := x2.toInt8.toInt32) hx hb d_M_setKind_11 rfl ?_
  obtain ⟨g4, h⟩ := gd_ob h
  obtain ⟨M5, eM5, h⟩ := st_ob h
  refine me_bast eM5 hx hb hK hP hD hwf hS hj2 (kp_z hkb.z hkp.z g4) d_M_setKind_12 (fun H locs hP hD hwf hS => ?_)
  have hkp := kp_I eM5 hkp
  exact me_retv (me_kp M0) h hx hb hr hlocks hwf hkp hP hK hD hS d_M_setKind_13
theorem d_M_begin_21 : decode prog_14_method_63_code 21 = .ok (.iload_n 1, 1) := by decide +kernel
theorem d_M_begin_22 : decode prog_14_method_63_code 22 = .ok (.bipush 64, 2) := by decide +kernel
theorem d_M_begin_24 : decode prog_14_method_63_code 24 = .ok (.if_icmp .ge 16, 3) := by decide +kernel
theorem d_M_begin_40 : decode prog_14_method_63_code 40 = .ok (.aload_n 0, 1) := by decide +kernel
theorem d_M_begin_41 : decode prog_14_method_63_code 41 = .ok (.iconst 1, 1) := by decide +kernel
theorem d_M_begin_42 : decode prog_14_method_63_code 42 = .ok (.iconst 2, 1) := by decide +kernel
theorem d_M_begin_43 : decode prog_14_method_63_code 43 = .ok (.invokevirtual 366, 3) := by decide +kernel
theorem u_2044 : Cond.methodLink "FilterGuardModel" 366 ⟨"FilterGuardModel", "setKind", "(II)V"⟩ ∈ fg_g := fg_in (List.mem_of_getElem? (i := 2044) (by decide +kernel)) rfl
theorem u_2047 : Cond.code ⟨"FilterGuardModel", "setKind", "(II)V"⟩ prog_14_method_62_code 3 none ∈ fg_g := fg_in (List.mem_of_getElem? (i := 2047) (by decide +kernel)) rfl
theorem u_2046 : Cond.instanceMethod ⟨"FilterGuardModel", "setKind", "(II)V"⟩ ∈ fg_g := fg_in (List.mem_of_getElem? (i := 2046) (by decide +kernel)) rfl
theorem u_92 : Cond.selects "FilterGuardModel" ⟨"FilterGuardModel", "setKind", "(II)V"⟩ ⟨"FilterGuardModel", "setKind", "(II)V"⟩ ∈ fg_g := fg_in (List.mem_of_getElem? (i := 92) (by decide +kernel)) rfl
theorem d_M_begin_46 : decode prog_14_method_63_code 46 = .ok (.aload_n 0, 1) := by decide +kernel
theorem d_M_begin_47 : decode prog_14_method_63_code 47 = .ok (.bipush 10, 2) := by decide +kernel
theorem d_M_begin_49 : decode prog_14_method_63_code 49 = .ok (.iconst 3, 1) := by decide +kernel
theorem d_M_begin_50 : decode prog_14_method_63_code 50 = .ok (.invokevirtual 366, 3) := by decide +kernel
theorem d_M_begin_53 : decode prog_14_method_63_code 53 = .ok (.aload_n 0, 1) := by decide +kernel
theorem d_M_begin_54 : decode prog_14_method_63_code 54 = .ok (.iconst 0, 1) := by decide +kernel
theorem d_M_begin_55 : decode prog_14_method_63_code 55 = .ok (.putfield 369, 3) := by decide +kernel
theorem u_1800 : Cond.fieldLink "FilterGuardModel" 369 "FilterGuardModel" "identities" "I" ∈ fg_g := fg_in (List.mem_of_getElem? (i := 1800) (by decide +kernel)) rfl
theorem p_M_59 {p : Program} {l : Launch} {e : Env} {R : Room} {s : Jvm.State} {m : MethodId} {args : Array Value} {below : List Frame} {meth : Method} {c : Code} {H : Heap} {locs : List Loc} {cells slots : Nat} {Q : Jvm.State → Prop} {cc : ByteArray} {pc : Nat} {ls : Array Slot} {rest : List Value} {D : va_G} {A : Nat → Prop} {H0 : Heap} {ad : Nat → Nat → Nat} {ca : Nat → ClassId} {M M1 : me_M} {N : Nat → Nat} {own : String} {index j : Nat} {v : Int32} (he : M1 = wI M 1 j 59 v) (hexec : p.tables.exec = Jvm.exec) (hb : c.code = cc) (hts : ∀ w ∈ fg_g, w.before args s = true) (hown : s.vm.findClass own = some m.cls) (hK : va_K D classes (me_T ca) s) (hP : va_P D classes (me_W ad ca M) H) (hD : va_D A (me_W ad ca M)) (hwf : me_wf N M) (hS : va_S A H0 H locs) (hj : j < N 1) (hlink : (Cond.fieldLink own index "FilterGuardModel" "identities" "I").before args s = true) (hdg : decode cc pc = .ok (.putfield index, 3)) (kk : ∀ (H1 : Heap) (locs1 : List Loc), va_P D classes (me_W ad ca M1) H1 → va_D A (me_W ad ca M1) → me_wf N M1 → va_S A H0 H1 locs1 → W p l e R s m args below meth c H1 locs1 cells slots Q (F0 m (pc + 3) ls rest)) : W p l e R s m args below meth c H locs cells slots Q (F0 m pc ls (.int v :: .ref (ad 1 j) :: rest)) := by
  subst he
  exact me_put (M1 := wI M 1 j 59 v) (k := 1) (f := 59) (C := "FilterGuardModel") (T := F_M) (Nf := 75) hexec hb hts i_M t_M t_M_ok n_M hown hK hP hD hwf hS hj (by decide) rfl (by decide) (by decide) hlink (fun _ h9 => h9) rfl rfl rfl rfl (fun a b h => me_wIE h) (me_fIw (by decide) (by decide)) hdg (fun H1 locs1 a1 a2 a3 => kk H1 locs1 a1 a2 (me_wfI hwf (fun z => absurd z (by decide)) (fun z => absurd z (by decide))) a3)
theorem d_M_begin_58 : decode prog_14_method_63_code 58 = .ok (.return_, 1) := by decide +kernel
theorem d_M_begin_27 : decode prog_14_method_63_code 27 = .ok (.aload_n 0, 1) := by decide +kernel
theorem d_M_begin_28 : decode prog_14_method_63_code 28 = .ok (.getfield 122, 3) := by decide +kernel
theorem d_M_begin_31 : decode prog_14_method_63_code 31 = .ok (.iload_n 1, 1) := by decide +kernel
theorem d_M_begin_32 : decode prog_14_method_63_code 32 = .ok (.iconst 0, 1) := by decide +kernel
theorem d_M_begin_33 : decode prog_14_method_63_code 33 = .ok (.iastore, 1) := by decide +kernel
theorem d_M_begin_34 : decode prog_14_method_63_code 34 = .ok (.iinc 1 1, 3) := by decide +kernel
theorem d_M_begin_37 : decode prog_14_method_63_code 37 = .ok (.goto (-16), 3) := by decide +kernel
theorem d_M_begin_2 : decode prog_14_method_63_code 2 = .ok (.iload_n 1, 1) := by decide +kernel
theorem d_M_begin_3 : decode prog_14_method_63_code 3 = .ok (.bipush 75, 2) := by decide +kernel
theorem d_M_begin_5 : decode prog_14_method_63_code 5 = .ok (.if_icmp .ge 14, 3) := by decide +kernel
theorem d_M_begin_19 : decode prog_14_method_63_code 19 = .ok (.iconst 0, 1) := by decide +kernel
theorem d_M_begin_20 : decode prog_14_method_63_code 20 = .ok (.istore_n 1, 1) := by decide +kernel
theorem d_M_begin_8 : decode prog_14_method_63_code 8 = .ok (.aload_n 0, 1) := by decide +kernel
theorem d_M_begin_9 : decode prog_14_method_63_code 9 = .ok (.iload_n 1, 1) := by decide +kernel
theorem d_M_begin_10 : decode prog_14_method_63_code 10 = .ok (.invokevirtual 363, 3) := by decide +kernel
theorem d_M_begin_13 : decode prog_14_method_63_code 13 = .ok (.iinc 1 1, 3) := by decide +kernel
theorem d_M_begin_16 : decode prog_14_method_63_code 16 = .ok (.goto (-14), 3) := by decide +kernel
theorem d_M_begin_0 : decode prog_14_method_63_code 0 = .ok (.iconst 0, 1) := by decide +kernel
theorem d_M_begin_1 : decode prog_14_method_63_code 1 = .ok (.istore_n 1, 1) := by decide +kernel
abbrev y_M_begin : MethodName := ⟨"FilterGuardModel", "begin", "()V"⟩
def rm_M_begin : Room := { frames := 3, cells := 0, slots := 0, locals := 63 }
abbrev q_M_begin (D : va_G) (ad : Nat → Nat → Nat) (ca : Nat → ClassId) (N : Nat → Nat) (M0 MZ : me_M) (A : Nat → Prop) : Array Value → Jvm.State → Outcome → Jvm.State → Prop := va_Qv (fun (_ : Unit) => me_wf N MZ ∧ me_kp M0 MZ) (fg_B D A (fun _ => me_W ad ca MZ) (fun _ => [])) A
set_option maxHeartbeats 4000000 in
set_option maxRecDepth 100000 in
theorem c_M_begin (l : Launch) (D : va_G) (ad : Nat → Nat → Nat) (ca : Nat → ClassId) (N : Nat → Nat) (M0 MZ : me_M) (j0 : Nat) (h : f_M_begin M0 j0 = (some MZ)) (hwf : me_wf N M0) (hj0 : j0 < N 1) (sz : Nat) : Met l y_M_begin (fg_w y_M_begin prog_14_method_63_code 2 none) rm_M_begin (va_Pc [.ref (ad 1 j0)] (fz_P D (me_T ca) (me_W ad ca M0) sz)) (q_M_begin D ad ca N M0 MZ (va_A (me_W ad ca M0) sz)) rm_M_begin.cells rm_M_begin.slots (va_A (me_W ad ca M0) sz) := by
  refine fz_enter (fun A => q_M_begin D ad ca N M0 MZ A) (by decide +kernel) (Nat.le_of_ble_eq_true rfl) ?_
  intro p e s m below meth c ls A hx hb hml hown hts hr hlocks hin hP hK hD hS hA hX hl hz
  have hl : lv_has ls 2 [(0, .ref (ad 1 j0))] := hl
  unfold f_M_begin at h
  have hkp : me_kp M0 M0 := me_kp.rf
  have hkb := hkp
  have b_21 : ∀ (fu : Nat), ∀ (M : me_M) (y1 : Int32) (H : Heap) (locs : List Loc) (ls : Array Slot), f_M_begin_l21 j0 fu M y1 = (some MZ) → me_wf N M → me_kp M0 M → va_P D classes (me_W ad ca M) H → va_D A (me_W ad ca M) → va_S A s.heap H locs → lv_has ls 2 [(0, .ref (ad 1 j0)), (1, .int y1)] → W p l e rm_M_begin s m [.ref (ad 1 j0)].toArray below meth c H locs 0 0 (MQ below (q_M_begin D ad ca N M0 MZ A) [.ref (ad 1 j0)].toArray s rm_M_begin.cells rm_M_begin.slots A) (F0 m 21 ls []) := by
    intro fu
    induction fu with
    | zero =>
      intro M y1 H locs ls h hwf hkp hP hD hS hl
      cases h
    | succ fu ih =>
      intro M y1 H locs ls h hwf hkp hP hD hS hl
      unfold f_M_begin_l21 at h
      have hkb := hkp
      refine lv_iload_n hx hb d_M_begin_21 rfl (lv_at hl 1 rfl) ?_
      refine lv_bipush (v := 64) hx hb d_M_begin_22 (by decide) ?_
      refine lv_icmp_ge (tgt := 40) hx hb d_M_begin_24 (by decide) (fun c1 => ?_) (fun c1 => ?_)
      · have h := if_t c1 h
        refine lv_aload_n hx hb d_M_begin_40 rfl (lv_at hl 0 rfl) ?_
        refine lv_iconst (v := 1) hx hb d_M_begin_41 (by decide) ?_
        refine lv_iconst (v := 2) hx hb d_M_begin_42 (by decide) ?_
        obtain ⟨M2, eM2, h⟩ := bd_ob h
        refine me_thenv0 (M1 := M2) (me_runV (C := "FilterGuardModel") (As := [.int 1, .int 2]) (rest := []) ⟨hx, hb, hml, hown, hts⟩ (c_M_setKind l D ad ca N M M2 j0 (1 : Int32) (2 : Int32) eM2 hwf hj0 _) rfl (by show fg_nm y_M_setKind 2; decide +kernel) u_2044 u_2046 u_92 u_192 u_2047 ⟨Nat.le_of_ble_eq_true rfl, Nat.le_of_ble_eq_true rfl⟩ hX hz hK hP hD hwf hS hA hj0 (by decide) rfl rfl rfl hl.1 (Nat.le_of_ble_eq_true rfl) d_M_begin_43 ⟨Nat.le_of_ble_eq_true rfl, Nat.le_of_ble_eq_true rfl⟩) hP hD hK hS hA rfl rfl (fun H locs hw hP hD hS => ?_)
        obtain ⟨hwf, hk9⟩ := hw
        have hkp := hkp.tr hk9
        refine lv_aload_n hx hb d_M_begin_46 rfl (lv_at hl 0 rfl) ?_
        refine lv_bipush (v := 10) hx hb d_M_begin_47 (by decide) ?_
        refine lv_iconst (v := 3) hx hb d_M_begin_49 (by decide) ?_
        obtain ⟨M3, eM3, h⟩ := bd_ob h
        refine me_thenv0 (M1 := M3) (me_runV (C := "FilterGuardModel") (As := [.int 10, .int 3]) (rest := []) ⟨hx, hb, hml, hown, hts⟩ (c_M_setKind l D ad ca N M2 M3 j0 (10 : Int32) (3 : Int32) eM3 hwf hj0 _) rfl (by show fg_nm y_M_setKind 2; decide +kernel) u_2044 u_2046 u_92 u_192 u_2047 ⟨Nat.le_of_ble_eq_true rfl, Nat.le_of_ble_eq_true rfl⟩ hX hz hK hP hD hwf hS hA hj0 (by decide) rfl rfl rfl hl.1 (Nat.le_of_ble_eq_true rfl) d_M_begin_50 ⟨Nat.le_of_ble_eq_true rfl, Nat.le_of_ble_eq_true rfl⟩) hP hD hK hS hA rfl rfl (fun H locs hw hP hD hS => ?_)
        obtain ⟨hwf, hk9⟩ := hw
        have hkp := hkp.tr hk9
        refine lv_aload_n hx hb d_M_begin_53 rfl (lv_at hl 0 rfl) ?_
        refine lv_iconst (v := 0) hx hb d_M_begin_54 (by decide) ?_
        obtain ⟨M4, eM4, h⟩ := st_ob h
        refine p_M_59 eM4 hx hb hts hown hK hP hD hwf hS hj0 (hts _ u_1800) d_M_begin_55 (fun H locs hP hD hwf hS => ?_)
        have hkp := kp_I eM4 hkp
        exact me_retv (me_kp M0) h hx hb hr hlocks hwf hkp hP hK hD hS d_M_begin_58
      have h := if_f c1 h
      refine lv_aload_n hx hb d_M_begin_27 rfl (lv_at hl 0 rfl) ?_
      refine g_M_58 hx hb hts hown hK hP hwf hj0 (hts _ u_1799) d_M_begin_28 ?_
      obtain ⟨j5, e6, h⟩ := bd_ob h
      have hj5 : j5 < N 13 := (hwf.2.1 1 j0 58 _ e6 (by decide) hj0)
      refine me_opt (j := j5) e6 ?_
      refine lv_iload_n hx hb d_M_begin_31 rfl (lv_at hl 1 rfl) ?_
      refine lv_iconst (v := 0) hx hb d_M_begin_32 (by decide) ?_
      obtain ⟨g7, h⟩ := gd_ob h
      obtain ⟨M8, eM8, h⟩ := st_ob h
      refine me_iast eM8 hx hb hK hP hD hwf hS hj5 g7 d_M_begin_33 (fun H locs hP hD hwf hS => ?_)
      have hkp := kp_I eM8 hkp
      refine lv_iinc (v := y1 + 1) (lv' := [(1, .int (y1 + 1)), (0, .ref (ad 1 j0))]) hx hb d_M_begin_34 hl (k := 1) rfl (by rfl) (by decide) rfl (fun ls hl => ?_)
      refine lv_goto (tgt := 21) hx hb d_M_begin_37 (by decide) ?_
      exact ih M8 (y1 + 1) _ _ _ h hwf hkp hP hD hS (lv_sub hl [1, 0] rfl)
  have b_2 : ∀ (fu : Nat), ∀ (M : me_M) (y1 : Int32) (H : Heap) (locs : List Loc) (ls : Array Slot), f_M_begin_l2 j0 fu M y1 = (some MZ) → me_wf N M → me_kp M0 M → va_P D classes (me_W ad ca M) H → va_D A (me_W ad ca M) → va_S A s.heap H locs → lv_has ls 2 [(0, .ref (ad 1 j0)), (1, .int y1)] → W p l e rm_M_begin s m [.ref (ad 1 j0)].toArray below meth c H locs 0 0 (MQ below (q_M_begin D ad ca N M0 MZ A) [.ref (ad 1 j0)].toArray s rm_M_begin.cells rm_M_begin.slots A) (F0 m 2 ls []) := by
    intro fu
    induction fu with
    | zero =>
      intro M y1 H locs ls h hwf hkp hP hD hS hl
      cases h
    | succ fu ih =>
      intro M y1 H locs ls h hwf hkp hP hD hS hl
      unfold f_M_begin_l2 at h
      have hkb := hkp
      refine lv_iload_n hx hb d_M_begin_2 rfl (lv_at hl 1 rfl) ?_
      refine lv_bipush (v := 75) hx hb d_M_begin_3 (by decide) ?_
      refine lv_icmp_ge (tgt := 19) hx hb d_M_begin_5 (by decide) (fun c9 => ?_) (fun c9 => ?_)
      · have h := if_t c9 h
        refine lv_iconst (v := 0) hx hb d_M_begin_19 (by decide) ?_
        refine lv_istore_n (lv' := [(1, .int 0), (0, .ref (ad 1 j0))]) hx hb d_M_begin_20 rfl hl (by decide) rfl (fun ls hl => ?_)
        exact b_21 _ M (0 : Int32) _ _ _ h hwf hkp hP hD hS (lv_sub hl [1, 0] rfl)
      have h := if_f c9 h
      refine lv_aload_n hx hb d_M_begin_8 rfl (lv_at hl 0 rfl) ?_
      refine lv_iload_n hx hb d_M_begin_9 rfl (lv_at hl 1 rfl) ?_
      obtain ⟨M10, eM10, h⟩ := bd_ob h
      refine me_thenv0 (M1 := M10) (me_runV (C := "FilterGuardModel") (As := [.int y1]) (rest := []) ⟨hx, hb, hml, hown, hts⟩ (c_M_clear l D ad ca N M M10 j0 y1 eM10 hwf hj0 _) rfl (by show fg_nm y_M_clear 1; decide +kernel) u_2040 u_2042 u_91 u_192 u_2043 ⟨Nat.le_of_ble_eq_true rfl, Nat.le_of_ble_eq_true rfl⟩ hX hz hK hP hD hwf hS hA hj0 (by decide) rfl rfl rfl hl.1 (Nat.le_of_ble_eq_true rfl) d_M_begin_10 ⟨Nat.le_of_ble_eq_true rfl, Nat.le_of_ble_eq_true rfl⟩) hP hD hK hS hA rfl rfl (fun H locs hw hP hD hS => ?_)
      obtain ⟨hwf, hk9⟩ := hw
      have hkp := hkp.tr hk9
      refine lv_iinc (v := y1 + 1) (lv' := [(1, .int (y1 + 1)), (0, .ref (ad 1 j0))]) hx hb d_M_begin_13 hl (k := 1) rfl (by rfl) (by decide) rfl (fun ls hl => ?_)
      refine lv_goto (tgt := 2) hx hb d_M_begin_16 (by decide) ?_
      exact ih M10 (y1 + 1) _ _ _ h hwf hkp hP hD hS (lv_sub hl [1, 0] rfl)
  refine lv_iconst (v := 0) hx hb d_M_begin_0 (by decide) ?_
  refine lv_istore_n (lv' := [(1, .int 0), (0, .ref (ad 1 j0))]) hx hb d_M_begin_1 rfl hl (by decide) rfl (fun ls hl => ?_)
  exact b_2 _ M0 (0 : Int32) _ _ _ h hwf hkp hP hD hS (lv_sub hl [1, 0] rfl)
theorem d_M_toNumber_0 : decode prog_14_method_64_code 0 = .ok (.aload_n 0, 1) := by decide +kernel
theorem d_M_toNumber_1 : decode prog_14_method_64_code 1 = .ok (.iload_n 1, 1) := by decide +kernel
theorem d_M_toNumber_2 : decode prog_14_method_64_code 2 = .ok (.iconst 1, 1) := by decide +kernel
theorem d_M_toNumber_3 : decode prog_14_method_64_code 3 = .ok (.invokevirtual 366, 3) := by decide +kernel
theorem d_M_toNumber_6 : decode prog_14_method_64_code 6 = .ok (.aload_n 0, 1) := by decide +kernel
theorem d_M_toNumber_7 : decode prog_14_method_64_code 7 = .ok (.iload_n 1, 1) := by decide +kernel
theorem d_M_toNumber_8 : decode prog_14_method_64_code 8 = .ok (.lload_n 2, 1) := by decide +kernel
theorem d_M_toNumber_9 : decode prog_14_method_64_code 9 = .ok (.invokevirtual 195, 3) := by decide +kernel
theorem d_M_toNumber_12 : decode prog_14_method_64_code 12 = .ok (.return_, 1) := by decide +kernel
abbrev y_M_toNumber : MethodName := ⟨"FilterGuardModel", "toNumber", "(IJ)V"⟩
def rm_M_toNumber : Room := { frames := 3, cells := 0, slots := 0, locals := 63 }
abbrev q_M_toNumber (D : va_G) (ad : Nat → Nat → Nat) (ca : Nat → ClassId) (N : Nat → Nat) (M0 MZ : me_M) (A : Nat → Prop) : Array Value → Jvm.State → Outcome → Jvm.State → Prop := va_Qv (fun (_ : Unit) => me_wf N MZ ∧ me_kp M0 MZ) (fg_B D A (fun _ => me_W ad ca MZ) (fun _ => [])) A
set_option maxHeartbeats 4000000 in
set_option maxRecDepth 100000 in
theorem c_M_toNumber (l : Launch) (D : va_G) (ad : Nat → Nat → Nat) (ca : Nat → ClassId) (N : Nat → Nat) (M0 MZ : me_M) (j0 : Nat) (x1 : Int32) (x2 : Int64) (h : f_M_toNumber M0 j0 x1 x2 = (some MZ)) (hwf : me_wf N M0) (hj0 : j0 < N 1) (sz : Nat) : Met l y_M_toNumber (fg_w y_M_toNumber prog_14_method_64_code 4 none) rm_M_toNumber (va_Pc [.ref (ad 1 j0), .int x1, .long x2] (fz_P D (me_T ca) (me_W ad ca M0) sz)) (q_M_toNumber D ad ca N M0 MZ (va_A (me_W ad ca M0) sz)) rm_M_toNumber.cells rm_M_toNumber.slots (va_A (me_W ad ca M0) sz) := by
  refine fz_enter (fun A => q_M_toNumber D ad ca N M0 MZ A) (by decide +kernel) (Nat.le_of_ble_eq_true rfl) ?_
  intro p e s m below meth c ls A hx hb hml hown hts hr hlocks hin hP hK hD hS hA hX hl hz
  have hl : lv_has ls 4 [(0, .ref (ad 1 j0)), (1, .int x1), (2, .long x2)] := hl
  unfold f_M_toNumber at h
  have hkp : me_kp M0 M0 := me_kp.rf
  have hkb := hkp
  refine lv_aload_n hx hb d_M_toNumber_0 rfl (lv_at hl 0 rfl) ?_
  refine lv_iload_n hx hb d_M_toNumber_1 rfl (lv_at hl 1 rfl) ?_
  refine lv_iconst (v := 1) hx hb d_M_toNumber_2 (by decide) ?_
  obtain ⟨M1, eM1, h⟩ := bd_ob h
  refine me_thenv0 (M1 := M1) (me_runV (C := "FilterGuardModel") (As := [.int x1, .int 1]) (rest := []) ⟨hx, hb, hml, hown, hts⟩ (c_M_setKind l D ad ca N M0 M1 j0 x1 (1 : Int32) eM1 hwf hj0 _) rfl (by show fg_nm y_M_setKind 2; decide +kernel) u_2044 u_2046 u_92 u_192 u_2047 ⟨Nat.le_of_ble_eq_true rfl, Nat.le_of_ble_eq_true rfl⟩ hX hz hK hP hD hwf hS hA hj0 (by decide) rfl rfl rfl hl.1 (Nat.le_of_ble_eq_true rfl) d_M_toNumber_3 ⟨Nat.le_of_ble_eq_true rfl, Nat.le_of_ble_eq_true rfl⟩) hP hD hK hS hA rfl rfl (fun H locs hw hP hD hS => ?_)
  obtain ⟨hwf, hk9⟩ := hw
  have hkp := hkp.tr hk9
  refine lv_aload_n hx hb d_M_toNumber_6 rfl (lv_at hl 0 rfl) ?_
  refine lv_iload_n hx hb d_M_toNumber_7 rfl (lv_at hl 1 rfl) ?_
  refine lv_lload_n hx hb d_M_toNumber_8 rfl (lv_at hl 2 rfl) ?_
  obtain ⟨M2, eM2, h⟩ := bd_ob h
  refine me_thenv0 (M1 := M2) (me_runV (C := "FilterGuardModel") (As := [.int x1, .long x2]) (rest := []) ⟨hx, hb, hml, hown, hts⟩ (c_M_setExact l D ad ca N M1 M2 j0 x1 x2 eM2 hwf hj0 _) rfl (by show fg_nm y_M_setExact 2; decide +kernel) u_2108 u_2110 u_106 u_192 u_2111 ⟨Nat.le_of_ble_eq_true rfl, Nat.le_of_ble_eq_true rfl⟩ hX hz hK hP hD hwf hS hA hj0 (by decide) rfl rfl rfl hl.1 (Nat.le_of_ble_eq_true rfl) d_M_toNumber_9 ⟨Nat.le_of_ble_eq_true rfl, Nat.le_of_ble_eq_true rfl⟩) hP hD hK hS hA rfl rfl (fun H locs hw hP hD hS => ?_)
  obtain ⟨hwf, hk9⟩ := hw
  have hkp := hkp.tr hk9
  exact me_retv (me_kp M0) h hx hb hr hlocks hwf hkp hP hK hD hS d_M_toNumber_12
theorem d_M_toAny_0 : decode prog_14_method_65_code 0 = .ok (.aload_n 0, 1) := by decide +kernel
theorem d_M_toAny_1 : decode prog_14_method_65_code 1 = .ok (.iload_n 1, 1) := by decide +kernel
theorem d_M_toAny_2 : decode prog_14_method_65_code 2 = .ok (.iconst 1, 1) := by decide +kernel
theorem d_M_toAny_3 : decode prog_14_method_65_code 3 = .ok (.invokevirtual 366, 3) := by decide +kernel
theorem d_M_toAny_6 : decode prog_14_method_65_code 6 = .ok (.aload_n 0, 1) := by decide +kernel
theorem d_M_toAny_7 : decode prog_14_method_65_code 7 = .ok (.iload_n 1, 1) := by decide +kernel
theorem d_M_toAny_8 : decode prog_14_method_65_code 8 = .ok (.invokevirtual 228, 3) := by decide +kernel
theorem d_M_toAny_11 : decode prog_14_method_65_code 11 = .ok (.return_, 1) := by decide +kernel
abbrev y_M_toAny : MethodName := ⟨"FilterGuardModel", "toAny", "(I)V"⟩
def rm_M_toAny : Room := { frames := 3, cells := 0, slots := 0, locals := 63 }
abbrev q_M_toAny (D : va_G) (ad : Nat → Nat → Nat) (ca : Nat → ClassId) (N : Nat → Nat) (M0 MZ : me_M) (A : Nat → Prop) : Array Value → Jvm.State → Outcome → Jvm.State → Prop := va_Qv (fun (_ : Unit) => me_wf N MZ ∧ me_kp M0 MZ) (fg_B D A (fun _ => me_W ad ca MZ) (fun _ => [])) A
set_option maxHeartbeats 4000000 in
set_option maxRecDepth 100000 in
theorem c_M_toAny (l : Launch) (D : va_G) (ad : Nat → Nat → Nat) (ca : Nat → ClassId) (N : Nat → Nat) (M0 MZ : me_M) (j0 : Nat) (x1 : Int32) (h : f_M_toAny M0 j0 x1 = (some MZ)) (hwf : me_wf N M0) (hj0 : j0 < N 1) (sz : Nat) : Met l y_M_toAny (fg_w y_M_toAny prog_14_method_65_code 2 none) rm_M_toAny (va_Pc [.ref (ad 1 j0), .int x1] (fz_P D (me_T ca) (me_W ad ca M0) sz)) (q_M_toAny D ad ca N M0 MZ (va_A (me_W ad ca M0) sz)) rm_M_toAny.cells rm_M_toAny.slots (va_A (me_W ad ca M0) sz) := by
  refine fz_enter (fun A => q_M_toAny D ad ca N M0 MZ A) (by decide +kernel) (Nat.le_of_ble_eq_true rfl) ?_
  intro p e s m below meth c ls A hx hb hml hown hts hr hlocks hin hP hK hD hS hA hX hl hz
  have hl : lv_has ls 2 [(0, .ref (ad 1 j0)), (1, .int x1)] := hl
  unfold f_M_toAny at h
  have hkp : me_kp M0 M0 := me_kp.rf
  have hkb := hkp
  refine lv_aload_n hx hb d_M_toAny_0 rfl (lv_at hl 0 rfl) ?_
  refine lv_iload_n hx hb d_M_toAny_1 rfl (lv_at hl 1 rfl) ?_
  refine lv_iconst (v := 1) hx hb d_M_toAny_2 (by decide) ?_
  obtain ⟨M1, eM1, h⟩ := bd_ob h
  refine me_thenv0 (M1 := M1) (me_runV (C := "FilterGuardModel") (As := [.int x1, .int 1]) (rest := []) ⟨hx, hb, hml, hown, hts⟩ (c_M_setKind l D ad ca N M0 M1 j0 x1 (1 : Int32) eM1 hwf hj0 _) rfl (by show fg_nm y_M_setKind 2; decide +kernel) u_2044 u_2046 u_92 u_192 u_2047 ⟨Nat.le_of_ble_eq_true rfl, Nat.le_of_ble_eq_true rfl⟩ hX hz hK hP hD hwf hS hA hj0 (by decide) rfl rfl rfl hl.1 (Nat.le_of_ble_eq_true rfl) d_M_toAny_3 ⟨Nat.le_of_ble_eq_true rfl, Nat.le_of_ble_eq_true rfl⟩) hP hD hK hS hA rfl rfl (fun H locs hw hP hD hS => ?_)
  obtain ⟨hwf, hk9⟩ := hw
  have hkp := hkp.tr hk9
  refine lv_aload_n hx hb d_M_toAny_6 rfl (lv_at hl 0 rfl) ?_
  refine lv_iload_n hx hb d_M_toAny_7 rfl (lv_at hl 1 rfl) ?_
  obtain ⟨M2, eM2, h⟩ := bd_ob h
  refine me_thenv0 (M1 := M2) (me_runV (C := "FilterGuardModel") (As := [.int x1]) (rest := []) ⟨hx, hb, hml, hown, hts⟩ (c_M_setAny l D ad ca N M1 M2 j0 x1 eM2 hwf hj0 _) rfl (by show fg_nm y_M_setAny 1; decide +kernel) u_2138 u_2140 u_112 u_192 u_2141 ⟨Nat.le_of_ble_eq_true rfl, Nat.le_of_ble_eq_true rfl⟩ hX hz hK hP hD hwf hS hA hj0 (by decide) rfl rfl rfl hl.1 (Nat.le_of_ble_eq_true rfl) d_M_toAny_8 ⟨Nat.le_of_ble_eq_true rfl, Nat.le_of_ble_eq_true rfl⟩) hP hD hK hS hA rfl rfl (fun H locs hw hP hD hS => ?_)
  obtain ⟨hwf, hk9⟩ := hw
  have hkp := hkp.tr hk9
  exact me_retv (me_kp M0) h hx hb hr hlocks hwf hkp hP hK hD hS d_M_toAny_11
theorem d_M_toRead_0 : decode prog_14_method_66_code 0 = .ok (.aload_n 0, 1) := by decide +kernel
theorem d_M_toRead_1 : decode prog_14_method_66_code 1 = .ok (.iload_n 1, 1) := by decide +kernel
theorem d_M_toRead_2 : decode prog_14_method_66_code 2 = .ok (.invokevirtual 372, 3) := by decide +kernel
theorem u_2134 : Cond.methodLink "FilterGuardModel" 372 ⟨"FilterGuardModel", "toAny", "(I)V"⟩ ∈ fg_g := fg_in (List.mem_of_getElem? (i := 2134) (by decide +kernel)) rfl
theorem u_2137 : Cond.code ⟨"FilterGuardModel", "toAny", "(I)V"⟩ prog_14_method_65_code 2 none ∈ fg_g := fg_in (List.mem_of_getElem? (i := 2137) (by decide +kernel)) rfl
theorem u_2136 : Cond.instanceMethod ⟨"FilterGuardModel", "toAny", "(I)V"⟩ ∈ fg_g := fg_in (List.mem_of_getElem? (i := 2136) (by decide +kernel)) rfl
theorem u_111 : Cond.selects "FilterGuardModel" ⟨"FilterGuardModel", "toAny", "(I)V"⟩ ⟨"FilterGuardModel", "toAny", "(I)V"⟩ ∈ fg_g := fg_in (List.mem_of_getElem? (i := 111) (by decide +kernel)) rfl
theorem d_M_toRead_5 : decode prog_14_method_66_code 5 = .ok (.iload_n 2, 1) := by decide +kernel
theorem d_M_toRead_6 : decode prog_14_method_66_code 6 = .ok (.bipush 8, 2) := by decide +kernel
theorem d_M_toRead_8 : decode prog_14_method_66_code 8 = .ok (.if_icmp .ge 17, 3) := by decide +kernel
theorem d_M_toRead_25 : decode prog_14_method_66_code 25 = .ok (.aload_n 0, 1) := by decide +kernel
theorem d_M_toRead_26 : decode prog_14_method_66_code 26 = .ok (.iload_n 1, 1) := by decide +kernel
theorem d_M_toRead_27 : decode prog_14_method_66_code 27 = .ok (.invokevirtual 264, 3) := by decide +kernel
theorem d_M_toRead_30 : decode prog_14_method_66_code 30 = .ok (.istore_n 3, 1) := by decide +kernel
theorem d_M_toRead_31 : decode prog_14_method_66_code 31 = .ok (.return_, 1) := by decide +kernel
theorem d_M_toRead_11 : decode prog_14_method_66_code 11 = .ok (.aload_n 0, 1) := by decide +kernel
theorem d_M_toRead_12 : decode prog_14_method_66_code 12 = .ok (.getfield 113, 3) := by decide +kernel
theorem d_M_toRead_15 : decode prog_14_method_66_code 15 = .ok (.iload_n 1, 1) := by decide +kernel
theorem d_M_toRead_16 : decode prog_14_method_66_code 16 = .ok (.lconst 1, 1) := by decide +kernel
theorem d_M_toRead_17 : decode prog_14_method_66_code 17 = .ok (.bipush 8, 2) := by decide +kernel
theorem d_M_toRead_19 : decode prog_14_method_66_code 19 = .ok (.iload_n 2, 1) := by decide +kernel
theorem d_M_toRead_20 : decode prog_14_method_66_code 20 = .ok (.imul, 1) := by decide +kernel
theorem d_M_toRead_21 : decode prog_14_method_66_code 21 = .ok (.lshl, 1) := by decide +kernel
theorem d_M_toRead_22 : decode prog_14_method_66_code 22 = .ok (.lconst 1, 1) := by decide +kernel
theorem d_M_toRead_23 : decode prog_14_method_66_code 23 = .ok (.lsub, 1) := by decide +kernel
theorem d_M_toRead_24 : decode prog_14_method_66_code 24 = .ok (.lastore, 1) := by decide +kernel
abbrev y_M_toRead : MethodName := ⟨"FilterGuardModel", "toRead", "(II)V"⟩
def rm_M_toRead : Room := { frames := 5, cells := 0, slots := 0, locals := 110 }
abbrev q_M_toRead (D : va_G) (ad : Nat → Nat → Nat) (ca : Nat → ClassId) (N : Nat → Nat) (M0 MZ : me_M) (A : Nat → Prop) : Array Value → Jvm.State → Outcome → Jvm.State → Prop := va_Qv (fun (_ : Unit) => me_wf N MZ ∧ me_kp M0 MZ) (fg_B D A (fun _ => me_W ad ca MZ) (fun _ => [])) A
set_option maxHeartbeats 4000000 in
set_option maxRecDepth 100000 in
theorem c_M_toRead (l : Launch) (D : va_G) (ad : Nat → Nat → Nat) (ca : Nat → ClassId) (N : Nat → Nat) (M0 MZ : me_M) (j0 : Nat) (x1 : Int32) (x2 : Int32) (h : f_M_toRead M0 j0 x1 x2 = (some MZ)) (hwf : me_wf N M0) (hj0 : j0 < N 1) (sz : Nat) : Met l y_M_toRead (fg_w y_M_toRead prog_14_method_66_code 4 none) rm_M_toRead (va_Pc [.ref (ad 1 j0), .int x1, .int x2] (fz_P D (me_T ca) (me_W ad ca M0) sz)) (q_M_toRead D ad ca N M0 MZ (va_A (me_W ad ca M0) sz)) rm_M_toRead.cells rm_M_toRead.slots (va_A (me_W ad ca M0) sz) := by
  refine fz_enter (fun A => q_M_toRead D ad ca N M0 MZ A) (by decide +kernel) (Nat.le_of_ble_eq_true rfl) ?_
  intro p e s m below meth c ls A hx hb hml hown hts hr hlocks hin hP hK hD hS hA hX hl hz
  have hl : lv_has ls 4 [(0, .ref (ad 1 j0)), (1, .int x1), (2, .int x2)] := hl
  unfold f_M_toRead at h
  have hkp : me_kp M0 M0 := me_kp.rf
  have hkb := hkp
  refine lv_aload_n hx hb d_M_toRead_0 rfl (lv_at hl 0 rfl) ?_
  refine lv_iload_n hx hb d_M_toRead_1 rfl (lv_at hl 1 rfl) ?_
  obtain ⟨M1, eM1, h⟩ := bd_ob h
  refine me_thenv0 (M1 := M1) (me_runV (C := "FilterGuardModel") (As := [.int x1]) (rest := []) ⟨hx, hb, hml, hown, hts⟩ (c_M_toAny l D ad ca N M0 M1 j0 x1 eM1 hwf hj0 _) rfl (by show fg_nm y_M_toAny 1; decide +kernel) u_2134 u_2136 u_111 u_192 u_2137 ⟨Nat.le_of_ble_eq_true rfl, Nat.le_of_ble_eq_true rfl⟩ hX hz hK hP hD hwf hS hA hj0 (by decide) rfl rfl rfl hl.1 (Nat.le_of_ble_eq_true rfl) d_M_toRead_2 ⟨Nat.le_of_ble_eq_true rfl, Nat.le_of_ble_eq_true rfl⟩) hP hD hK hS hA rfl rfl (fun H locs hw hP hD hS => ?_)
  obtain ⟨hwf, hk9⟩ := hw
  have hkp := hkp.tr hk9
  refine lv_iload_n hx hb d_M_toRead_5 rfl (lv_at hl 2 rfl) ?_
  refine lv_bipush (v := 8) hx hb d_M_toRead_6 (by decide) ?_
  refine lv_icmp_ge (tgt := 25) hx hb d_M_toRead_8 (by decide) (fun c2 => ?_) (fun c2 => ?_)
  · have h := if_t c2 h
    refine lv_aload_n hx hb d_M_toRead_25 rfl (lv_at hl 0 rfl) ?_
    refine lv_iload_n hx hb d_M_toRead_26 rfl (lv_at hl 1 rfl) ?_
    obtain ⟨M3, r4, eM3, h⟩ := b2_ob h
    refine me_theni0 (M1 := M3) (me_runV (C := "FilterGuardModel") (As := [.int x1]) (rest := []) ⟨hx, hb, hml, hown, hts⟩ (c_M_settle l D ad ca N M1 M3 r4 j0 x1 eM3 hwf hj0 _) rfl (by show fg_nm y_M_settle 1; decide +kernel) u_2143 u_2145 u_113 u_192 u_2146 ⟨Nat.le_of_ble_eq_true rfl, Nat.le_of_ble_eq_true rfl⟩ hX hz hK hP hD hwf hS hA hj0 (by decide) rfl rfl rfl hl.1 (Nat.le_of_ble_eq_true rfl) d_M_toRead_27 ⟨Nat.le_of_ble_eq_true rfl, Nat.le_of_ble_eq_true rfl⟩) hP hD hK hS hA rfl rfl (fun H locs hw hP hD hS => ?_)
    obtain ⟨hwf, hk9, zr4⟩ := hw
    have hkp := hkp.tr hk9
    refine lv_istore_n (lv' := [(3, .int r4), (0, .ref (ad 1 j0)), (1, .int x1), (2, .int x2)]) hx hb d_M_toRead_30 rfl hl (by decide) rfl (fun ls hl => ?_)
    exact me_retv (me_kp M0) h hx hb hr hlocks hwf hkp hP hK hD hS d_M_toRead_31
  have h := if_f c2 h
  refine lv_aload_n hx hb d_M_toRead_11 rfl (lv_at hl 0 rfl) ?_
  refine g_M_55 hx hb hts hown hK hP hwf hj0 (hts _ u_1796) d_M_toRead_12 ?_
  obtain ⟨j5, e6, h⟩ := bd_ob h
  have hj5 : j5 < N 16 := (hwf.2.1 1 j0 55 _ (kp_r hkb hkp e6) (by decide) hj0)
  refine me_opt (j := j5) (kp_r hkb hkp e6) ?_
  refine lv_iload_n hx hb d_M_toRead_15 rfl (lv_at hl 1 rfl) ?_
  refine lv_lconst (v := 1) hx hb d_M_toRead_16 (by decide) ?_
  refine lv_bipush (v := 8) hx hb d_M_toRead_17 (by decide) ?_
  refine lv_iload_n hx hb d_M_toRead_19 rfl (lv_at hl 2 rfl) ?_
  refine lv_imul hx hb d_M_toRead_20 ?_
  refine lv_lshl (v := jlshl (1 : Int64) (8 * x2)) hx hb d_M_toRead_21 rfl ?_
  refine lv_lconst (v := 1) hx hb d_M_toRead_22 (by decide) ?_
  refine lv_lsub hx hb d_M_toRead_23 ?_
  obtain ⟨g7, h⟩ := gd_ob h
  obtain ⟨M8, eM8, h⟩ := st_ob h
  refine me_last eM8 hx hb hK hP hD hwf hS hj5 (kp_z hkb.z hkp.z g7) d_M_toRead_24 (fun H locs hP hD hwf hS => ?_)
  have hkp := kp_L eM8 hkp
  refine lv_aload_n hx hb d_M_toRead_25 rfl (lv_at hl 0 rfl) ?_
  refine lv_iload_n hx hb d_M_toRead_26 rfl (lv_at hl 1 rfl) ?_
  obtain ⟨M9, r10, eM9, h⟩ := b2_ob h
  refine me_theni0 (M1 := M9) (me_runV (C := "FilterGuardModel") (As := [.int x1]) (rest := []) ⟨hx, hb, hml, hown, hts⟩ (c_M_settle l D ad ca N M8 M9 r10 j0 x1 eM9 hwf hj0 _) rfl (by show fg_nm y_M_settle 1; decide +kernel) u_2143 u_2145 u_113 u_192 u_2146 ⟨Nat.le_of_ble_eq_true rfl, Nat.le_of_ble_eq_true rfl⟩ hX hz hK hP hD hwf hS hA hj0 (by decide) rfl rfl rfl hl.1 (Nat.le_of_ble_eq_true rfl) d_M_toRead_27 ⟨Nat.le_of_ble_eq_true rfl, Nat.le_of_ble_eq_true rfl⟩) hP hD hK hS hA rfl rfl (fun H locs hw hP hD hS => ?_)
  obtain ⟨hwf, hk9, zr10⟩ := hw
  have hkp := hkp.tr hk9
  refine lv_istore_n (lv' := [(3, .int r10), (0, .ref (ad 1 j0)), (1, .int x1), (2, .int x2)]) hx hb d_M_toRead_30 rfl hl (by decide) rfl (fun ls hl => ?_)
  exact me_retv (me_kp M0) h hx hb hr hlocks hwf hkp hP hK hD hS d_M_toRead_31
theorem d_M_isNumber_0 : decode prog_14_method_67_code 0 = .ok (.aload_n 0, 1) := by decide +kernel
theorem d_M_isNumber_1 : decode prog_14_method_67_code 1 = .ok (.getfield 89, 3) := by decide +kernel
theorem d_M_isNumber_4 : decode prog_14_method_67_code 4 = .ok (.iload_n 1, 1) := by decide +kernel
theorem d_M_isNumber_5 : decode prog_14_method_67_code 5 = .ok (.baload, 1) := by decide +kernel
theorem d_M_isNumber_6 : decode prog_14_method_67_code 6 = .ok (.iconst 1, 1) := by decide +kernel
theorem d_M_isNumber_7 : decode prog_14_method_67_code 7 = .ok (.if_icmp .ne 7, 3) := by decide +kernel
theorem d_M_isNumber_14 : decode prog_14_method_67_code 14 = .ok (.iconst 0, 1) := by decide +kernel
theorem d_M_isNumber_15 : decode prog_14_method_67_code 15 = .ok (.ireturn, 1) := by decide +kernel
theorem d_M_isNumber_10 : decode prog_14_method_67_code 10 = .ok (.iconst 1, 1) := by decide +kernel
theorem d_M_isNumber_11 : decode prog_14_method_67_code 11 = .ok (.goto 4, 3) := by decide +kernel
abbrev y_M_isNumber : MethodName := ⟨"FilterGuardModel", "isNumber", "(I)Z"⟩
def rm_M_isNumber : Room := { frames := 1, cells := 0, slots := 0, locals := 20 }
abbrev q_M_isNumber (D : va_G) (ad : Nat → Nat → Nat) (ca : Nat → ClassId) (N : Nat → Nat) (M0 MZ : me_M) (RZ : Int32) (A : Nat → Prop) : Array Value → Jvm.State → Outcome → Jvm.State → Prop := va_Qi (fun r (_ : Unit) => r = RZ ∧ me_wf N MZ ∧ me_kp M0 MZ ∧ (RZ = 1 ∨ RZ = 0)) (fg_B D A (fun _ => me_W ad ca MZ) (fun _ => [])) A
set_option maxHeartbeats 4000000 in
set_option maxRecDepth 100000 in
theorem c_M_isNumber (l : Launch) (D : va_G) (ad : Nat → Nat → Nat) (ca : Nat → ClassId) (N : Nat → Nat) (M0 MZ : me_M) (RZ : Int32) (j0 : Nat) (x1 : Int32) (h : f_M_isNumber M0 j0 x1 = (some (MZ, RZ))) (hwf : me_wf N M0) (hj0 : j0 < N 1) (sz : Nat) : Met l y_M_isNumber (fg_w y_M_isNumber prog_14_method_67_code 2 (some .boolean)) rm_M_isNumber (va_Pc [.ref (ad 1 j0), .int x1] (fz_P D (me_T ca) (me_W ad ca M0) sz)) (q_M_isNumber D ad ca N M0 MZ RZ (va_A (me_W ad ca M0) sz)) rm_M_isNumber.cells rm_M_isNumber.slots (va_A (me_W ad ca M0) sz) := by
  refine fz_enter (fun A => q_M_isNumber D ad ca N M0 MZ RZ A) (by decide +kernel) (Nat.le_of_ble_eq_true rfl) ?_
  intro p e s m below meth c ls A hx hb hml hown hts hr hlocks hin hP hK hD hS hA hX hl hz
  have hl : lv_has ls 2 [(0, .ref (ad 1 j0)), (1, .int x1)] := hl
  unfold f_M_isNumber at h
  have hkp : me_kp M0 M0 := me_kp.rf
  have hkb := hkp
  refine lv_aload_n hx hb d_M_isNumber_0 rfl (lv_at hl 0 rfl) ?_
  refine g_M_47 hx hb hts hown hK hP hwf hj0 (hts _ u_1788) d_M_isNumber_1 ?_
  obtain ⟨j1, e2, h⟩ := bd_ob h
  have hj1 : j1 < N 14 := (hwf.2.1 1 j0 47 _ e2 (by decide) hj0)
  refine me_opt (j := j1) e2 ?_
  refine lv_iload_n hx hb d_M_isNumber_4 rfl (lv_at hl 1 rfl) ?_
  obtain ⟨g3, h⟩ := gd_ob h
  refine me_bald hx hb hK hP hwf hj1 g3 d_M_isNumber_5 ?_
  refine lv_iconst (v := 1) hx hb d_M_isNumber_6 (by decide) ?_
  refine lv_icmp_ne (tgt := 14) hx hb d_M_isNumber_7 (by decide) (fun c4 => ?_) (fun c4 => ?_)
  · have h := if_f c4 h
    refine lv_iconst (v := 0) hx hb d_M_isNumber_14 (by decide) ?_
    exact me_retz (me_kp M0) h (by decide) hx hb hr hlocks hwf hkp hP hK hD hS d_M_isNumber_15
  have h := if_t c4 h
  refine lv_iconst (v := 1) hx hb d_M_isNumber_10 (by decide) ?_
  refine lv_goto (tgt := 15) hx hb d_M_isNumber_11 (by decide) ?_
  exact me_retz (me_kp M0) h (by decide) hx hb hr hlocks hwf hkp hP hK hD hS d_M_isNumber_15
theorem d_M_isPointer_0 : decode prog_14_method_68_code 0 = .ok (.aload_n 0, 1) := by decide +kernel
theorem d_M_isPointer_1 : decode prog_14_method_68_code 1 = .ok (.getfield 89, 3) := by decide +kernel
theorem d_M_isPointer_4 : decode prog_14_method_68_code 4 = .ok (.iload_n 1, 1) := by decide +kernel
theorem d_M_isPointer_5 : decode prog_14_method_68_code 5 = .ok (.baload, 1) := by decide +kernel
theorem d_M_isPointer_6 : decode prog_14_method_68_code 6 = .ok (.i2l, 1) := by decide +kernel
theorem d_M_isPointer_7 : decode prog_14_method_68_code 7 = .ok (.ldc2_w 212, 3) := by decide +kernel
theorem d_M_isPointer_10 : decode prog_14_method_68_code 10 = .ok (.ldc2_w 214, 3) := by decide +kernel
theorem d_M_isPointer_13 : decode prog_14_method_68_code 13 = .ok (.invokestatic 342, 3) := by decide +kernel
theorem d_M_isPointer_16 : decode prog_14_method_68_code 16 = .ok (.ifCond .ne 14, 3) := by decide +kernel
theorem d_M_isPointer_30 : decode prog_14_method_68_code 30 = .ok (.iconst 1, 1) := by decide +kernel
theorem d_M_isPointer_31 : decode prog_14_method_68_code 31 = .ok (.goto 4, 3) := by decide +kernel
theorem d_M_isPointer_35 : decode prog_14_method_68_code 35 = .ok (.ireturn, 1) := by decide +kernel
theorem d_M_isPointer_19 : decode prog_14_method_68_code 19 = .ok (.aload_n 0, 1) := by decide +kernel
theorem d_M_isPointer_20 : decode prog_14_method_68_code 20 = .ok (.getfield 89, 3) := by decide +kernel
theorem d_M_isPointer_23 : decode prog_14_method_68_code 23 = .ok (.iload_n 1, 1) := by decide +kernel
theorem d_M_isPointer_24 : decode prog_14_method_68_code 24 = .ok (.baload, 1) := by decide +kernel
theorem d_M_isPointer_25 : decode prog_14_method_68_code 25 = .ok (.bipush 7, 2) := by decide +kernel
theorem d_M_isPointer_27 : decode prog_14_method_68_code 27 = .ok (.if_icmp .ne 7, 3) := by decide +kernel
theorem d_M_isPointer_34 : decode prog_14_method_68_code 34 = .ok (.iconst 0, 1) := by decide +kernel
abbrev y_M_isPointer : MethodName := ⟨"FilterGuardModel", "isPointer", "(I)Z"⟩
def rm_M_isPointer : Room := { frames := 2, cells := 0, slots := 0, locals := 45 }
abbrev q_M_isPointer (D : va_G) (ad : Nat → Nat → Nat) (ca : Nat → ClassId) (N : Nat → Nat) (M0 MZ : me_M) (RZ : Int32) (A : Nat → Prop) : Array Value → Jvm.State → Outcome → Jvm.State → Prop := va_Qi (fun r (_ : Unit) => r = RZ ∧ me_wf N MZ ∧ me_kp M0 MZ ∧ (RZ = 1 ∨ RZ = 0)) (fg_B D A (fun _ => me_W ad ca MZ) (fun _ => [])) A
set_option maxHeartbeats 4000000 in
set_option maxRecDepth 100000 in
theorem c_M_isPointer (l : Launch) (D : va_G) (ad : Nat → Nat → Nat) (ca : Nat → ClassId) (N : Nat → Nat) (M0 MZ : me_M) (RZ : Int32) (j0 : Nat) (x1 : Int32) (h : f_M_isPointer M0 j0 x1 = (some (MZ, RZ))) (hwf : me_wf N M0) (hj0 : j0 < N 1) (sz : Nat) : Met l y_M_isPointer (fg_w y_M_isPointer prog_14_method_68_code 2 (some .boolean)) rm_M_isPointer (va_Pc [.ref (ad 1 j0), .int x1] (fz_P D (me_T ca) (me_W ad ca M0) sz)) (q_M_isPointer D ad ca N M0 MZ RZ (va_A (me_W ad ca M0) sz)) rm_M_isPointer.cells rm_M_isPointer.slots (va_A (me_W ad ca M0) sz) := by
  refine fz_enter (fun A => q_M_isPointer D ad ca N M0 MZ RZ A) (by decide +kernel) (Nat.le_of_ble_eq_true rfl) ?_
  intro p e s m below meth c ls A hx hb hml hown hts hr hlocks hin hP hK hD hS hA hX hl hz
  have hl : lv_has ls 2 [(0, .ref (ad 1 j0)), (1, .int x1)] := hl
  unfold f_M_isPointer at h
  have hkp : me_kp M0 M0 := me_kp.rf
  have hkb := hkp
  refine lv_aload_n hx hb d_M_isPointer_0 rfl (lv_at hl 0 rfl) ?_
  refine g_M_47 hx hb hts hown hK hP hwf hj0 (hts _ u_1788) d_M_isPointer_1 ?_
  obtain ⟨j1, e2, h⟩ := bd_ob h
  have hj1 : j1 < N 14 := (hwf.2.1 1 j0 47 _ e2 (by decide) hj0)
  refine me_opt (j := j1) e2 ?_
  refine lv_iload_n hx hb d_M_isPointer_4 rfl (lv_at hl 1 rfl) ?_
  obtain ⟨g3, h⟩ := gd_ob h
  refine me_bald hx hb hK hP hwf hj1 g3 d_M_isPointer_5 ?_
  refine lv_i2l (v := (mI M0 14 j1 x1.toNatClampNeg).toInt64) hx hb d_M_isPointer_6 rfl ?_
  refine lv_ldc2 hx hb hown (hts _ u_2305) d_M_isPointer_7 ?_
  refine lv_ldc2 hx hb hown (hts _ u_2306) d_M_isPointer_10 ?_
  obtain ⟨r4, er4, h⟩ := bd_ob h
  refine me_pani' (r0 := r4) (fg_runS (wc := []) (tc := []) (A2 := A) (As := [.long ((mI M0 14 j1 x1.toNatClampNeg).toInt64), .long 2, .long 4]) (rest := []) ⟨hx, hb, hml, hown, hts⟩ (c_M_in l D r4 ((mI M0 14 j1 x1.toNatClampNeg).toInt64) (2 : Int64) (4 : Int64) er4 _) (by show fg_nm y_M_in 3; decide +kernel) u_1976 u_1977 u_192 u_1978 ⟨Nat.le_of_ble_eq_true rfl, Nat.le_of_ble_eq_true rfl⟩ hX me_P0 (hK.sub (tys' := []) [] rfl) me_D0 rfl hl.1 (Nat.le_of_ble_eq_true rfl) d_M_isPointer_13 ⟨Nat.le_of_ble_eq_true rfl, Nat.le_of_ble_eq_true rfl⟩) hP hD hK hS hA rfl rfl (fun H locs hw hP hD hS => ?_)
  have zr4 := hw
  refine lv_if_ne (tgt := 30) hx hb d_M_isPointer_16 (by decide) (fun c5 => ?_) (fun c5 => ?_)
  · have h := if_f c5 h
    refine lv_iconst (v := 1) hx hb d_M_isPointer_30 (by decide) ?_
    refine lv_goto (tgt := 35) hx hb d_M_isPointer_31 (by decide) ?_
    exact me_retz (me_kp M0) h (by decide) hx hb hr hlocks hwf hkp hP hK hD hS d_M_isPointer_35
  have h := if_t c5 h
  refine lv_aload_n hx hb d_M_isPointer_19 rfl (lv_at hl 0 rfl) ?_
  refine g_M_47 hx hb hts hown hK hP hwf hj0 (hts _ u_1788) d_M_isPointer_20 ?_
  refine me_opt (j := j1) e2 ?_
  refine lv_iload_n hx hb d_M_isPointer_23 rfl (lv_at hl 1 rfl) ?_
  refine me_bald hx hb hK hP hwf hj1 g3 d_M_isPointer_24 ?_
  refine lv_bipush (v := 7) hx hb d_M_isPointer_25 (by decide) ?_
  refine lv_icmp_ne (tgt := 34) hx hb d_M_isPointer_27 (by decide) (fun c6 => ?_) (fun c6 => ?_)
  · have h := if_f c6 h
    refine lv_iconst (v := 0) hx hb d_M_isPointer_34 (by decide) ?_
    exact me_retz (me_kp M0) h (by decide) hx hb hr hlocks hwf hkp hP hK hD hS d_M_isPointer_35
  have h := if_t c6 h
  refine lv_iconst (v := 1) hx hb d_M_isPointer_30 (by decide) ?_
  refine lv_goto (tgt := 35) hx hb d_M_isPointer_31 (by decide) ?_
  exact me_retz (me_kp M0) h (by decide) hx hb hr hlocks hwf hkp hP hK hD hS d_M_isPointer_35
theorem d_M_operationOf_0 : decode prog_14_method_69_code 0 = .ok (.iload_n 0, 1) := by decide +kernel
theorem d_M_operationOf_1 : decode prog_14_method_69_code 1 = .ok (.tableswitch 71 4 12 #[51, 71, 54, 57, 71, 60, 62, 65, 68], 51) := by decide +kernel
theorem d_M_operationOf_52 : decode prog_14_method_69_code 52 = .ok (.bipush 6, 2) := by decide +kernel
theorem d_M_operationOf_54 : decode prog_14_method_69_code 54 = .ok (.ireturn, 1) := by decide +kernel
theorem d_M_operationOf_72 : decode prog_14_method_69_code 72 = .ok (.iload_n 0, 1) := by decide +kernel
theorem d_M_operationOf_73 : decode prog_14_method_69_code 73 = .ok (.ireturn, 1) := by decide +kernel
theorem d_M_operationOf_55 : decode prog_14_method_69_code 55 = .ok (.bipush 8, 2) := by decide +kernel
theorem d_M_operationOf_57 : decode prog_14_method_69_code 57 = .ok (.ireturn, 1) := by decide +kernel
theorem d_M_operationOf_58 : decode prog_14_method_69_code 58 = .ok (.bipush 9, 2) := by decide +kernel
theorem d_M_operationOf_60 : decode prog_14_method_69_code 60 = .ok (.ireturn, 1) := by decide +kernel
theorem d_M_operationOf_61 : decode prog_14_method_69_code 61 = .ok (.iconst 4, 1) := by decide +kernel
theorem d_M_operationOf_62 : decode prog_14_method_69_code 62 = .ok (.ireturn, 1) := by decide +kernel
theorem d_M_operationOf_63 : decode prog_14_method_69_code 63 = .ok (.bipush 7, 2) := by decide +kernel
theorem d_M_operationOf_65 : decode prog_14_method_69_code 65 = .ok (.ireturn, 1) := by decide +kernel
theorem d_M_operationOf_66 : decode prog_14_method_69_code 66 = .ok (.bipush 12, 2) := by decide +kernel
theorem d_M_operationOf_68 : decode prog_14_method_69_code 68 = .ok (.ireturn, 1) := by decide +kernel
theorem d_M_operationOf_69 : decode prog_14_method_69_code 69 = .ok (.bipush 10, 2) := by decide +kernel
theorem d_M_operationOf_71 : decode prog_14_method_69_code 71 = .ok (.ireturn, 1) := by decide +kernel
abbrev y_M_operationOf : MethodName := ⟨"FilterGuardModel", "operationOf", "(I)I"⟩
def rm_M_operationOf : Room := { frames := 1, cells := 0, slots := 0, locals := 20 }
abbrev q_M_operationOf (D : va_G) (RZ : Int32) (A : Nat → Prop) : Array Value → Jvm.State → Outcome → Jvm.State → Prop := va_Qi (fun r (_ : Unit) => r = RZ ∧ True) (fg_B D A (fun _ => []) (fun _ => [])) A
set_option maxHeartbeats 4000000 in
set_option maxRecDepth 100000 in
theorem c_M_operationOf (l : Launch) (D : va_G) (RZ : Int32) (x0 : Int32) (h : f_M_operationOf x0 = (some RZ)) (sz : Nat) : Met l y_M_operationOf (fg_w y_M_operationOf prog_14_method_69_code 1 (some .int)) rm_M_operationOf (va_Pc [.int x0] (fg_P D [] [] sz)) (q_M_operationOf D RZ (va_A [] sz)) rm_M_operationOf.cells rm_M_operationOf.slots (va_A [] sz) := by
  refine fg_enter (fun A => q_M_operationOf D RZ A) (by decide +kernel) (Nat.le_of_ble_eq_true rfl) ?_
  intro p e s m below meth c ls A hx hb hml hown hts hr hlocks hin hP hK hD hS hA hX hl
  have hl : lv_has ls 1 [(0, .int x0)] := hl
  unfold f_M_operationOf at h
  refine lv_iload_n hx hb d_M_operationOf_0 rfl (lv_at hl 0 rfl) ?_
  refine lv_topi (fun w1 ew1 => ?_)
  by_cases n2 : w1 = 4
  · have h := if_t (ew1.symm.trans n2) h
    subst n2
    refine lv_tableIn (off := 51) (tgt := 52) hx hb d_M_operationOf_1 (by decide) (by decide) (by decide) (by decide) ?_
    refine lv_bipush (v := 6) hx hb d_M_operationOf_52 (by decide) ?_
    exact me_preti h hx hb hr hlocks hK hS d_M_operationOf_54
  have h := if_f (fun z => n2 (ew1.trans z)) h
  by_cases n3 : w1 = 5
  · have h := if_t (ew1.symm.trans n3) h
    subst n3
    refine lv_tableIn (off := 71) (tgt := 72) hx hb d_M_operationOf_1 (by decide) (by decide) (by decide) (by decide) ?_
    refine lv_iload_n hx hb d_M_operationOf_72 rfl (lv_at hl 0 rfl) ?_
    exact me_preti h hx hb hr hlocks hK hS d_M_operationOf_73
  have h := if_f (fun z => n3 (ew1.trans z)) h
  by_cases n4 : w1 = 6
  · have h := if_t (ew1.symm.trans n4) h
    subst n4
    refine lv_tableIn (off := 54) (tgt := 55) hx hb d_M_operationOf_1 (by decide) (by decide) (by decide) (by decide) ?_
    refine lv_bipush (v := 8) hx hb d_M_operationOf_55 (by decide) ?_
    exact me_preti h hx hb hr hlocks hK hS d_M_operationOf_57
  have h := if_f (fun z => n4 (ew1.trans z)) h
  by_cases n5 : w1 = 7
  · have h := if_t (ew1.symm.trans n5) h
    subst n5
    refine lv_tableIn (off := 57) (tgt := 58) hx hb d_M_operationOf_1 (by decide) (by decide) (by decide) (by decide) ?_
    refine lv_bipush (v := 9) hx hb d_M_operationOf_58 (by decide) ?_
    exact me_preti h hx hb hr hlocks hK hS d_M_operationOf_60
  have h := if_f (fun z => n5 (ew1.trans z)) h
  by_cases n6 : w1 = 8
  · have h := if_t (ew1.symm.trans n6) h
    subst n6
    refine lv_tableIn (off := 71) (tgt := 72) hx hb d_M_operationOf_1 (by decide) (by decide) (by decide) (by decide) ?_
    refine lv_iload_n hx hb d_M_operationOf_72 rfl (lv_at hl 0 rfl) ?_
    exact me_preti h hx hb hr hlocks hK hS d_M_operationOf_73
  have h := if_f (fun z => n6 (ew1.trans z)) h
  by_cases n7 : w1 = 9
  · have h := if_t (ew1.symm.trans n7) h
    subst n7
    refine lv_tableIn (off := 60) (tgt := 61) hx hb d_M_operationOf_1 (by decide) (by decide) (by decide) (by decide) ?_
    refine lv_iconst (v := 4) hx hb d_M_operationOf_61 (by decide) ?_
    exact me_preti h hx hb hr hlocks hK hS d_M_operationOf_62
  have h := if_f (fun z => n7 (ew1.trans z)) h
  by_cases n8 : w1 = 10
  · have h := if_t (ew1.symm.trans n8) h
    subst n8
    refine lv_tableIn (off := 62) (tgt := 63) hx hb d_M_operationOf_1 (by decide) (by decide) (by decide) (by decide) ?_
    refine lv_bipush (v := 7) hx hb d_M_operationOf_63 (by decide) ?_
    exact me_preti h hx hb hr hlocks hK hS d_M_operationOf_65
  have h := if_f (fun z => n8 (ew1.trans z)) h
  by_cases n9 : w1 = 11
  · have h := if_t (ew1.symm.trans n9) h
    subst n9
    refine lv_tableIn (off := 65) (tgt := 66) hx hb d_M_operationOf_1 (by decide) (by decide) (by decide) (by decide) ?_
    refine lv_bipush (v := 12) hx hb d_M_operationOf_66 (by decide) ?_
    exact me_preti h hx hb hr hlocks hK hS d_M_operationOf_68
  have h := if_f (fun z => n9 (ew1.trans z)) h
  by_cases n10 : w1 = 12
  · have h := if_t (ew1.symm.trans n10) h
    subst n10
    refine lv_tableIn (off := 68) (tgt := 69) hx hb d_M_operationOf_1 (by decide) (by decide) (by decide) (by decide) ?_
    refine lv_bipush (v := 10) hx hb d_M_operationOf_69 (by decide) ?_
    exact me_preti h hx hb hr hlocks hK hS d_M_operationOf_71
  have h := if_f (fun z => n10 (ew1.trans z)) h
  have in2 := lv_neT n2 (show (4 : Int32).toInt = 4 from rfl)
  have in3 := lv_neT n3 (show (5 : Int32).toInt = 5 from rfl)
  have in4 := lv_neT n4 (show (6 : Int32).toInt = 6 from rfl)
  have in5 := lv_neT n5 (show (7 : Int32).toInt = 7 from rfl)
  have in6 := lv_neT n6 (show (8 : Int32).toInt = 8 from rfl)
  have in7 := lv_neT n7 (show (9 : Int32).toInt = 9 from rfl)
  have in8 := lv_neT n8 (show (10 : Int32).toInt = 10 from rfl)
  have in9 := lv_neT n9 (show (11 : Int32).toInt = 11 from rfl)
  have in10 := lv_neT n10 (show (12 : Int32).toInt = 12 from rfl)
  refine lv_tableOut (tgt := 72) hx hb d_M_operationOf_1 (by omega) (by decide) ?_
  refine lv_iload_n hx hb d_M_operationOf_72 rfl (lv_at hl 0 rfl) ?_
  exact me_preti h hx hb hr hlocks hK hS d_M_operationOf_73
