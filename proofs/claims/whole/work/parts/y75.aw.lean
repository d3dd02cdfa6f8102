theorem d_M_isWithin_9 : decode prog_14_method_98_code 9 = .ok (.iload_n 3, 1) := by decide +kernel
theorem d_M_isWithin_10 : decode prog_14_method_98_code 10 = .ok (.bipush 75, 2) := by decide +kernel
theorem d_M_isWithin_12 : decode prog_14_method_98_code 12 = .ok (.if_icmp .ge 20, 3) := by decide +kernel
theorem d_M_isWithin_32 : decode prog_14_method_98_code 32 = .ok (.iload_n 2, 1) := by decide +kernel
theorem d_M_isWithin_33 : decode prog_14_method_98_code 33 = .ok (.ireturn, 1) := by decide +kernel
theorem d_M_isWithin_15 : decode prog_14_method_98_code 15 = .ok (.iload_n 2, 1) := by decide +kernel
theorem d_M_isWithin_16 : decode prog_14_method_98_code 16 = .ok (.ifCond .eq 16, 3) := by decide +kernel
theorem d_M_isWithin_19 : decode prog_14_method_98_code 19 = .ok (.aload_n 0, 1) := by decide +kernel
theorem d_M_isWithin_20 : decode prog_14_method_98_code 20 = .ok (.iload_n 3, 1) := by decide +kernel
theorem d_M_isWithin_21 : decode prog_14_method_98_code 21 = .ok (.iload_n 1, 1) := by decide +kernel
theorem d_M_isWithin_22 : decode prog_14_method_98_code 22 = .ok (.invokevirtual 496, 3) := by decide +kernel
theorem u_2056 : Cond.methodLink "FilterGuardModel" 496 ⟨"FilterGuardModel", "isItemWithin", "(II)Z"⟩ ∈ fg_g := fg_in (List.mem_of_getElem? (i := 2056) (by decide +kernel)) rfl
theorem u_2059 : Cond.code ⟨"FilterGuardModel", "isItemWithin", "(II)Z"⟩ prog_14_method_95_code 4 (some .boolean) ∈ fg_g := fg_in (List.mem_of_getElem? (i := 2059) (by decide +kernel)) rfl
theorem u_2058 : Cond.instanceMethod ⟨"FilterGuardModel", "isItemWithin", "(II)Z"⟩ ∈ fg_g := fg_in (List.mem_of_getElem? (i := 2058) (by decide +kernel)) rfl
theorem u_95 : Cond.selects "FilterGuardModel" ⟨"FilterGuardModel", "isItemWithin", "(II)Z"⟩ ⟨"FilterGuardModel", "isItemWithin", "(II)Z"⟩ ∈ fg_g := fg_in (List.mem_of_getElem? (i := 95) (by decide +kernel)) rfl
theorem d_M_isWithin_25 : decode prog_14_method_98_code 25 = .ok (.istore_n 2, 1) := by decide +kernel
theorem d_M_isWithin_26 : decode prog_14_method_98_code 26 = .ok (.iinc 3 1, 3) := by decide +kernel
theorem d_M_isWithin_29 : decode prog_14_method_98_code 29 = .ok (.goto (-20), 3) := by decide +kernel
theorem d_M_isWithin_0 : decode prog_14_method_98_code 0 = .ok (.aload_n 0, 1) := by decide +kernel
theorem d_M_isWithin_1 : decode prog_14_method_98_code 1 = .ok (.iconst 0, 1) := by decide +kernel
theorem d_M_isWithin_2 : decode prog_14_method_98_code 2 = .ok (.putfield 493, 3) := by decide +kernel
theorem d_M_isWithin_5 : decode prog_14_method_98_code 5 = .ok (.iconst 1, 1) := by decide +kernel
theorem d_M_isWithin_6 : decode prog_14_method_98_code 6 = .ok (.istore_n 2, 1) := by decide +kernel
theorem d_M_isWithin_7 : decode prog_14_method_98_code 7 = .ok (.iconst 0, 1) := by decide +kernel
theorem d_M_isWithin_8 : decode prog_14_method_98_code 8 = .ok (.istore_n 3, 1) := by decide +kernel
abbrev y_M_isWithin : MethodName := ⟨"FilterGuardModel", "isWithin", "(I)Z"⟩
def rm_M_isWithin : Room := { frames := 4, cells := 0, slots := 0, locals := 89 }
abbrev q_M_isWithin (D : va_G) (ad : Nat → Nat → Nat) (ca : Nat → ClassId) (N : Nat → Nat) (M0 MZ : me_M) (RZ : Int32) (A : Nat → Prop) : Array Value → Jvm.State → Outcome → Jvm.State → Prop := va_Qi (fun r (_ : Unit) => r = RZ ∧ me_wf N MZ ∧ me_kp M0 MZ ∧ (RZ = 1 ∨ RZ = 0)) (fg_B D A (fun _ => me_W ad ca MZ) (fun _ => [])) A
set_option maxHeartbeats 4000000 in
set_option maxRecDepth 100000 in
theorem c_M_isWithin (l : Launch) (D : va_G) (ad : Nat → Nat → Nat) (ca : Nat → ClassId) (N : Nat → Nat) (M0 MZ : me_M) (RZ : Int32) (j0 : Nat) (x1 : Int32) (h : f_M_isWithin M0 j0 x1 = (some (MZ, RZ))) (hwf : me_wf N M0) (hj0 : j0 < N 1) (sz : Nat) : Met l y_M_isWithin (fg_w y_M_isWithin prog_14_method_98_code 4 (some .boolean)) rm_M_isWithin (va_Pc [.ref (ad 1 j0), .int x1] (fz_P D (me_T ca) (me_W ad ca M0) sz)) (q_M_isWithin D ad ca N M0 MZ RZ (va_A (me_W ad ca M0) sz)) rm_M_isWithin.cells rm_M_isWithin.slots (va_A (me_W ad ca M0) sz) := by
  refine fz_enter (fun A => q_M_isWithin D ad ca N M0 MZ RZ A) (by decide +kernel) (Nat.le_of_ble_eq_true rfl) ?_
  intro p e s m below meth c ls A hx hb hml hown hts hr hlocks hin hP hK hD hS hA hX hl hz
  have hl : lv_has ls 4 [(0, .ref (ad 1 j0)), (1, .int x1)] := hl
  unfold f_M_isWithin at h
  have hkp : me_kp M0 M0 := me_kp.rf
  have hkb := hkp
  have b_9 : ∀ (fu : Nat), ∀ (M : me_M) (y2 : Int32) (y3 : Int32) (H : Heap) (locs : List Loc) (ls : Array Slot), f_M_isWithin_l9 j0 x1 fu M y2 y3 = (some (MZ, RZ)) → (y2 = 1 ∨ y2 = 0) → me_wf N M → me_kp M0 M → va_P D classes (me_W ad ca M) H → va_D A (me_W ad ca M) → va_S A s.heap H locs → lv_has ls 4 [(0, .ref (ad 1 j0)), (1, .int x1), (2, .int y2), (3, .int y3)] → W p l e rm_M_isWithin s m [.ref (ad 1 j0), .int x1].toArray below meth c H locs 0 0 (MQ below (q_M_isWithin D ad ca N M0 MZ RZ A) [.ref (ad 1 j0), .int x1].toArray s rm_M_isWithin.cells rm_M_isWithin.slots A) (F0 m 9 ls []) := by
    intro fu
    induction fu with
    | zero =>
      intro M y2 y3 H locs ls h zy2 hwf hkp hP hD hS hl
      cases h
    | succ fu ih =>
      intro M y2 y3 H locs ls h zy2 hwf hkp hP hD hS hl
      unfold f_M_isWithin_l9 at h
      have hkb := hkp
      refine lv_iload_n hx hb d_M_isWithin_9 rfl (lv_at hl 3 rfl) ?_
      refine lv_bipush (v := 75) hx hb d_M_isWithin_10 (by decide) ?_
      refine lv_icmp_ge (tgt := 32) hx hb d_M_isWithin_12 (by decide) (fun c1 => ?_) (fun c1 => ?_)
      · have h := if_t c1 h
        refine lv_iload_n hx hb d_M_isWithin_32 rfl (lv_at hl 2 rfl) ?_
        exact me_retz (me_kp M0) h zy2 hx hb hr hlocks hwf hkp hP hK hD hS d_M_isWithin_33
      have h := if_f c1 h
      refine lv_iload_n hx hb d_M_isWithin_15 rfl (lv_at hl 2 rfl) ?_
      refine lv_if_eq (tgt := 32) hx hb d_M_isWithin_16 (by decide) (fun c2 => ?_) (fun c2 => ?_)
      · have h := if_t c2 h
        refine lv_iload_n hx hb d_M_isWithin_32 rfl (lv_at hl 2 rfl) ?_
        exact me_retz (me_kp M0) h zy2 hx hb hr hlocks hwf hkp hP hK hD hS d_M_isWithin_33
      have h := if_f c2 h
      refine lv_aload_n hx hb d_M_isWithin_19 rfl (lv_at hl 0 rfl) ?_
      refine lv_iload_n hx hb d_M_isWithin_20 rfl (lv_at hl 3 rfl) ?_
      refine lv_iload_n hx hb d_M_isWithin_21 rfl (lv_at hl 1 rfl) ?_
      obtain ⟨M3, r4, eM3, h⟩ := b2_ob h
      refine me_theni0 (M1 := M3) (me_runV (C := "FilterGuardModel") (As := [.int y3, .int x1]) (rest := []) ⟨hx, hb, hml, hown, hts⟩ (c_M_isItemWithin l D ad ca N M M3 r4 j0 y3 x1 eM3 hwf hj0 _) rfl (by show fg_nm y_M_isItemWithin 2; decide +kernel) u_2056 u_2058 u_95 u_192 u_2059 ⟨Nat.le_of_ble_eq_true rfl, Nat.le_of_ble_eq_true rfl⟩ hX hz hK hP hD hwf hS hA hj0 (by decide) rfl rfl rfl hl.1 (Nat.le_of_ble_eq_true rfl) d_M_isWithin_22 ⟨Nat.le_of_ble_eq_true rfl, Nat.le_of_ble_eq_true rfl⟩) hP hD hK hS hA rfl rfl (fun H locs hw hP hD hS => ?_)
      obtain ⟨hwf, hkq, zr4⟩ := hw
      have hkp := hkp.tr hkq
      refine lv_istore_n (lv' := [(2, .int r4), (0, .ref (ad 1 j0)), (1, .int x1), (3, .int y3)]) hx hb d_M_isWithin_25 rfl hl (by decide) rfl (fun ls hl => ?_)
      refine lv_iinc (v := y3 + 1) (lv' := [(3, .int (y3 + 1)), (2, .int r4), (0, .ref (ad 1 j0)), (1, .int x1)]) hx hb d_M_isWithin_26 hl (k := 3) rfl (by rfl) (by decide) rfl (fun ls hl => ?_)
      refine lv_goto (tgt := 9) hx hb d_M_isWithin_29 (by decide) ?_
      exact ih M3 r4 (y3 + 1) _ _ _ h zr4 hwf hkp hP hD hS (lv_sub hl [2, 3, 1, 0] rfl)
  refine lv_aload_n hx hb d_M_isWithin_0 rfl (lv_at hl 0 rfl) ?_
  refine lv_iconst (v := 0) hx hb d_M_isWithin_1 (by decide) ?_
  obtain ⟨M5, eM5, h⟩ := st_ob h
  refine p_M_69 eM5 hx hb hts hown hK hP hD hwf hS hj0 (hts _ u_1810) d_M_isWithin_2 (fun H locs hP hD hwf hS => ?_)
  have hkp := kp_I eM5 hkp
  refine lv_iconst (v := 1) hx hb d_M_isWithin_5 (by decide) ?_
  refine lv_istore_n (lv' := [(2, .int 1), (0, .ref (ad 1 j0)), (1, .int x1)]) hx hb d_M_isWithin_6 rfl hl (by decide) rfl (fun ls hl => ?_)
  refine lv_iconst (v := 0) hx hb d_M_isWithin_7 (by decide) ?_
  refine lv_istore_n (lv' := [(3, .int 0), (2, .int 1), (0, .ref (ad 1 j0)), (1, .int x1)]) hx hb d_M_isWithin_8 rfl hl (by decide) rfl (fun ls hl => ?_)
  exact b_9 _ M5 (1 : Int32) (0 : Int32) _ _ _ h (by decide) hwf hkp hP hD hS (lv_sub hl [2, 3, 1, 0] rfl)
theorem d_M_comesFrom_2 : decode prog_14_method_100_code 2 = .ok (.iload_n 3, 1) := by decide +kernel
theorem d_M_comesFrom_3 : decode prog_14_method_100_code 3 = .ok (.iload_n 2, 1) := by decide +kernel
theorem d_M_comesFrom_4 : decode prog_14_method_100_code 4 = .ok (.if_icmp .le 13, 3) := by decide +kernel
theorem d_M_comesFrom_17 : decode prog_14_method_100_code 17 = .ok (.iload_n 3, 1) := by decide +kernel
theorem d_M_comesFrom_18 : decode prog_14_method_100_code 18 = .ok (.iload_n 2, 1) := by decide +kernel
theorem d_M_comesFrom_19 : decode prog_14_method_100_code 19 = .ok (.if_icmp .ne 7, 3) := by decide +kernel
theorem d_M_comesFrom_26 : decode prog_14_method_100_code 26 = .ok (.iconst 0, 1) := by decide +kernel
theorem d_M_comesFrom_27 : decode prog_14_method_100_code 27 = .ok (.ireturn, 1) := by decide +kernel
theorem d_M_comesFrom_22 : decode prog_14_method_100_code 22 = .ok (.iconst 1, 1) := by decide +kernel
theorem d_M_comesFrom_23 : decode prog_14_method_100_code 23 = .ok (.goto 4, 3) := by decide +kernel
theorem d_M_comesFrom_7 : decode prog_14_method_100_code 7 = .ok (.aload_n 0, 1) := by decide +kernel
theorem d_M_comesFrom_8 : decode prog_14_method_100_code 8 = .ok (.getfield 128, 3) := by decide +kernel
theorem g_M_61 {p : Program} {l : Launch} {e : Env} {R : Room} {s : Jvm.State} {m : MethodId} {args : Array Value} {below : List Frame} {meth : Method} {c : Code} {H : Heap} {locs : List Loc} {cells slots : Nat} {Q : Jvm.State → Prop} {cc : ByteArray} {pc : Nat} {ls : Array Slot} {rest : List Value} {D : va_G} {ad : Nat → Nat → Nat} {ca : Nat → ClassId} {M : me_M} {N : Nat → Nat} {own : String} {index j : Nat} (hexec : p.tables.exec = Jvm.exec) (hb : c.code = cc) (hts : ∀ w ∈ fg_g, w.before args s = true) (hown : s.vm.findClass own = some m.cls) (hK : va_K D classes (me_T ca) s) (hP : va_P D classes (me_W ad ca M) H) (hwf : me_wf N M) (hj : j < N 1) (hlink : (Cond.fieldLink own index "FilterGuardModel" "keptBehind" "[I").before args s = true) (hdg : decode cc pc = .ok (.getfield index, 3)) (kk : W p l e R s m args below meth c H locs cells slots Q (F0 m (pc + 3) ls (va_rf ((mR M 1 j 61).map (ad 13)) :: rest))) : W p l e R s m args below meth c H locs cells slots Q (F0 m pc ls (.ref (ad 1 j) :: rest)) := me_get (k := 1) (f := 61) (C := "FilterGuardModel") (T := F_M) (Nf := 75) hexec hb hts i_M hown hK hP hwf hj (by decide) rfl (by decide) (by decide) hlink (fun _ h9 => h9) hdg kk
theorem d_M_comesFrom_11 : decode prog_14_method_100_code 11 = .ok (.iload_n 3, 1) := by decide +kernel
theorem d_M_comesFrom_12 : decode prog_14_method_100_code 12 = .ok (.iaload, 1) := by decide +kernel
theorem d_M_comesFrom_13 : decode prog_14_method_100_code 13 = .ok (.istore_n 3, 1) := by decide +kernel
theorem d_M_comesFrom_14 : decode prog_14_method_100_code 14 = .ok (.goto (-12), 3) := by decide +kernel
theorem d_M_comesFrom_0 : decode prog_14_method_100_code 0 = .ok (.iload_n 1, 1) := by decide +kernel
theorem d_M_comesFrom_1 : decode prog_14_method_100_code 1 = .ok (.istore_n 3, 1) := by decide +kernel
abbrev y_M_comesFrom : MethodName := ⟨"FilterGuardModel", "comesFrom", "(II)Z"⟩
def rm_M_comesFrom : Room := { frames := 1, cells := 0, slots := 0, locals := 20 }
abbrev q_M_comesFrom (D : va_G) (ad : Nat → Nat → Nat) (ca : Nat → ClassId) (N : Nat → Nat) (M0 MZ : me_M) (RZ : Int32) (A : Nat → Prop) : Array Value → Jvm.State → Outcome → Jvm.State → Prop := va_Qi (fun r (_ : Unit) => r = RZ ∧ me_wf N MZ ∧ me_kp M0 MZ ∧ (RZ = 1 ∨ RZ = 0)) (fg_B D A (fun _ => me_W ad ca MZ) (fun _ => [])) A
set_option maxHeartbeats 4000000 in
set_option maxRecDepth 100000 in
theorem c_M_comesFrom (l : Launch) (D : va_G) (ad : Nat → Nat → Nat) (ca : Nat → ClassId) (N : Nat → Nat) (M0 MZ : me_M) (RZ : Int32) (j0 : Nat) (x1 : Int32) (x2 : Int32) (h : f_M_comesFrom M0 j0 x1 x2 = (some (MZ, RZ))) (hwf : me_wf N M0) (hj0 : j0 < N 1) (sz : Nat) : Met l y_M_comesFrom (fg_w y_M_comesFrom prog_14_method_100_code 4 (some .boolean)) rm_M_comesFrom (va_Pc [.ref (ad 1 j0), .int x1, .int x2] (fz_P D (me_T ca) (me_W ad ca M0) sz)) (q_M_comesFrom D ad ca N M0 MZ RZ (va_A (me_W ad ca M0) sz)) rm_M_comesFrom.cells rm_M_comesFrom.slots (va_A (me_W ad ca M0) sz) := by
  refine fz_enter (fun A => q_M_comesFrom D ad ca N M0 MZ RZ A) (by decide +kernel) (Nat.le_of_ble_eq_true rfl) ?_
  intro p e s m below meth c ls A hx hb hml hown hts hr hlocks hin hP hK hD hS hA hX hl hz
  have hl : lv_has ls 4 [(0, .ref (ad 1 j0)), (1, .int x1), (2, .int x2)] := hl
  unfold f_M_comesFrom at h
  have hkp : me_kp M0 M0 := me_kp.rf
  have hkb := hkp
  have b_2 : ∀ (fu : Nat), ∀ (M : me_M) (y3 : Int32) (H : Heap) (locs : List Loc) (ls : Array Slot), f_M_comesFrom_l2 j0 x2 fu M y3 = (some (MZ, RZ)) → me_wf N M → me_kp M0 M → va_P D classes (me_W ad ca M) H → va_D A (me_W ad ca M) → va_S A s.heap H locs → lv_has ls 4 [(0, .ref (ad 1 j0)), (2, .int x2), (3, .int y3)] → W p l e rm_M_comesFrom s m [.ref (ad 1 j0), .int x1, .int x2].toArray below meth c H locs 0 0 (MQ below (q_M_comesFrom D ad ca N M0 MZ RZ A) [.ref (ad 1 j0), .int x1, .int x2].toArray s rm_M_comesFrom.cells rm_M_comesFrom.slots A) (F0 m 2 ls []) := by
    intro fu
    induction fu with
    | zero =>
      intro M y3 H locs ls h hwf hkp hP hD hS hl
      cases h
    | succ fu ih =>
      intro M y3 H locs ls h hwf hkp hP hD hS hl
      unfold f_M_comesFrom_l2 at h
      have hkb := hkp
      refine lv_iload_n hx hb d_M_comesFrom_2 rfl (lv_at hl 2 rfl) ?_
      refine lv_iload_n hx hb d_M_comesFrom_3 rfl (lv_at hl 1 rfl) ?_
      refine lv_icmp_le (tgt := 17) hx hb d_M_comesFrom_4 (by decide) (fun c1 => ?_) (fun c1 => ?_)
      · have h := if_t c1 h
        refine lv_iload_n hx hb d_M_comesFrom_17 rfl (lv_at hl 2 rfl) ?_
        refine lv_iload_n hx hb d_M_comesFrom_18 rfl (lv_at hl 1 rfl) ?_
        refine lv_icmp_ne (tgt := 26) hx hb d_M_comesFrom_19 (by decide) (fun c2 => ?_) (fun c2 => ?_)
        · have h := if_f c2 h
          refine lv_iconst (v := 0) hx hb d_M_comesFrom_26 (by decide) ?_
          exact me_retz (me_kp M0) h (by decide) hx hb hr hlocks hwf hkp hP hK hD hS d_M_comesFrom_27
        have h := if_t c2 h
        refine lv_iconst (v := 1) hx hb d_M_comesFrom_22 (by decide) ?_
        refine lv_goto (tgt := 27) hx hb d_M_comesFrom_23 (by decide) ?_
        exact me_retz (me_kp M0) h (by decide) hx hb hr hlocks hwf hkp hP hK hD hS d_M_comesFrom_27
      have h := if_f c1 h
      refine lv_aload_n hx hb d_M_comesFrom_7 rfl (lv_at hl 0 rfl) ?_
      refine g_M_61 hx hb hts hown hK hP hwf hj0 (hts _ u_1802) d_M_comesFrom_8 ?_
      obtain ⟨j3, e4, h⟩ := bd_ob h
      have hj3 : j3 < N 13 := (hwf.2.1 1 j0 61 _ e4 (by decide) hj0)
      refine me_opt (j := j3) e4 ?_
      refine lv_iload_n hx hb d_M_comesFrom_11 rfl (lv_at hl 2 rfl) ?_
      obtain ⟨g5, h⟩ := gd_ob h
      refine me_iald hx hb hK hP hwf hj3 g5 d_M_comesFrom_12 ?_
      obtain ⟨v6, ev6, h⟩ := st_ob h
      refine fg_topi (y := v6) ev6.symm ?_
      refine lv_istore_n (lv' := [(3, .int v6), (0, .ref (ad 1 j0)), (2, .int x2)]) hx hb d_M_comesFrom_13 rfl hl (by decide) rfl (fun ls hl => ?_)
      refine lv_goto (tgt := 2) hx hb d_M_comesFrom_14 (by decide) ?_
      exact ih M v6 _ _ _ h hwf hkp hP hD hS (lv_sub hl [1, 2, 0] rfl)
  refine lv_iload_n hx hb d_M_comesFrom_0 rfl (lv_at hl 1 rfl) ?_
  refine lv_istore_n (lv' := [(3, .int x1), (0, .ref (ad 1 j0)), (1, .int x1), (2, .int x2)]) hx hb d_M_comesFrom_1 rfl hl (by decide) rfl (fun ls hl => ?_)
  exact b_2 _ M0 x1 _ _ _ h hwf hkp hP hD hS (lv_sub hl [1, 3, 0] rfl)
theorem d_M_isOpen_12 : decode prog_14_method_99_code 12 = .ok (.iload_n 3, 1) := by decide +kernel
theorem d_M_isOpen_13 : decode prog_14_method_99_code 13 = .ok (.aload_n 0, 1) := by decide +kernel
theorem d_M_isOpen_14 : decode prog_14_method_99_code 14 = .ok (.getfield 457, 3) := by decide +kernel
theorem d_M_isOpen_17 : decode prog_14_method_99_code 17 = .ok (.if_icmp .ge 33, 3) := by decide +kernel
theorem d_M_isOpen_50 : decode prog_14_method_99_code 50 = .ok (.iload_n 2, 1) := by decide +kernel
theorem d_M_isOpen_51 : decode prog_14_method_99_code 51 = .ok (.ireturn, 1) := by decide +kernel
theorem d_M_isOpen_20 : decode prog_14_method_99_code 20 = .ok (.iload_n 2, 1) := by decide +kernel
theorem d_M_isOpen_21 : decode prog_14_method_99_code 21 = .ok (.ifCond .ne 17, 3) := by decide +kernel
theorem d_M_isOpen_38 : decode prog_14_method_99_code 38 = .ok (.iconst 1, 1) := by decide +kernel
theorem d_M_isOpen_39 : decode prog_14_method_99_code 39 = .ok (.goto 4, 3) := by decide +kernel
theorem d_M_isOpen_43 : decode prog_14_method_99_code 43 = .ok (.istore_n 2, 1) := by decide +kernel
theorem d_M_isOpen_44 : decode prog_14_method_99_code 44 = .ok (.iinc 3 1, 3) := by decide +kernel
theorem d_M_isOpen_47 : decode prog_14_method_99_code 47 = .ok (.goto (-35), 3) := by decide +kernel
theorem d_M_isOpen_24 : decode prog_14_method_99_code 24 = .ok (.aload_n 0, 1) := by decide +kernel
theorem d_M_isOpen_25 : decode prog_14_method_99_code 25 = .ok (.aload_n 0, 1) := by decide +kernel
theorem d_M_isOpen_26 : decode prog_14_method_99_code 26 = .ok (.getfield 134, 3) := by decide +kernel
theorem g_M_64 {p : Program} {l : Launch} {e : Env} {R : Room} {s : Jvm.State} {m : MethodId} {args : Array Value} {below : List Frame} {meth : Method} {c : Code} {H : Heap} {locs : List Loc} {cells slots : Nat} {Q : Jvm.State → Prop} {cc : ByteArray} {pc : Nat} {ls : Array Slot} {rest : List Value} {D : va_G} {ad : Nat → Nat → Nat} {ca : Nat → ClassId} {M : me_M} {N : Nat → Nat} {own : String} {index j : Nat} (hexec : p.tables.exec = Jvm.exec) (hb : c.code = cc) (hts : ∀ w ∈ fg_g, w.before args s = true) (hown : s.vm.findClass own = some m.cls) (hK : va_K D classes (me_T ca) s) (hP : va_P D classes (me_W ad ca M) H) (hwf : me_wf N M) (hj : j < N 1) (hlink : (Cond.fieldLink own index "FilterGuardModel" "waitsBehind" "[I").before args s = true) (hdg : decode cc pc = .ok (.getfield index, 3)) (kk : W p l e R s m args below meth c H locs cells slots Q (F0 m (pc + 3) ls (va_rf ((mR M 1 j 64).map (ad 13)) :: rest))) : W p l e R s m args below meth c H locs cells slots Q (F0 m pc ls (.ref (ad 1 j) :: rest)) := me_get (k := 1) (f := 64) (C := "FilterGuardModel") (T := F_M) (Nf := 75) hexec hb hts i_M hown hK hP hwf hj (by decide) rfl (by decide) (by decide) hlink (fun _ h9 => h9) hdg kk
theorem d_M_isOpen_29 : decode prog_14_method_99_code 29 = .ok (.iload_n 3, 1) := by decide +kernel
theorem d_M_isOpen_30 : decode prog_14_method_99_code 30 = .ok (.iaload, 1) := by decide +kernel
theorem d_M_isOpen_31 : decode prog_14_method_99_code 31 = .ok (.iload_n 1, 1) := by decide +kernel
theorem d_M_isOpen_32 : decode prog_14_method_99_code 32 = .ok (.invokevirtual 502, 3) := by decide +kernel
theorem u_2084 : Cond.methodLink "FilterGuardModel" 502 ⟨"FilterGuardModel", "comesFrom", "(II)Z"⟩ ∈ fg_g := fg_in (List.mem_of_getElem? (i := 2084) (by decide +kernel)) rfl
theorem u_2087 : Cond.code ⟨"FilterGuardModel", "comesFrom", "(II)Z"⟩ prog_14_method_100_code 4 (some .boolean) ∈ fg_g := fg_in (List.mem_of_getElem? (i := 2087) (by decide +kernel)) rfl
theorem u_2086 : Cond.instanceMethod ⟨"FilterGuardModel", "comesFrom", "(II)Z"⟩ ∈ fg_g := fg_in (List.mem_of_getElem? (i := 2086) (by decide +kernel)) rfl
theorem u_100 : Cond.selects "FilterGuardModel" ⟨"FilterGuardModel", "comesFrom", "(II)Z"⟩ ⟨"FilterGuardModel", "comesFrom", "(II)Z"⟩ ∈ fg_g := fg_in (List.mem_of_getElem? (i := 100) (by decide +kernel)) rfl
theorem d_M_isOpen_35 : decode prog_14_method_99_code 35 = .ok (.ifCond .eq 7, 3) := by decide +kernel
theorem d_M_isOpen_42 : decode prog_14_method_99_code 42 = .ok (.iconst 0, 1) := by decide +kernel
theorem d_M_isOpen_0 : decode prog_14_method_99_code 0 = .ok (.aload_n 0, 1) := by decide +kernel
theorem d_M_isOpen_1 : decode prog_14_method_99_code 1 = .ok (.aload_n 0, 1) := by decide +kernel
theorem d_M_isOpen_2 : decode prog_14_method_99_code 2 = .ok (.getfield 499, 3) := by decide +kernel
theorem u_1806 : Cond.fieldLink "FilterGuardModel" 499 "FilterGuardModel" "behind" "I" ∈ fg_g := fg_in (List.mem_of_getElem? (i := 1806) (by decide +kernel)) rfl
theorem g_M_65 {p : Program} {l : Launch} {e : Env} {R : Room} {s : Jvm.State} {m : MethodId} {args : Array Value} {below : List Frame} {meth : Method} {c : Code} {H : Heap} {locs : List Loc} {cells slots : Nat} {Q : Jvm.State → Prop} {cc : ByteArray} {pc : Nat} {ls : Array Slot} {rest : List Value} {D : va_G} {ad : Nat → Nat → Nat} {ca : Nat → ClassId} {M : me_M} {N : Nat → Nat} {own : String} {index j : Nat} (hexec : p.tables.exec = Jvm.exec) (hb : c.code = cc) (hts : ∀ w ∈ fg_g, w.before args s = true) (hown : s.vm.findClass own = some m.cls) (hK : va_K D classes (me_T ca) s) (hP : va_P D classes (me_W ad ca M) H) (hwf : me_wf N M) (hj : j < N 1) (hlink : (Cond.fieldLink own index "FilterGuardModel" "behind" "I").before args s = true) (hdg : decode cc pc = .ok (.getfield index, 3)) (kk : W p l e R s m args below meth c H locs cells slots Q (F0 m (pc + 3) ls (.int (mI M 1 j 65) :: rest))) : W p l e R s m args below meth c H locs cells slots Q (F0 m pc ls (.ref (ad 1 j) :: rest)) := me_get (k := 1) (f := 65) (C := "FilterGuardModel") (T := F_M) (Nf := 75) hexec hb hts i_M hown hK hP hwf hj (by decide) rfl (by decide) (by decide) hlink (fun _ h9 => h9) hdg kk
theorem d_M_isOpen_5 : decode prog_14_method_99_code 5 = .ok (.iload_n 1, 1) := by decide +kernel
theorem d_M_isOpen_6 : decode prog_14_method_99_code 6 = .ok (.invokevirtual 502, 3) := by decide +kernel
theorem d_M_isOpen_9 : decode prog_14_method_99_code 9 = .ok (.istore_n 2, 1) := by decide +kernel
theorem d_M_isOpen_10 : decode prog_14_method_99_code 10 = .ok (.iconst 0, 1) := by decide +kernel
theorem d_M_isOpen_11 : decode prog_14_method_99_code 11 = .ok (.istore_n 3, 1) := by decide +kernel
abbrev y_M_isOpen : MethodName := ⟨"FilterGuardModel", "isOpen", "(I)Z"⟩
def rm_M_isOpen : Room := { frames := 2, cells := 0, slots := 0, locals := 43 }
abbrev q_M_isOpen (D : va_G) (ad : Nat → Nat → Nat) (ca : Nat → ClassId) (N : Nat → Nat) (M0 MZ : me_M) (RZ : Int32) (A : Nat → Prop) : Array Value → Jvm.State → Outcome → Jvm.State → Prop := va_Qi (fun r (_ : Unit) => r = RZ ∧ me_wf N MZ ∧ me_kp M0 MZ ∧ (RZ = 1 ∨ RZ = 0)) (fg_B D A (fun _ => me_W ad ca MZ) (fun _ => [])) A
set_option maxHeartbeats 4000000 in
set_option maxRecDepth 100000 in
theorem c_M_isOpen (l : Launch) (D : va_G) (ad : Nat → Nat → Nat) (ca : Nat → ClassId) (N : Nat → Nat) (M0 MZ : me_M) (RZ : Int32) (j0 : Nat) (x1 : Int32) (h : f_M_isOpen M0 j0 x1 = (some (MZ, RZ))) (hwf : me_wf N M0) (hj0 : j0 < N 1) (sz : Nat) : Met l y_M_isOpen (fg_w y_M_isOpen prog_14_method_99_code 4 (some .boolean)) rm_M_isOpen (va_Pc [.ref (ad 1 j0), .int x1] (fz_P D (me_T ca) (me_W ad ca M0) sz)) (q_M_isOpen D ad ca N M0 MZ RZ (va_A (me_W ad ca M0) sz)) rm_M_isOpen.cells rm_M_isOpen.slots (va_A (me_W ad ca M0) sz) := by
  refine fz_enter (fun A => q_M_isOpen D ad ca N M0 MZ RZ A) (by decide +kernel) (Nat.le_of_ble_eq_true rfl) ?_
  intro p e s m below meth c ls A hx hb hml hown hts hr hlocks hin hP hK hD hS hA hX hl hz
  have hl : lv_has ls 4 [(0, .ref (ad 1 j0)), (1, .int x1)] := hl
  unfold f_M_isOpen at h
  have hkp : me_kp M0 M0 := me_kp.rf
  have hkb := hkp
  have b_12 : ∀ (fu : Nat), ∀ (M : me_M) (y2 : Int32) (y3 : Int32) (H : Heap) (locs : List Loc) (ls : Array Slot), f_M_isOpen_l12 j0 x1 fu M y2 y3 = (some (MZ, RZ)) → (y2 = 1 ∨ y2 = 0) → me_wf N M → me_kp M0 M → va_P D classes (me_W ad ca M) H → va_D A (me_W ad ca M) → va_S A s.heap H locs → lv_has ls 4 [(0, .ref (ad 1 j0)), (1, .int x1), (2, .int y2), (3, .int y3)] → W p l e rm_M_isOpen s m [.ref (ad 1 j0), .int x1].toArray below meth c H locs 0 0 (MQ below (q_M_isOpen D ad ca N M0 MZ RZ A) [.ref (ad 1 j0), .int x1].toArray s rm_M_isOpen.cells rm_M_isOpen.slots A) (F0 m 12 ls []) := by
    intro fu
    induction fu with
    | zero =>
      intro M y2 y3 H locs ls h zy2 hwf hkp hP hD hS hl
      cases h
    | succ fu ih =>
      intro M y2 y3 H locs ls h zy2 hwf hkp hP hD hS hl
      unfold f_M_isOpen_l12 at h
      have hkb := hkp
      refine lv_iload_n hx hb d_M_isOpen_12 rfl (lv_at hl 3 rfl) ?_
      refine lv_aload_n hx hb d_M_isOpen_13 rfl (lv_at hl 0 rfl) ?_
      refine g_M_62 hx hb hts hown hK hP hwf hj0 (hts _ u_1803) d_M_isOpen_14 ?_
      refine lv_icmp_ge (tgt := 50) hx hb d_M_isOpen_17 (by decide) (fun c1 => ?_) (fun c1 => ?_)
      · have h := if_t c1 h
        refine lv_iload_n hx hb d_M_isOpen_50 rfl (lv_at hl 2 rfl) ?_
        exact me_retz (me_kp M0) h zy2 hx hb hr hlocks hwf hkp hP hK hD hS d_M_isOpen_51
      have h := if_f c1 h
      refine lv_iload_n hx hb d_M_isOpen_20 rfl (lv_at hl 2 rfl) ?_
      refine lv_if_ne (tgt := 38) hx hb d_M_isOpen_21 (by decide) (fun c2 => ?_) (fun c2 => ?_)
      · have h := if_f c2 h
        refine lv_iconst (v := 1) hx hb d_M_isOpen_38 (by decide) ?_
        refine lv_goto (tgt := 43) hx hb d_M_isOpen_39 (by decide) ?_
        refine lv_istore_n (lv' := [(2, .int 1), (0, .ref (ad 1 j0)), (1, .int x1), (3, .int y3)]) hx hb d_M_isOpen_43 rfl hl (by decide) rfl (fun ls hl => ?_)
        refine lv_iinc (v := y3 + 1) (lv' := [(3, .int (y3 + 1)), (2, .int 1), (0, .ref (ad 1 j0)), (1, .int x1)]) hx hb d_M_isOpen_44 hl (k := 3) rfl (by rfl) (by decide) rfl (fun ls hl => ?_)
        refine lv_goto (tgt := 12) hx hb d_M_isOpen_47 (by decide) ?_
        exact ih M (1 : Int32) (y3 + 1) _ _ _ h (by decide) hwf hkp hP hD hS (lv_sub hl [2, 3, 1, 0] rfl)
      have h := if_t c2 h
      refine lv_aload_n hx hb d_M_isOpen_24 rfl (lv_at hl 0 rfl) ?_
      refine lv_aload_n hx hb d_M_isOpen_25 rfl (lv_at hl 0 rfl) ?_
      refine g_M_64 hx hb hts hown hK hP hwf hj0 (hts _ u_1805) d_M_isOpen_26 ?_
      obtain ⟨j3, e4, h⟩ := bd_ob h
      have hj3 : j3 < N 13 := (hwf.2.1 1 j0 64 _ e4 (by decide) hj0)
      refine me_opt (j := j3) e4 ?_
      refine lv_iload_n hx hb d_M_isOpen_29 rfl (lv_at hl 3 rfl) ?_
      obtain ⟨g5, h⟩ := gd_ob h
      refine me_iald hx hb hK hP hwf hj3 g5 d_M_isOpen_30 ?_
      refine lv_iload_n hx hb d_M_isOpen_31 rfl (lv_at hl 1 rfl) ?_
      obtain ⟨M6, r7, eM6, h⟩ := b2_ob h
      refine me_theni0 (M1 := M6) (me_runV (C := "FilterGuardModel") (As := [.int (mI M 13 j3 y3.toNatClampNeg), .int x1]) (rest := []) ⟨hx, hb, hml, hown, hts⟩ (c_M_comesFrom l D ad ca N M M6 r7 j0 (mI M 13 j3 y3.toNatClampNeg) x1 eM6 hwf hj0 _) rfl (by show fg_nm y_M_comesFrom 2; decide +kernel) u_2084 u_2086 u_100 u_192 u_2087 ⟨Nat.le_of_ble_eq_true rfl, Nat.le_of_ble_eq_true rfl⟩ hX hz hK hP hD hwf hS hA hj0 (by decide) rfl rfl rfl hl.1 (Nat.le_of_ble_eq_true rfl) d_M_isOpen_32 ⟨Nat.le_of_ble_eq_true rfl, Nat.le_of_ble_eq_true rfl⟩) hP hD hK hS hA rfl rfl (fun H locs hw hP hD hS => ?_)
      obtain ⟨hwf, hk9, zr7⟩ := hw
      have hkp := hkp.tr hk9
      refine lv_if_eq (tgt := 42) hx hb d_M_isOpen_35 (by decide) (fun c8 => ?_) (fun c8 => ?_)
      · have h := if_t c8 h
        refine lv_iconst (v := 0) hx hb d_M_isOpen_42 (by decide) ?_
        refine lv_istore_n (lv' := [(2, .int 0), (0, .ref (ad 1 j0)), (1, .int x1), (3, .int y3)]) hx hb d_M_isOpen_43 rfl hl (by decide) rfl (fun ls hl => ?_)
        refine lv_iinc (v := y3 + 1) (lv' := [(3, .int (y3 + 1)), (2, .int 0), (0, .ref (ad 1 j0)), (1, .int x1)]) hx hb d_M_isOpen_44 hl (k := 3) rfl (by rfl) (by decide) rfl (fun ls hl => ?_)
        refine lv_goto (tgt := 12) hx hb d_M_isOpen_47 (by decide) ?_
        exact ih M6 (0 : Int32) (y3 + 1) _ _ _ h (by decide) hwf hkp hP hD hS (lv_sub hl [2, 3, 1, 0] rfl)
      have h := if_f c8 h
      refine lv_iconst (v := 1) hx hb d_M_isOpen_38 (by decide) ?_
      refine lv_goto (tgt := 43) hx hb d_M_isOpen_39 (by decide) ?_
      refine lv_istore_n (lv' := [(2, .int 1), (0, .ref (ad 1 j0)), (1, .int x1), (3, .int y3)]) hx hb d_M_isOpen_43 rfl hl (by decide) rfl (fun ls hl => ?_)
      refine lv_iinc (v := y3 + 1) (lv' := [(3, .int (y3 + 1)), (2, .int 1), (0, .ref (ad 1 j0)), (1, .int x1)]) hx hb d_M_isOpen_44 hl (k := 3) rfl (by rfl) (by decide) rfl (fun ls hl => ?_)
      refine lv_goto (tgt := 12) hx hb d_M_isOpen_47 (by decide) ?_
      exact ih M6 (1 : Int32) (y3 + 1) _ _ _ h (by decide) hwf hkp hP hD hS (lv_sub hl [2, 3, 1, 0] rfl)
  refine lv_aload_n hx hb d_M_isOpen_0 rfl (lv_at hl 0 rfl) ?_
  refine lv_aload_n hx hb d_M_isOpen_1 rfl (lv_at hl 0 rfl) ?_
  refine g_M_65 hx hb hts hown hK hP hwf hj0 (hts _ u_1806) d_M_isOpen_2 ?_
  refine lv_iload_n hx hb d_M_isOpen_5 rfl (lv_at hl 1 rfl) ?_
  obtain ⟨M9, r10, eM9, h⟩ := b2_ob h
  refine me_theni0 (M1 := M9) (me_runV (C := "FilterGuardModel") (As := [.int (mI M0 1 j0 65), .int x1]) (rest := []) ⟨hx, hb, hml, hown, hts⟩ (c_M_comesFrom l D ad ca N M0 M9 r10 j0 (mI M0 1 j0 65) x1 eM9 hwf hj0 _) rfl (by show fg_nm y_M_comesFrom 2; decide +kernel) u_2084 u_2086 u_100 u_192 u_2087 ⟨Nat.le_of_ble_eq_true rfl, Nat.le_of_ble_eq_true rfl⟩ hX hz hK hP hD hwf hS hA hj0 (by decide) rfl rfl rfl hl.1 (Nat.le_of_ble_eq_true rfl) d_M_isOpen_6 ⟨Nat.le_of_ble_eq_true rfl, Nat.le_of_ble_eq_true rfl⟩) hP hD hK hS hA rfl rfl (fun H locs hw hP hD hS => ?_)
  obtain ⟨hwf, hk9, zr10⟩ := hw
  have hkp := hkp.tr hk9
  refine lv_istore_n (lv' := [(2, .int r10), (0, .ref (ad 1 j0)), (1, .int x1)]) hx hb d_M_isOpen_9 rfl hl (by decide) rfl (fun ls hl => ?_)
  refine lv_iconst (v := 0) hx hb d_M_isOpen_10 (by decide) ?_
  refine lv_istore_n (lv' := [(3, .int 0), (2, .int r10), (0, .ref (ad 1 j0)), (1, .int x1)]) hx hb d_M_isOpen_11 rfl hl (by decide) rfl (fun ls hl => ?_)
  exact b_12 _ M9 r10 (0 : Int32) _ _ _ h zr10 hwf hkp hP hD hS (lv_sub hl [2, 3, 1, 0] rfl)
theorem d_M_lookAtKept_2 : decode prog_14_method_101_code 2 = .ok (.iload_n 2, 1) := by decide +kernel
theorem d_M_lookAtKept_3 : decode prog_14_method_101_code 3 = .ok (.aload_n 0, 1) := by decide +kernel
theorem d_M_lookAtKept_4 : decode prog_14_method_101_code 4 = .ok (.getfield 505, 3) := by decide +kernel
theorem u_1764 : Cond.fieldLink "FilterGuardModel" 505 "FilterGuardModel" "kept" "I" ∈ fg_g := fg_in (List.mem_of_getElem? (i := 1764) (by decide +kernel)) rfl
theorem g_M_23 {p : Program} {l : Launch} {e : Env} {R : Room} {s : Jvm.State} {m : MethodId} {args : Array Value} {below : List Frame} {meth : Method} {c : Code} {H : Heap} {locs : List Loc} {cells slots : Nat} {Q : Jvm.State → Prop} {cc : ByteArray} {pc : Nat} {ls : Array Slot} {rest : List Value} {D : va_G} {ad : Nat → Nat → Nat} {ca : Nat → ClassId} {M : me_M} {N : Nat → Nat} {own : String} {index j : Nat} (hexec : p.tables.exec = Jvm.exec) (hb : c.code = cc) (hts : ∀ w ∈ fg_g, w.before args s = true) (hown : s.vm.findClass own = some m.cls) (hK : va_K D classes (me_T ca) s) (hP : va_P D classes (me_W ad ca M) H) (hwf : me_wf N M) (hj : j < N 1) (hlink : (Cond.fieldLink own index "FilterGuardModel" "kept" "I").before args s = true) (hdg : decode cc pc = .ok (.getfield index, 3)) (kk : W p l e R s m args below meth c H locs cells slots Q (F0 m (pc + 3) ls (.int (mI M 1 j 23) :: rest))) : W p l e R s m args below meth c H locs cells slots Q (F0 m pc ls (.ref (ad 1 j) :: rest)) := me_get (k := 1) (f := 23) (C := "FilterGuardModel") (T := F_M) (Nf := 75) hexec hb hts i_M hown hK hP hwf hj (by decide) rfl (by decide) (by decide) hlink (fun _ h9 => h9) hdg kk
theorem d_M_lookAtKept_7 : decode prog_14_method_101_code 7 = .ok (.if_icmp .gt 42, 3) := by decide +kernel
theorem d_M_lookAtKept_49 : decode prog_14_method_101_code 49 = .ok (.aload_n 0, 1) := by decide +kernel
theorem d_M_lookAtKept_50 : decode prog_14_method_101_code 50 = .ok (.getfield 505, 3) := by decide +kernel
theorem d_M_lookAtKept_53 : decode prog_14_method_101_code 53 = .ok (.sipush 200, 3) := by decide +kernel
theorem d_M_lookAtKept_56 : decode prog_14_method_101_code 56 = .ok (.if_icmp .ge 53, 3) := by decide +kernel
theorem d_M_lookAtKept_109 : decode prog_14_method_101_code 109 = .ok (.iconst 0, 1) := by decide +kernel
theorem d_M_lookAtKept_110 : decode prog_14_method_101_code 110 = .ok (.ireturn, 1) := by decide +kernel
theorem d_M_lookAtKept_59 : decode prog_14_method_101_code 59 = .ok (.aload_n 0, 1) := by decide +kernel
theorem d_M_lookAtKept_60 : decode prog_14_method_101_code 60 = .ok (.dup, 1) := by decide +kernel
theorem d_M_lookAtKept_61 : decode prog_14_method_101_code 61 = .ok (.getfield 505, 3) := by decide +kernel
theorem d_M_lookAtKept_64 : decode prog_14_method_101_code 64 = .ok (.iconst 1, 1) := by decide +kernel
theorem d_M_lookAtKept_65 : decode prog_14_method_101_code 65 = .ok (.iadd, 1) := by decide +kernel
theorem d_M_lookAtKept_66 : decode prog_14_method_101_code 66 = .ok (.putfield 505, 3) := by decide +kernel
theorem p_M_23 {p : Program} {l : Launch} {e : Env} {R : Room} {s : Jvm.State} {m : MethodId} {args : Array Value} {below : List Frame} {meth : Method} {c : Code} {H : Heap} {locs : List Loc} {cells slots : Nat} {Q : Jvm.State → Prop} {cc : ByteArray} {pc : Nat} {ls : Array Slot} {rest : List Value} {D : va_G} {A : Nat → Prop} {H0 : Heap} {ad : Nat → Nat → Nat} {ca : Nat → ClassId} {M M1 : me_M} {N : Nat → Nat} {own : String} {index j : Nat} {v : Int32} (he : M1 = wI M 1 j 23 v) (hexec : p.tables.exec = Jvm.exec) (hb : c.code = cc) (hts : ∀ w ∈ fg_g, w.before args s = true) (hown : s.vm.findClass own = some m.cls) (hK : va_K D classes (me_T ca) s) (hP : va_P D classes (me_W ad ca M) H) (hD : va_D A (me_W ad ca M)) (hwf : me_wf N M) (hS : va_S A H0 H locs) (hj : j < N 1) (hlink : (Cond.fieldLink own index "FilterGuardModel" "kept" "I").before args s = true) (hdg : decode cc pc = .ok (.putfield index, 3)) (kk : ∀ (H1 : Heap) (locs1 : List Loc), va_P D classes (me_W ad ca M1) H1 → va_D A (me_W ad ca M1) → me_wf N M1 → va_S A H0 H1 locs1 → W p l e R s m args below meth c H1 locs1 cells slots Q (F0 m (pc + 3) ls rest)) : W p l e R s m args below meth c H locs cells slots Q (F0 m pc ls (.int v :: .ref (ad 1 j) :: rest)) := by
  subst he
  exact me_put (M1 := wI M 1 j 23 v) (k := 1) (f := 23) (C := "FilterGuardModel") (T := F_M) (Nf := 75) hexec hb hts i_M t_M t_M_ok n_M hown hK hP hD hwf hS hj (by decide) rfl (by decide) (by decide) hlink (fun _ h9 => h9) rfl rfl rfl rfl (fun a b h => me_wIE h) (me_fIw (by decide) (by decide)) hdg (fun H1 locs1 a1 a2 a3 => kk H1 locs1 a1 a2 (me_wfI hwf (fun z => absurd z (by decide)) (fun z => absurd z (by decide))) a3)
theorem d_M_lookAtKept_69 : decode prog_14_method_101_code 69 = .ok (.aload_n 0, 1) := by decide +kernel
theorem d_M_lookAtKept_70 : decode prog_14_method_101_code 70 = .ok (.iconst 0, 1) := by decide +kernel
theorem d_M_lookAtKept_71 : decode prog_14_method_101_code 71 = .ok (.aload_n 0, 1) := by decide +kernel
theorem d_M_lookAtKept_72 : decode prog_14_method_101_code 72 = .ok (.getfield 505, 3) := by decide +kernel
theorem d_M_lookAtKept_75 : decode prog_14_method_101_code 75 = .ok (.invokevirtual 467, 3) := by decide +kernel
theorem d_M_lookAtKept_78 : decode prog_14_method_101_code 78 = .ok (.aload_n 0, 1) := by decide +kernel
theorem d_M_lookAtKept_79 : decode prog_14_method_101_code 79 = .ok (.getfield 125, 3) := by decide +kernel
theorem g_M_60 {p : Program} {l : Launch} {e : Env} {R : Room} {s : Jvm.State} {m : MethodId} {args : Array Value} {below : List Frame} {meth : Method} {c : Code} {H : Heap} {locs : List Loc} {cells slots : Nat} {Q : Jvm.State → Prop} {cc : ByteArray} {pc : Nat} {ls : Array Slot} {rest : List Value} {D : va_G} {ad : Nat → Nat → Nat} {ca : Nat → ClassId} {M : me_M} {N : Nat → Nat} {own : String} {index j : Nat} (hexec : p.tables.exec = Jvm.exec) (hb : c.code = cc) (hts : ∀ w ∈ fg_g, w.before args s = true) (hown : s.vm.findClass own = some m.cls) (hK : va_K D classes (me_T ca) s) (hP : va_P D classes (me_W ad ca M) H) (hwf : me_wf N M) (hj : j < N 1) (hlink : (Cond.fieldLink own index "FilterGuardModel" "keptAt" "[I").before args s = true) (hdg : decode cc pc = .ok (.getfield index, 3)) (kk : W p l e R s m args below meth c H locs cells slots Q (F0 m (pc + 3) ls (va_rf ((mR M 1 j 60).map (ad 13)) :: rest))) : W p l e R s m args below meth c H locs cells slots Q (F0 m pc ls (.ref (ad 1 j) :: rest)) := me_get (k := 1) (f := 60) (C := "FilterGuardModel") (T := F_M) (Nf := 75) hexec hb hts i_M hown hK hP hwf hj (by decide) rfl (by decide) (by decide) hlink (fun _ h9 => h9) hdg kk
theorem d_M_lookAtKept_82 : decode prog_14_method_101_code 82 = .ok (.aload_n 0, 1) := by decide +kernel
theorem d_M_lookAtKept_83 : decode prog_14_method_101_code 83 = .ok (.getfield 505, 3) := by decide +kernel
theorem d_M_lookAtKept_86 : decode prog_14_method_101_code 86 = .ok (.iload_n 1, 1) := by decide +kernel
theorem d_M_lookAtKept_87 : decode prog_14_method_101_code 87 = .ok (.iastore, 1) := by decide +kernel
theorem d_M_lookAtKept_88 : decode prog_14_method_101_code 88 = .ok (.aload_n 0, 1) := by decide +kernel
theorem d_M_lookAtKept_89 : decode prog_14_method_101_code 89 = .ok (.getfield 128, 3) := by decide +kernel
theorem d_M_lookAtKept_92 : decode prog_14_method_101_code 92 = .ok (.aload_n 0, 1) := by decide +kernel
theorem d_M_lookAtKept_93 : decode prog_14_method_101_code 93 = .ok (.getfield 505, 3) := by decide +kernel
theorem d_M_lookAtKept_96 : decode prog_14_method_101_code 96 = .ok (.aload_n 0, 1) := by decide +kernel
theorem d_M_lookAtKept_97 : decode prog_14_method_101_code 97 = .ok (.getfield 499, 3) := by decide +kernel
theorem d_M_lookAtKept_100 : decode prog_14_method_101_code 100 = .ok (.iastore, 1) := by decide +kernel
theorem d_M_lookAtKept_101 : decode prog_14_method_101_code 101 = .ok (.aload_n 0, 1) := by decide +kernel
theorem d_M_lookAtKept_102 : decode prog_14_method_101_code 102 = .ok (.aload_n 0, 1) := by decide +kernel
theorem d_M_lookAtKept_103 : decode prog_14_method_101_code 103 = .ok (.getfield 505, 3) := by decide +kernel
theorem d_M_lookAtKept_106 : decode prog_14_method_101_code 106 = .ok (.putfield 499, 3) := by decide +kernel
theorem p_M_65 {p : Program} {l : Launch} {e : Env} {R : Room} {s : Jvm.State} {m : MethodId} {args : Array Value} {below : List Frame} {meth : Method} {c : Code} {H : Heap} {locs : List Loc} {cells slots : Nat} {Q : Jvm.State → Prop} {cc : ByteArray} {pc : Nat} {ls : Array Slot} {rest : List Value} {D : va_G} {A : Nat → Prop} {H0 : Heap} {ad : Nat → Nat → Nat} {ca : Nat → ClassId} {M M1 : me_M} {N : Nat → Nat} {own : String} {index j : Nat} {v : Int32} (he : M1 = wI M 1 j 65 v) (hexec : p.tables.exec = Jvm.exec) (hb : c.code = cc) (hts : ∀ w ∈ fg_g, w.before args s = true) (hown : s.vm.findClass own = some m.cls) (hK : va_K D classes (me_T ca) s) (hP : va_P D classes (me_W ad ca M) H) (hD : va_D A (me_W ad ca M)) (hwf : me_wf N M) (hS : va_S A H0 H locs) (hj : j < N 1) (hlink : (Cond.fieldLink own index "FilterGuardModel" "behind" "I").before args s = true) (hdg : decode cc pc = .ok (.putfield index, 3)) (kk : ∀ (H1 : Heap) (locs1 : List Loc), va_P D classes (me_W ad ca M1) H1 → va_D A (me_W ad ca M1) → me_wf N M1 → va_S A H0 H1 locs1 → W p l e R s m args below meth c H1 locs1 cells slots Q (F0 m (pc + 3) ls rest)) : W p l e R s m args below meth c H locs cells slots Q (F0 m pc ls (.int v :: .ref (ad 1 j) :: rest)) := by
  subst he
  exact me_put (M1 := wI M 1 j 65 v) (k := 1) (f := 65) (C := "FilterGuardModel") (T := F_M) (Nf := 75) hexec hb hts i_M t_M t_M_ok n_M hown hK hP hD hwf hS hj (by decide) rfl (by decide) (by decide) hlink (fun _ h9 => h9) rfl rfl rfl rfl (fun a b h => me_wIE h) (me_fIw (by decide) (by decide)) hdg (fun H1 locs1 a1 a2 a3 => kk H1 locs1 a1 a2 (me_wfI hwf (fun z => absurd z (by decide)) (fun z => absurd z (by decide))) a3)
theorem d_M_lookAtKept_10 : decode prog_14_method_101_code 10 = .ok (.aload_n 0, 1) := by decide +kernel
theorem d_M_lookAtKept_11 : decode prog_14_method_101_code 11 = .ok (.getfield 125, 3) := by decide +kernel
theorem d_M_lookAtKept_14 : decode prog_14_method_101_code 14 = .ok (.iload_n 2, 1) := by decide +kernel
theorem d_M_lookAtKept_15 : decode prog_14_method_101_code 15 = .ok (.iaload, 1) := by decide +kernel
theorem d_M_lookAtKept_16 : decode prog_14_method_101_code 16 = .ok (.iload_n 1, 1) := by decide +kernel
theorem d_M_lookAtKept_17 : decode prog_14_method_101_code 17 = .ok (.if_icmp .ne 26, 3) := by decide +kernel
theorem d_M_lookAtKept_43 : decode prog_14_method_101_code 43 = .ok (.iinc 2 1, 3) := by decide +kernel
theorem d_M_lookAtKept_46 : decode prog_14_method_101_code 46 = .ok (.goto (-44), 3) := by decide +kernel
theorem d_M_lookAtKept_20 : decode prog_14_method_101_code 20 = .ok (.aload_n 0, 1) := by decide +kernel
theorem d_M_lookAtKept_21 : decode prog_14_method_101_code 21 = .ok (.iload_n 2, 1) := by decide +kernel
theorem d_M_lookAtKept_22 : decode prog_14_method_101_code 22 = .ok (.invokevirtual 508, 3) := by decide +kernel
theorem u_2052 : Cond.methodLink "FilterGuardModel" 508 ⟨"FilterGuardModel", "isWithin", "(I)Z"⟩ ∈ fg_g := fg_in (List.mem_of_getElem? (i := 2052) (by decide +kernel)) rfl
theorem u_2055 : Cond.code ⟨"FilterGuardModel", "isWithin", "(I)Z"⟩ prog_14_method_98_code 4 (some .boolean) ∈ fg_g := fg_in (List.mem_of_getElem? (i := 2055) (by decide +kernel)) rfl
theorem u_2054 : Cond.instanceMethod ⟨"FilterGuardModel", "isWithin", "(I)Z"⟩ ∈ fg_g := fg_in (List.mem_of_getElem? (i := 2054) (by decide +kernel)) rfl
theorem u_94 : Cond.selects "FilterGuardModel" ⟨"FilterGuardModel", "isWithin", "(I)Z"⟩ ⟨"FilterGuardModel", "isWithin", "(I)Z"⟩ ∈ fg_g := fg_in (List.mem_of_getElem? (i := 94) (by decide +kernel)) rfl
theorem d_M_lookAtKept_25 : decode prog_14_method_101_code 25 = .ok (.ifCond .eq 18, 3) := by decide +kernel
theorem d_M_lookAtKept_28 : decode prog_14_method_101_code 28 = .ok (.aload_n 0, 1) := by decide +kernel
theorem d_M_lookAtKept_29 : decode prog_14_method_101_code 29 = .ok (.iload_n 2, 1) := by decide +kernel
theorem d_M_lookAtKept_30 : decode prog_14_method_101_code 30 = .ok (.invokevirtual 511, 3) := by decide +kernel
theorem u_2080 : Cond.methodLink "FilterGuardModel" 511 ⟨"FilterGuardModel", "isOpen", "(I)Z"⟩ ∈ fg_g := fg_in (List.mem_of_getElem? (i := 2080) (by decide +kernel)) rfl
theorem u_2083 : Cond.code ⟨"FilterGuardModel", "isOpen", "(I)Z"⟩ prog_14_method_99_code 4 (some .boolean) ∈ fg_g := fg_in (List.mem_of_getElem? (i := 2083) (by decide +kernel)) rfl
theorem u_2082 : Cond.instanceMethod ⟨"FilterGuardModel", "isOpen", "(I)Z"⟩ ∈ fg_g := fg_in (List.mem_of_getElem? (i := 2082) (by decide +kernel)) rfl
theorem u_99 : Cond.selects "FilterGuardModel" ⟨"FilterGuardModel", "isOpen", "(I)Z"⟩ ⟨"FilterGuardModel", "isOpen", "(I)Z"⟩ ∈ fg_g := fg_in (List.mem_of_getElem? (i := 99) (by decide +kernel)) rfl
theorem d_M_lookAtKept_33 : decode prog_14_method_101_code 33 = .ok (.ifCond .eq 8, 3) := by decide +kernel
theorem d_M_lookAtKept_41 : decode prog_14_method_101_code 41 = .ok (.iconst (-1), 1) := by decide +kernel
theorem d_M_lookAtKept_42 : decode prog_14_method_101_code 42 = .ok (.ireturn, 1) := by decide +kernel
theorem d_M_lookAtKept_36 : decode prog_14_method_101_code 36 = .ok (.bipush 19, 2) := by decide +kernel
theorem d_M_lookAtKept_38 : decode prog_14_method_101_code 38 = .ok (.goto 4, 3) := by decide +kernel
theorem d_M_lookAtKept_0 : decode prog_14_method_101_code 0 = .ok (.iconst 1, 1) := by decide +kernel
theorem d_M_lookAtKept_1 : decode prog_14_method_101_code 1 = .ok (.istore_n 2, 1) := by decide +kernel
abbrev y_M_lookAtKept : MethodName := ⟨"FilterGuardModel", "lookAtKept", "(I)I"⟩
def rm_M_lookAtKept : Room := { frames := 5, cells := 0, slots := 0, locals := 112 }
abbrev q_M_lookAtKept (D : va_G) (ad : Nat → Nat → Nat) (ca : Nat → ClassId) (N : Nat → Nat) (M0 MZ : me_M) (RZ : Int32) (A : Nat → Prop) : Array Value → Jvm.State → Outcome → Jvm.State → Prop := va_Qi (fun r (_ : Unit) => r = RZ ∧ me_wf N MZ ∧ me_kp M0 MZ) (fg_B D A (fun _ => me_W ad ca MZ) (fun _ => [])) A
set_option maxHeartbeats 4000000 in
set_option maxRecDepth 100000 in
theorem c_M_lookAtKept (l : Launch) (D : va_G) (ad : Nat → Nat → Nat) (ca : Nat → ClassId) (N : Nat → Nat) (M0 MZ : me_M) (RZ : Int32) (j0 : Nat) (x1 : Int32) (h : f_M_lookAtKept M0 j0 x1 = (some (MZ, RZ))) (hwf : me_wf N M0) (hj0 : j0 < N 1) (sz : Nat) : Met l y_M_lookAtKept (fg_w y_M_lookAtKept prog_14_method_101_code 3 (some .int)) rm_M_lookAtKept (va_Pc [.ref (ad 1 j0), .int x1] (fz_P D (me_T ca) (me_W ad ca M0) sz)) (q_M_lookAtKept D ad ca N M0 MZ RZ (va_A (me_W ad ca M0) sz)) rm_M_lookAtKept.cells rm_M_lookAtKept.slots (va_A (me_W ad ca M0) sz) := by
  refine fz_enter (fun A => q_M_lookAtKept D ad ca N M0 MZ RZ A) (by decide +kernel) (Nat.le_of_ble_eq_true rfl) ?_
  intro p e s m below meth c ls A hx hb hml hown hts hr hlocks hin hP hK hD hS hA hX hl hz
  have hl : lv_has ls 3 [(0, .ref (ad 1 j0)), (1, .int x1)] := hl
  unfold f_M_lookAtKept at h
  have hkp : me_kp M0 M0 := me_kp.rf
  have hkb := hkp
  have b_2 : ∀ (fu : Nat), ∀ (M : me_M) (y2 : Int32) (H : Heap) (locs : List Loc) (ls : Array Slot), f_M_lookAtKept_l2 j0 x1 fu M y2 = (some (MZ, RZ)) → me_wf N M → me_kp M0 M → va_P D classes (me_W ad ca M) H → va_D A (me_W ad ca M) → va_S A s.heap H locs → lv_has ls 3 [(0, .ref (ad 1 j0)), (1, .int x1), (2, .int y2)] → W p l e rm_M_lookAtKept s m [.ref (ad 1 j0), .int x1].toArray below meth c H locs 0 0 (MQ below (q_M_lookAtKept D ad ca N M0 MZ RZ A) [.ref (ad 1 j0), .int x1].toArray s rm_M_lookAtKept.cells rm_M_lookAtKept.slots A) (F0 m 2 ls []) := by
    intro fu
    induction fu with
    | zero =>
      intro M y2 H locs ls h hwf hkp hP hD hS hl
      cases h
    | succ fu ih =>
      intro M y2 H locs ls h hwf hkp hP hD hS hl
      unfold f_M_lookAtKept_l2 at h
      have hkb := hkp
      refine lv_iload_n hx hb d_M_lookAtKept_2 rfl (lv_at hl 2 rfl) ?_
      refine lv_aload_n hx hb d_M_lookAtKept_3 rfl (lv_at hl 0 rfl) ?_
      refine g_M_23 hx hb hts hown hK hP hwf hj0 (hts _ u_1764) d_M_lookAtKept_4 ?_
      refine lv_icmp_gt (tgt := 49) hx hb d_M_lookAtKept_7 (by decide) (fun c1 => ?_) (fun c1 => ?_)
      · have h := if_t c1 h
        refine lv_aload_n hx hb d_M_lookAtKept_49 rfl (lv_at hl 0 rfl) ?_
        refine g_M_23 hx hb hts hown hK hP hwf hj0 (hts _ u_1764) d_M_lookAtKept_50 ?_
        refine lv_sipush (v := 200) hx hb d_M_lookAtKept_53 (by decide) ?_
        refine lv_icmp_ge (tgt := 109) hx hb d_M_lookAtKept_56 (by decide) (fun c2 => ?_) (fun c2 => ?_)
        · have h := if_t c2 h
          refine lv_iconst (v := 0) hx hb d_M_lookAtKept_109 (by decide) ?_
          exact me_reti (me_kp M0) h hx hb hr hlocks hwf hkp hP hK hD hS d_M_lookAtKept_110
        have h := if_f c2 h
        refine lv_aload_n hx hb d_M_lookAtKept_59 rfl (lv_at hl 0 rfl) ?_
        refine lv_dup hx hb d_M_lookAtKept_60 rfl ?_
        refine g_M_23 hx hb hts hown hK hP hwf hj0 (hts _ u_1764) d_M_lookAtKept_61 ?_
        refine lv_iconst (v := 1) hx hb d_M_lookAtKept_64 (by decide) ?_
        refine lv_iadd hx hb d_M_lookAtKept_65 ?_
        obtain ⟨M3, eM3, h⟩ := st_ob h
        refine p_M_23 eM3 hx hb hts hown hK hP hD hwf hS hj0 (hts _ u_1764) d_M_lookAtKept_66 (fun H locs hP hD hwf hS => ?_)
        have hkp := kp_I eM3 hkp
        refine lv_aload_n hx hb d_M_lookAtKept_69 rfl (lv_at hl 0 rfl) ?_
        refine lv_iconst (v := 0) hx hb d_M_lookAtKept_70 (by decide) ?_
        refine lv_aload_n hx hb d_M_lookAtKept_71 rfl (lv_at hl 0 rfl) ?_
        refine g_M_23 hx hb hts hown hK hP hwf hj0 (hts _ u_1764) d_M_lookAtKept_72 ?_
        obtain ⟨M4, eM4, h⟩ := bd_ob h
        refine me_thenv0 (M1 := M4) (me_runV (C := "FilterGuardModel") (As := [.int 0, .int (mI M3 1 j0 23)]) (rest := []) ⟨hx, hb, hml, hown, hts⟩ (c_M_copyState l D ad ca N M3 M4 j0 (0 : Int32) (mI M3 1 j0 23) eM4 hwf hj0 _) rfl (by show fg_nm y_M_copyState 2; decide +kernel) u_2088 u_2090 u_101 u_192 u_2091 ⟨Nat.le_of_ble_eq_true rfl, Nat.le_of_ble_eq_true rfl⟩ hX hz hK hP hD hwf hS hA hj0 (by decide) rfl rfl rfl hl.1 (Nat.le_of_ble_eq_true rfl) d_M_lookAtKept_75 ⟨Nat.le_of_ble_eq_true rfl, Nat.le_of_ble_eq_true rfl⟩) hP hD hK hS hA rfl rfl (fun H locs hw hP hD hS => ?_)
        obtain ⟨hwf, hk9⟩ := hw
        have hkp := hkp.tr hk9
        refine lv_aload_n hx hb d_M_lookAtKept_78 rfl (lv_at hl 0 rfl) ?_
        refine g_M_60 hx hb hts hown hK hP hwf hj0 (hts _ u_1801) d_M_lookAtKept_79 ?_
        obtain ⟨j5, e6, h⟩ := bd_ob h
        have hj5 : j5 < N 13 := (hwf.2.1 1 j0 60 _ (kp_r hkb hkp e6) (by decide) hj0)
        refine me_opt (j := j5) (kp_r hkb hkp e6) ?_
        refine lv_aload_n hx hb d_M_lookAtKept_82 rfl (lv_at hl 0 rfl) ?_
        refine g_M_23 hx hb hts hown hK hP hwf hj0 (hts _ u_1764) d_M_lookAtKept_83 ?_
        refine lv_iload_n hx hb d_M_lookAtKept_86 rfl (lv_at hl 1 rfl) ?_
        obtain ⟨g7, h⟩ := gd_ob h
        obtain ⟨M8, eM8, h⟩ := st_ob h
        refine me_iast eM8 hx hb hK hP hD hwf hS hj5 (kp_z hkb.z hkp.z g7) d_M_lookAtKept_87 (fun H locs hP hD hwf hS => ?_)
        have hkp := kp_I eM8 hkp
        refine lv_aload_n hx hb d_M_lookAtKept_88 rfl (lv_at hl 0 rfl) ?_
        refine g_M_61 hx hb hts hown hK hP hwf hj0 (hts _ u_1802) d_M_lookAtKept_89 ?_
        obtain ⟨j9, e10, h⟩ := bd_ob h
        have hj9 : j9 < N 13 := (hwf.2.1 1 j0 61 _ (kp_r hkb hkp e10) (by decide) hj0)
        refine me_opt (j := j9) (kp_r hkb hkp e10) ?_
        refine lv_aload_n hx hb d_M_lookAtKept_92 rfl (lv_at hl 0 rfl) ?_
        refine g_M_23 hx hb hts hown hK hP hwf hj0 (hts _ u_1764) d_M_lookAtKept_93 ?_
        refine lv_aload_n hx hb d_M_lookAtKept_96 rfl (lv_at hl 0 rfl) ?_
        refine g_M_65 hx hb hts hown hK hP hwf hj0 (hts _ u_1806) d_M_lookAtKept_97 ?_
        obtain ⟨g11, h⟩ := gd_ob h
        obtain ⟨M12, eM12, h⟩ := st_ob h
        refine me_iast eM12 hx hb hK hP hD hwf hS hj9 (kp_z hkb.z hkp.z g11) d_M_lookAtKept_100 (fun H locs hP hD hwf hS => ?_)
        have hkp := kp_I eM12 hkp
        refine lv_aload_n hx hb d_M_lookAtKept_101 rfl (lv_at hl 0 rfl) ?_
        refine lv_aload_n hx hb d_M_lookAtKept_102 rfl (lv_at hl 0 rfl) ?_
        refine g_M_23 hx hb hts hown hK hP hwf hj0 (hts _ u_1764) d_M_lookAtKept_103 ?_
        obtain ⟨M13, eM13, h⟩ := st_ob h
        refine p_M_65 eM13 hx hb hts hown hK hP hD hwf hS hj0 (hts _ u_1806) d_M_lookAtKept_106 (fun H locs hP hD hwf hS => ?_)
        have hkp := kp_I eM13 hkp
        refine lv_iconst (v := 0) hx hb d_M_lookAtKept_109 (by decide) ?_
        exact me_reti (me_kp M0) h hx hb hr hlocks hwf hkp hP hK hD hS d_M_lookAtKept_110
      have h := if_f c1 h
      refine lv_aload_n hx hb d_M_lookAtKept_10 rfl (lv_at hl 0 rfl) ?_
      refine g_M_60 hx hb hts hown hK hP hwf hj0 (hts _ u_1801) d_M_lookAtKept_11 ?_
      obtain ⟨j14, e15, h⟩ := bd_ob h
      have hj14 : j14 < N 13 := (hwf.2.1 1 j0 60 _ e15 (by decide) hj0)
      refine me_opt (j := j14) e15 ?_
      refine lv_iload_n hx hb d_M_lookAtKept_14 rfl (lv_at hl 2 rfl) ?_
      obtain ⟨g16, h⟩ := gd_ob h
      refine me_iald hx hb hK hP hwf hj14 g16 d_M_lookAtKept_15 ?_
      refine lv_iload_n hx hb d_M_lookAtKept_16 rfl (lv_at hl 1 rfl) ?_
      refine lv_icmp_ne (tgt := 43) hx hb d_M_lookAtKept_17 (by decide) (fun c17 => ?_) (fun c17 => ?_)
      · have h := if_f c17 h
        refine lv_iinc (v := y2 + 1) (lv' := [(2, .int (y2 + 1)), (0, .ref (ad 1 j0)), (1, .int x1)]) hx hb d_M_lookAtKept_43 hl (k := 2) rfl (by rfl) (by decide) rfl (fun ls hl => ?_)
        refine lv_goto (tgt := 2) hx hb d_M_lookAtKept_46 (by decide) ?_
        exact ih M (y2 + 1) _ _ _ h hwf hkp hP hD hS (lv_sub hl [1, 2, 0] rfl)
      have h := if_t c17 h
      refine lv_aload_n hx hb d_M_lookAtKept_20 rfl (lv_at hl 0 rfl) ?_
      refine lv_iload_n hx hb d_M_lookAtKept_21 rfl (lv_at hl 2 rfl) ?_
      obtain ⟨M18, r19, eM18, h⟩ := b2_ob h
      refine me_theni0 (M1 := M18) (me_runV (C := "FilterGuardModel") (As := [.int y2]) (rest := []) ⟨hx, hb, hml, hown, hts⟩ (c_M_isWithin l D ad ca N M M18 r19 j0 y2 eM18 hwf hj0 _) rfl (by show fg_nm y_M_isWithin 1; decide +kernel) u_2052 u_2054 u_94 u_192 u_2055 ⟨Nat.le_of_ble_eq_true rfl, Nat.le_of_ble_eq_true rfl⟩ hX hz hK hP hD hwf hS hA hj0 (by decide) rfl rfl rfl hl.1 (Nat.le_of_ble_eq_true rfl) d_M_lookAtKept_22 ⟨Nat.le_of_ble_eq_true rfl, Nat.le_of_ble_eq_true rfl⟩) hP hD hK hS hA rfl rfl (fun H locs hw hP hD hS => ?_)
      obtain ⟨hwf, hk9, zr19⟩ := hw
      have hkp := hkp.tr hk9
      refine lv_if_eq (tgt := 43) hx hb d_M_lookAtKept_25 (by decide) (fun c20 => ?_) (fun c20 => ?_)
      · have h := if_t c20 h
        refine lv_iinc (v := y2 + 1) (lv' := [(2, .int (y2 + 1)), (0, .ref (ad 1 j0)), (1, .int x1)]) hx hb d_M_lookAtKept_43 hl (k := 2) rfl (by rfl) (by decide) rfl (fun ls hl => ?_)
        refine lv_goto (tgt := 2) hx hb d_M_lookAtKept_46 (by decide) ?_
        exact ih M18 (y2 + 1) _ _ _ h hwf hkp hP hD hS (lv_sub hl [1, 2, 0] rfl)
      have h := if_f c20 h
      refine lv_aload_n hx hb d_M_lookAtKept_28 rfl (lv_at hl 0 rfl) ?_
      refine lv_iload_n hx hb d_M_lookAtKept_29 rfl (lv_at hl 2 rfl) ?_
      obtain ⟨M21, r22, eM21, h⟩ := b2_ob h
      refine me_theni0 (M1 := M21) (me_runV (C := "FilterGuardModel") (As := [.int y2]) (rest := []) ⟨hx, hb, hml, hown, hts⟩ (c_M_isOpen l D ad ca N M18 M21 r22 j0 y2 eM21 hwf hj0 _) rfl (by show fg_nm y_M_isOpen 1; decide +kernel) u_2080 u_2082 u_99 u_192 u_2083 ⟨Nat.le_of_ble_eq_true rfl, Nat.le_of_ble_eq_true rfl⟩ hX hz hK hP hD hwf hS hA hj0 (by decide) rfl rfl rfl hl.1 (Nat.le_of_ble_eq_true rfl) d_M_lookAtKept_30 ⟨Nat.le_of_ble_eq_true rfl, Nat.le_of_ble_eq_true rfl⟩) hP hD hK hS hA rfl rfl (fun H locs hw hP hD hS => ?_)
      obtain ⟨hwf, hk9, zr22⟩ := hw
      have hkp := hkp.tr hk9
      refine lv_if_eq (tgt := 41) hx hb d_M_lookAtKept_33 (by decide) (fun c23 => ?_) (fun c23 => ?_)
      · have h := if_t c23 h
        refine lv_iconst (v := (-1)) hx hb d_M_lookAtKept_41 (by decide) ?_
        exact me_reti (me_kp M0) h hx hb hr hlocks hwf hkp hP hK hD hS d_M_lookAtKept_42
      have h := if_f c23 h
      refine lv_bipush (v := 19) hx hb d_M_lookAtKept_36 (by decide) ?_
      refine lv_goto (tgt := 42) hx hb d_M_lookAtKept_38 (by decide) ?_
      exact me_reti (me_kp M0) h hx hb hr hlocks hwf hkp hP hK hD hS d_M_lookAtKept_42
  refine lv_iconst (v := 1) hx hb d_M_lookAtKept_0 (by decide) ?_
  refine lv_istore_n (lv' := [(2, .int 1), (0, .ref (ad 1 j0)), (1, .int x1)]) hx hb d_M_lookAtKept_1 rfl hl (by decide) rfl (fun ls hl => ?_)
  exact b_2 _ M0 (1 : Int32) _ _ _ h hwf hkp hP hD hS (lv_sub hl [1, 2, 0] rfl)
theorem d_M_wide_0 : decode prog_14_method_102_code 0 = .ok (.aload_n 0, 1) := by decide +kernel
theorem d_M_wide_1 : decode prog_14_method_102_code 1 = .ok (.getfield 37, 3) := by decide +kernel
theorem d_M_wide_4 : decode prog_14_method_102_code 4 = .ok (.iload_n 1, 1) := by decide +kernel
theorem d_M_wide_5 : decode prog_14_method_102_code 5 = .ok (.laload, 1) := by decide +kernel
theorem d_M_wide_6 : decode prog_14_method_102_code 6 = .ok (.lstore_n 2, 1) := by decide +kernel
theorem d_M_wide_7 : decode prog_14_method_102_code 7 = .ok (.lload_n 2, 1) := by decide +kernel
theorem d_M_wide_8 : decode prog_14_method_102_code 8 = .ok (.invokestatic 315, 3) := by decide +kernel
theorem d_M_wide_11 : decode prog_14_method_102_code 11 = .ok (.istore 4, 2) := by decide +kernel
theorem d_M_wide_13 : decode prog_14_method_102_code 13 = .ok (.lload_n 2, 1) := by decide +kernel
theorem d_M_wide_14 : decode prog_14_method_102_code 14 = .ok (.invokestatic 318, 3) := by decide +kernel
theorem d_M_wide_17 : decode prog_14_method_102_code 17 = .ok (.iconst 1, 1) := by decide +kernel
theorem d_M_wide_18 : decode prog_14_method_102_code 18 = .ok (.if_icmp .ne 32, 3) := by decide +kernel
theorem d_M_wide_50 : decode prog_14_method_102_code 50 = .ok (.aload_n 0, 1) := by decide +kernel
theorem d_M_wide_51 : decode prog_14_method_102_code 51 = .ok (.iload 4, 2) := by decide +kernel
theorem d_M_wide_53 : decode prog_14_method_102_code 53 = .ok (.lload_n 2, 1) := by decide +kernel
theorem d_M_wide_54 : decode prog_14_method_102_code 54 = .ok (.invokestatic 324, 3) := by decide +kernel
theorem d_M_wide_57 : decode prog_14_method_102_code 57 = .ok (.i2l, 1) := by decide +kernel
theorem d_M_wide_58 : decode prog_14_method_102_code 58 = .ok (.ldc2_w 203, 3) := by decide +kernel
theorem d_M_wide_61 : decode prog_14_method_102_code 61 = .ok (.land, 1) := by decide +kernel
theorem d_M_wide_62 : decode prog_14_method_102_code 62 = .ok (.aload_n 0, 1) := by decide +kernel
theorem d_M_wide_63 : decode prog_14_method_102_code 63 = .ok (.getfield 37, 3) := by decide +kernel
theorem d_M_wide_66 : decode prog_14_method_102_code 66 = .ok (.iload_n 1, 1) := by decide +kernel
theorem d_M_wide_67 : decode prog_14_method_102_code 67 = .ok (.iconst 1, 1) := by decide +kernel
theorem d_M_wide_68 : decode prog_14_method_102_code 68 = .ok (.iadd, 1) := by decide +kernel
theorem d_M_wide_69 : decode prog_14_method_102_code 69 = .ok (.laload, 1) := by decide +kernel
theorem d_M_wide_70 : decode prog_14_method_102_code 70 = .ok (.invokestatic 324, 3) := by decide +kernel
theorem d_M_wide_73 : decode prog_14_method_102_code 73 = .ok (.i2l, 1) := by decide +kernel
theorem d_M_wide_74 : decode prog_14_method_102_code 74 = .ok (.bipush 32, 2) := by decide +kernel
theorem d_M_wide_76 : decode prog_14_method_102_code 76 = .ok (.lshl, 1) := by decide +kernel
theorem d_M_wide_77 : decode prog_14_method_102_code 77 = .ok (.lor, 1) := by decide +kernel
theorem d_M_wide_78 : decode prog_14_method_102_code 78 = .ok (.invokevirtual 375, 3) := by decide +kernel
theorem d_M_wide_81 : decode prog_14_method_102_code 81 = .ok (.aload_n 0, 1) := by decide +kernel
theorem d_M_wide_82 : decode prog_14_method_102_code 82 = .ok (.iload_n 1, 1) := by decide +kernel
theorem d_M_wide_83 : decode prog_14_method_102_code 83 = .ok (.iconst 2, 1) := by decide +kernel
theorem d_M_wide_84 : decode prog_14_method_102_code 84 = .ok (.iadd, 1) := by decide +kernel
theorem d_M_wide_85 : decode prog_14_method_102_code 85 = .ok (.putfield 514, 3) := by decide +kernel
theorem u_1811 : Cond.fieldLink "FilterGuardModel" 514 "FilterGuardModel" "next" "I" ∈ fg_g := fg_in (List.mem_of_getElem? (i := 1811) (by decide +kernel)) rfl
theorem p_M_70 {p : Program} {l : Launch} {e : Env} {R : Room} {s : Jvm.State} {m : MethodId} {args : Array Value} {below : List Frame} {meth : Method} {c : Code} {H : Heap} {locs : List Loc} {cells slots : Nat} {Q : Jvm.State → Prop} {cc : ByteArray} {pc : Nat} {ls : Array Slot} {rest : List Value} {D : va_G} {A : Nat → Prop} {H0 : Heap} {ad : Nat → Nat → Nat} {ca : Nat → ClassId} {M M1 : me_M} {N : Nat → Nat} {own : String} {index j : Nat} {v : Int32} (he : M1 = wI M 1 j 70 v) (hexec : p.tables.exec = Jvm.exec) (hb : c.code = cc) (hts : ∀ w ∈ fg_g, w.before args s = true) (hown : s.vm.findClass own = some m.cls) (hK : va_K D classes (me_T ca) s) (hP : va_P D classes (me_W ad ca M) H) (hD : va_D A (me_W ad ca M)) (hwf : me_wf N M) (hS : va_S A H0 H locs) (hj : j < N 1) (hlink : (Cond.fieldLink own index "FilterGuardModel" "next" "I").before args s = true) (hdg : decode cc pc = .ok (.putfield index, 3)) (kk : ∀ (H1 : Heap) (locs1 : List Loc), va_P D classes (me_W ad ca M1) H1 → va_D A (me_W ad ca M1) → me_wf N M1 → va_S A H0 H1 locs1 → W p l e R s m args below meth c H1 locs1 cells slots Q (F0 m (pc + 3) ls rest)) : W p l e R s m args below meth c H locs cells slots Q (F0 m pc ls (.int v :: .ref (ad 1 j) :: rest)) := by
  subst he
  exact me_put (M1 := wI M 1 j 70 v) (k := 1) (f := 70) (C := "FilterGuardModel") (T := F_M) (Nf := 75) hexec hb hts i_M t_M t_M_ok n_M hown hK hP hD hwf hS hj (by decide) rfl (by decide) (by decide) hlink (fun _ h9 => h9) rfl rfl rfl rfl (fun a b h => me_wIE h) (me_fIw (by decide) (by decide)) hdg (fun H1 locs1 a1 a2 a3 => kk H1 locs1 a1 a2 (me_wfI hwf (fun z => absurd z (by decide)) (fun z => absurd z (by decide))) a3)
theorem d_M_wide_88 : decode prog_14_method_102_code 88 = .ok (.iconst 0, 1) := by decide +kernel
theorem d_M_wide_89 : decode prog_14_method_102_code 89 = .ok (.ireturn, 1) := by decide +kernel
theorem d_M_wide_21 : decode prog_14_method_102_code 21 = .ok (.aload_n 0, 1) := by decide +kernel
theorem d_M_wide_22 : decode prog_14_method_102_code 22 = .ok (.iload 4, 2) := by decide +kernel
theorem d_M_wide_24 : decode prog_14_method_102_code 24 = .ok (.bipush 6, 2) := by decide +kernel
theorem d_M_wide_26 : decode prog_14_method_102_code 26 = .ok (.invokevirtual 366, 3) := by decide +kernel
theorem d_M_wide_29 : decode prog_14_method_102_code 29 = .ok (.aload_n 0, 1) := by decide +kernel
theorem d_M_wide_30 : decode prog_14_method_102_code 30 = .ok (.iload 4, 2) := by decide +kernel
theorem d_M_wide_32 : decode prog_14_method_102_code 32 = .ok (.lconst 0, 1) := by decide +kernel
theorem d_M_wide_33 : decode prog_14_method_102_code 33 = .ok (.invokevirtual 195, 3) := by decide +kernel
theorem d_M_wide_36 : decode prog_14_method_102_code 36 = .ok (.aload_n 0, 1) := by decide +kernel
theorem d_M_wide_37 : decode prog_14_method_102_code 37 = .ok (.getfield 95, 3) := by decide +kernel
theorem d_M_wide_40 : decode prog_14_method_102_code 40 = .ok (.iload 4, 2) := by decide +kernel
theorem d_M_wide_42 : decode prog_14_method_102_code 42 = .ok (.lload_n 2, 1) := by decide +kernel
theorem d_M_wide_43 : decode prog_14_method_102_code 43 = .ok (.invokestatic 324, 3) := by decide +kernel
theorem d_M_wide_46 : decode prog_14_method_102_code 46 = .ok (.iastore, 1) := by decide +kernel
theorem d_M_wide_47 : decode prog_14_method_102_code 47 = .ok (.goto 34, 3) := by decide +kernel
abbrev y_M_wide : MethodName := ⟨"FilterGuardModel", "wide", "(I)I"⟩
def rm_M_wide : Room := { frames := 4, cells := 0, slots := 0, locals := 86 }
abbrev q_M_wide (D : va_G) (ad : Nat → Nat → Nat) (ca : Nat → ClassId) (N : Nat → Nat) (M0 MZ : me_M) (RZ : Int32) (A : Nat → Prop) : Array Value → Jvm.State → Outcome → Jvm.State → Prop := va_Qi (fun r (_ : Unit) => r = RZ ∧ me_wf N MZ ∧ me_kp M0 MZ) (fg_B D A (fun _ => me_W ad ca MZ) (fun _ => [])) A
set_option maxHeartbeats 4000000 in
set_option maxRecDepth 100000 in
theorem c_M_wide (l : Launch) (D : va_G) (ad : Nat → Nat → Nat) (ca : Nat → ClassId) (N : Nat → Nat) (M0 MZ : me_M) (RZ : Int32) (j0 : Nat) (x1 : Int32) (h : f_M_wide M0 j0 x1 = (some (MZ, RZ))) (hwf : me_wf N M0) (hj0 : j0 < N 1) (sz : Nat) : Met l y_M_wide (fg_w y_M_wide prog_14_method_102_code 5 (some .int)) rm_M_wide (va_Pc [.ref (ad 1 j0), .int x1] (fz_P D (me_T ca) (me_W ad ca M0) sz)) (q_M_wide D ad ca N M0 MZ RZ (va_A (me_W ad ca M0) sz)) rm_M_wide.cells rm_M_wide.slots (va_A (me_W ad ca M0) sz) := by
  refine fz_enter (fun A => q_M_wide D ad ca N M0 MZ RZ A) (by decide +kernel) (Nat.le_of_ble_eq_true rfl) ?_
  intro p e s m below meth c ls A hx hb hml hown hts hr hlocks hin hP hK hD hS hA hX hl hz
  have hl : lv_has ls 5 [(0, .ref (ad 1 j0)), (1, .int x1)] := hl
  unfold f_M_wide at h
  have hkp : me_kp M0 M0 := me_kp.rf
  have hkb := hkp
  refine lv_aload_n hx hb d_M_wide_0 rfl (lv_at hl 0 rfl) ?_
  refine g_M_13 hx hb hts hown hK hP hwf hj0 (hts _ u_1754) d_M_wide_1 ?_
  obtain ⟨j1, e2, h⟩ := bd_ob h
  have hj1 : j1 < N 16 := (hwf.2.1 1 j0 13 _ e2 (by decide) hj0)
  refine me_opt (j := j1) e2 ?_
  refine lv_iload_n hx hb d_M_wide_4 rfl (lv_at hl 1 rfl) ?_
  obtain ⟨g3, h⟩ := gd_ob h
  refine me_lald hx hb hK hP hwf hj1 g3 d_M_wide_5 ?_
  obtain ⟨v4, ev4, h⟩ := st_ob h
  refine fg_topl (y := v4) ev4.symm ?_
  refine lv_lstore_n (lv' := [(2, .long v4), (0, .ref (ad 1 j0)), (1, .int x1)]) hx hb d_M_wide_6 rfl hl (by decide) rfl (fun ls hl => ?_)
  refine lv_lload_n hx hb d_M_wide_7 rfl (lv_at hl 0 rfl) ?_
  obtain ⟨r5, er5, h⟩ := bd_ob h
  refine me_pani' (r0 := r5) (fg_runS (wc := []) (tc := []) (A2 := A) (As := [.long v4]) (rest := []) ⟨hx, hb, hml, hown, hts⟩ (c_M_toOf l D r5 v4 er5 _) (by show fg_nm y_M_toOf 1; decide +kernel) u_2006 u_2007 u_192 u_2008 ⟨Nat.le_of_ble_eq_true rfl, Nat.le_of_ble_eq_true rfl⟩ hX me_P0 (hK.sub (tys' := []) [] rfl) me_D0 rfl hl.1 (Nat.le_of_ble_eq_true rfl) d_M_wide_8 ⟨Nat.le_of_ble_eq_true rfl, Nat.le_of_ble_eq_true rfl⟩) hP hD hK hS hA rfl rfl (fun H locs hw hP hD hS => ?_)
  refine lv_istore (lv' := [(4, .int r5), (2, .long v4), (0, .ref (ad 1 j0)), (1, .int x1)]) hx hb d_M_wide_11 hl (by decide) rfl (fun ls hl => ?_)
  refine lv_lload_n hx hb d_M_wide_13 rfl (lv_at hl 1 rfl) ?_
  obtain ⟨r6, er6, h⟩ := bd_ob h
  refine me_pani' (r0 := r6) (fg_runS (wc := []) (tc := []) (A2 := A) (As := [.long v4]) (rest := []) ⟨hx, hb, hml, hown, hts⟩ (c_M_fromOf l D r6 v4 er6 _) (by show fg_nm y_M_fromOf 1; decide +kernel) u_2010 u_2011 u_192 u_2012 ⟨Nat.le_of_ble_eq_true rfl, Nat.le_of_ble_eq_true rfl⟩ hX me_P0 (hK.sub (tys' := []) [] rfl) me_D0 rfl hl.1 (Nat.le_of_ble_eq_true rfl) d_M_wide_14 ⟨Nat.le_of_ble_eq_true rfl, Nat.le_of_ble_eq_true rfl⟩) hP hD hK hS hA rfl rfl (fun H locs hw hP hD hS => ?_)
  refine lv_iconst (v := 1) hx hb d_M_wide_17 (by decide) ?_
  refine lv_icmp_ne (tgt := 50) hx hb d_M_wide_18 (by decide) (fun c7 => ?_) (fun c7 => ?_)
  · have h := if_f c7 h
    refine lv_aload_n hx hb d_M_wide_50 rfl (lv_at hl 2 rfl) ?_
    refine lv_iload hx hb d_M_wide_51 (lv_at hl 0 rfl) ?_
    refine lv_lload_n hx hb d_M_wide_53 rfl (lv_at hl 1 rfl) ?_
    obtain ⟨r8, er8, h⟩ := bd_ob h
    refine me_pani' (r0 := r8) (fg_runS (wc := []) (tc := []) (A2 := A) (As := [.long v4]) (rest := [.int r5, .ref (ad 1 j0)]) ⟨hx, hb, hml, hown, hts⟩ (c_M_fieldOf l D r8 v4 er8 _) (by show fg_nm y_M_fieldOf 1; decide +kernel) u_2016 u_2017 u_192 u_2018 ⟨Nat.le_of_ble_eq_true rfl, Nat.le_of_ble_eq_true rfl⟩ hX me_P0 (hK.sub (tys' := []) [] rfl) me_D0 rfl hl.1 (Nat.le_of_ble_eq_true rfl) d_M_wide_54 ⟨Nat.le_of_ble_eq_true rfl, Nat.le_of_ble_eq_true rfl⟩) hP hD hK hS hA rfl rfl (fun H locs hw hP hD hS => ?_)
    refine lv_i2l (v := r8.toInt64) hx hb d_M_wide_57 rfl ?_
    refine lv_ldc2 hx hb hown (hts _ u_2019) d_M_wide_58 ?_
    refine lv_land hx hb d_M_wide_61 ?_
    refine lv_aload_n hx hb d_M_wide_62 rfl (lv_at hl 2 rfl) ?_
    refine g_M_13 hx hb hts hown hK hP hwf hj0 (hts _ u_1754) d_M_wide_63 ?_
    refine me_opt (j := j1) e2 ?_
    refine lv_iload_n hx hb d_M_wide_66 rfl (lv_at hl 3 rfl) ?_
    refine lv_iconst (v := 1) hx hb d_M_wide_67 (by decide) ?_
    refine lv_iadd hx hb d_M_wide_68 ?_
    obtain ⟨g9, h⟩ := gd_ob h
    refine me_lald hx hb hK hP hwf hj1 g9 d_M_wide_69 ?_
    obtain ⟨r10, er10, h⟩ := bd_ob h
    refine me_pani' (r0 := r10) (fg_runS (wc := []) (tc := []) (A2 := A) (As := [.long (mL M0 16 j1 (x1 + 1).toNatClampNeg)]) (rest := [.long (r8.toInt64 &&& 4294967295), .int r5, .ref (ad 1 j0)]) ⟨hx, hb, hml, hown, hts⟩ (c_M_fieldOf l D r10 (mL M0 16 j1 (x1 + 1).toNatClampNeg) er10 _) (by show fg_nm y_M_fieldOf 1; decide +kernel) u_2016 u_2017 u_192 u_2018 ⟨Nat.le_of_ble_eq_true rfl, Nat.le_of_ble_eq_true rfl⟩ hX me_P0 (hK.sub (tys' := []) [] rfl) me_D0 rfl hl.1 (Nat.le_of_ble_eq_true rfl) d_M_wide_70 ⟨Nat.le_of_ble_eq_true rfl, Nat.le_of_ble_eq_true rfl⟩) hP hD hK hS hA rfl rfl (fun H locs hw hP hD hS => ?_)
    refine lv_i2l (v := r10.toInt64) hx hb d_M_wide_73 rfl ?_
    refine lv_bipush (v := 32) hx hb d_M_wide_74 (by decide) ?_
    refine lv_lshl (v := jlshl r10.toInt64 (32 : Int32)) hx hb d_M_wide_76 rfl ?_
    refine lv_lor hx hb d_M_wide_77 ?_
    obtain ⟨M11, eM11, h⟩ := bd_ob h
    refine me_thenv0 (M1 := M11) (me_runV (C := "FilterGuardModel") (As := [.int r5, .long ((r8.toInt64 &&& 4294967295) ||| (jlshl r10.toInt64 (32 : Int32)))]) (rest := []) ⟨hx, hb, hml, hown, hts⟩ (c_M_toNumber l D ad ca N M0 M11 j0 r5 ((r8.toInt64 &&& 4294967295) ||| (jlshl r10.toInt64 (32 : Int32))) eM11 hwf hj0 _) rfl (by show fg_nm y_M_toNumber 2; decide +kernel) u_2112 u_2114 u_107 u_192 u_2115 ⟨Nat.le_of_ble_eq_true rfl, Nat.le_of_ble_eq_true rfl⟩ hX hz hK hP hD hwf hS hA hj0 (by decide) rfl rfl rfl hl.1 (Nat.le_of_ble_eq_true rfl) d_M_wide_78 ⟨Nat.le_of_ble_eq_true rfl, Nat.le_of_ble_eq_true rfl⟩) hP hD hK hS hA rfl rfl (fun H locs hw hP hD hS => ?_)
    obtain ⟨hwf, hk9⟩ := hw
    have hkp := hkp.tr hk9
    refine lv_aload_n hx hb d_M_wide_81 rfl (lv_at hl 2 rfl) ?_
    refine lv_iload_n hx hb d_M_wide_82 rfl (lv_at hl 3 rfl) ?_
    refine lv_iconst (v := 2) hx hb d_M_wide_83 (by decide) ?_
    refine lv_iadd hx hb d_M_wide_84 ?_
    obtain ⟨M12, eM12, h⟩ := st_ob h
    refine p_M_70 eM12 hx hb hts hown hK hP hD hwf hS hj0 (hts _ u_1811) d_M_wide_85 (fun H locs hP hD hwf hS => ?_)
    have hkp := kp_I eM12 hkp
    refine lv_iconst (v := 0) hx hb d_M_wide_88 (by decide) ?_
    exact me_reti (me_kp M0) h hx hb hr hlocks hwf hkp hP hK hD hS d_M_wide_89
  have h := if_t c7 h
  refine lv_aload_n hx hb d_M_wide_21 rfl (lv_at hl 2 rfl) ?_
  refine lv_iload hx hb d_M_wide_22 (lv_at hl 0 rfl) ?_
  refine lv_bipush (v := 6) hx hb d_M_wide_24 (by decide) ?_
  obtain ⟨M13, eM13, h⟩ := bd_ob h
  refine me_thenv0 (M1 := M13) (me_runV (C := "FilterGuardModel") (As := [.int r5, .int 6]) (rest := []) ⟨hx, hb, hml, hown, hts⟩ (c_M_setKind l D ad ca N M0 M13 j0 r5 (6 : Int32) eM13 hwf hj0 _) rfl (by show fg_nm y_M_setKind 2; decide +kernel) u_2044 u_2046 u_92 u_192 u_2047 ⟨Nat.le_of_ble_eq_true rfl, Nat.le_of_ble_eq_true rfl⟩ hX hz hK hP hD hwf hS hA hj0 (by decide) rfl rfl rfl hl.1 (Nat.le_of_ble_eq_true rfl) d_M_wide_26 ⟨Nat.le_of_ble_eq_true rfl, Nat.le_of_ble_eq_true rfl⟩) hP hD hK hS hA rfl rfl (fun H locs hw hP hD hS => ?_)
  obtain ⟨hwf, hk9⟩ := hw
  have hkp := hkp.tr hk9
  refine lv_aload_n hx hb d_M_wide_29 rfl (lv_at hl 2 rfl) ?_
  refine lv_iload hx hb d_M_wide_30 (lv_at hl 0 rfl) ?_
  refine lv_lconst (v := 0) hx hb d_M_wide_32 (by decide) ?_
  obtain ⟨M14, eM14, h⟩ := bd_ob h
  refine me_thenv0 (M1 := M14) (me_runV (C := "FilterGuardModel") (As := [.int r5, .long 0]) (rest := []) ⟨hx, hb, hml, hown, hts⟩ (c_M_setExact l D ad ca N M13 M14 j0 r5 (0 : Int64) eM14 hwf hj0 _) rfl (by show fg_nm y_M_setExact 2; decide +kernel) u_2108 u_2110 u_106 u_192 u_2111 ⟨Nat.le_of_ble_eq_true rfl, Nat.le_of_ble_eq_true rfl⟩ hX hz hK hP hD hwf hS hA hj0 (by decide) rfl rfl rfl hl.1 (Nat.le_of_ble_eq_true rfl) d_M_wide_33 ⟨Nat.le_of_ble_eq_true rfl, Nat.le_of_ble_eq_true rfl⟩) hP hD hK hS hA rfl rfl (fun H locs hw hP hD hS => ?_)
  obtain ⟨hwf, hk9⟩ := hw
  have hkp := hkp.tr hk9
  refine lv_aload_n hx hb d_M_wide_36 rfl (lv_at hl 2 rfl) ?_
  refine g_M_49 hx hb hts hown hK hP hwf hj0 (hts _ u_1790) d_M_wide_37 ?_
  obtain ⟨j15, e16, h⟩ := bd_ob h
  have hj15 : j15 < N 13 := (hwf.2.1 1 j0 49 _ (kp_r hkb hkp e16) (by decide) hj0)
  refine me_opt (j := j15) (kp_r hkb hkp e16) ?_
  refine lv_iload hx hb d_M_wide_40 (lv_at hl 0 rfl) ?_
  refine lv_lload_n hx hb d_M_wide_42 rfl (lv_at hl 1 rfl) ?_
  obtain ⟨r17, er17, h⟩ := bd_ob h
  refine me_pani' (r0 := r17) (fg_runS (wc := []) (tc := []) (A2 := A) (As := [.long v4]) (rest := [.int r5, .ref (ad 13 j15)]) ⟨hx, hb, hml, hown, hts⟩ (c_M_fieldOf l D r17 v4 er17 _) (by show fg_nm y_M_fieldOf 1; decide +kernel) u_2016 u_2017 u_192 u_2018 ⟨Nat.le_of_ble_eq_true rfl, Nat.le_of_ble_eq_true rfl⟩ hX me_P0 (hK.sub (tys' := []) [] rfl) me_D0 rfl hl.1 (Nat.le_of_ble_eq_true rfl) d_M_wide_43 ⟨Nat.le_of_ble_eq_true rfl, Nat.le_of_ble_eq_true rfl⟩) hP hD hK hS hA rfl rfl (fun H locs hw hP hD hS => ?_)
  obtain ⟨g18, h⟩ := gd_ob h
  obtain ⟨M19, eM19, h⟩ := st_ob h
  refine me_iast eM19 hx hb hK hP hD hwf hS hj15 (kp_z hkb.z hkp.z g18) d_M_wide_46 (fun H locs hP hD hwf hS => ?_)
  have hkp := kp_I eM19 hkp
  refine lv_goto (tgt := 81) hx hb d_M_wide_47 (by decide) ?_
  refine lv_aload_n hx hb d_M_wide_81 rfl (lv_at hl 2 rfl) ?_
  refine lv_iload_n hx hb d_M_wide_82 rfl (lv_at hl 3 rfl) ?_
  refine lv_iconst (v := 2) hx hb d_M_wide_83 (by decide) ?_
  refine lv_iadd hx hb d_M_wide_84 ?_
  obtain ⟨M20, eM20, h⟩ := st_ob h
  refine p_M_70 eM20 hx hb hts hown hK hP hD hwf hS hj0 (hts _ u_1811) d_M_wide_85 (fun H locs hP hD hwf hS => ?_)
  have hkp := kp_I eM20 hkp
  refine lv_iconst (v := 0) hx hb d_M_wide_88 (by decide) ?_
  exact me_reti (me_kp M0) h hx hb hr hlocks hwf hkp hP hK hD hS d_M_wide_89
