theorem d_M_thrown_0 : decode prog_14_method_2_code 0 = .ok (.aload_n 0, 1) := by decide +kernel
theorem d_M_thrown_1 : decode prog_14_method_2_code 1 = .ok (.getfield 152, 3) := by decide +kernel
theorem u_1741 : Cond.fieldLink "FilterGuardModel" 152 "FilterGuardModel" "thrown" "I" ∈ fg_g := fg_in (List.mem_of_getElem? (i := 1741) (by decide +kernel)) rfl
theorem g_M_0 {p : Program} {l : Launch} {e : Env} {R : Room} {s : Jvm.State} {m : MethodId} {args : Array Value} {below : List Frame} {meth : Method} {c : Code} {H : Heap} {locs : List Loc} {cells slots : Nat} {Q : Jvm.State → Prop} {cc : ByteArray} {pc : Nat} {ls : Array Slot} {rest : List Value} {D : va_G} {ad : Nat → Nat → Nat} {ca : Nat → ClassId} {M : me_M} {N : Nat → Nat} {own : String} {index j : Nat} (hexec : p.tables.exec = Jvm.exec) (hb : c.code = cc) (hts : ∀ w ∈ fg_g, w.before args s = true) (hown : s.vm.findClass own = some m.cls) (hK : va_K D classes (me_T ca) s) (hP : va_P D classes (me_W ad ca M) H) (hwf : me_wf N M) (hj : j < N 1) (hlink : (Cond.fieldLink own index "FilterGuardModel" "thrown" "I").before args s = true) (hdg : decode cc pc = .ok (.getfield index, 3)) (kk : W p l e R s m args below meth c H locs cells slots Q (F0 m (pc + 3) ls (.int (mI M 1 j 0) :: rest))) : W p l e R s m args below meth c H locs cells slots Q (F0 m pc ls (.ref (ad 1 j) :: rest)) := me_get (k := 1) (f := 0) (C := "FilterGuardModel") (T := F_M) (Nf := 75) hexec hb hts i_M hown hK hP hwf hj (by decide) rfl (by decide) (by decide) hlink (fun _ h9 => h9) hdg kk
theorem d_M_thrown_4 : decode prog_14_method_2_code 4 = .ok (.ireturn, 1) := by decide +kernel
abbrev y_M_thrown : MethodName := ⟨"FilterGuardModel", "thrown", "()I"⟩
def rm_M_thrown : Room := { frames := 1, cells := 0, slots := 0, locals := 20 }
abbrev q_M_thrown (D : va_G) (ad : Nat → Nat → Nat) (ca : Nat → ClassId) (N : Nat → Nat) (M0 MZ : me_M) (RZ : Int32) (A : Nat → Prop) : Array Value → Jvm.State → Outcome → Jvm.State → Prop := va_Qi (fun r (_ : Unit) => r = RZ ∧ me_wf N MZ ∧ me_kp M0 MZ) (fg_B D A (fun _ => me_W ad ca MZ) (fun _ => [])) A
set_option maxHeartbeats 4000000 in
set_option maxRecDepth 100000 in
theorem c_M_thrown (l : Launch) (D : va_G) (ad : Nat → Nat → Nat) (ca : Nat → ClassId) (N : Nat → Nat) (M0 MZ : me_M) (RZ : Int32) (j0 : Nat) (h : f_M_thrown M0 j0 = (some (MZ, RZ))) (hwf : me_wf N M0) (hj0 : j0 < N 1) (sz : Nat) : Met l y_M_thrown (fg_w y_M_thrown prog_14_method_2_code 1 (some .int)) rm_M_thrown (va_Pc [.ref (ad 1 j0)] (fz_P D (me_T ca) (me_W ad ca M0) sz)) (q_M_thrown D ad ca N M0 MZ RZ (va_A (me_W ad ca M0) sz)) rm_M_thrown.cells rm_M_thrown.slots (va_A (me_W ad ca M0) sz) := by
  refine fz_enter (fun A => q_M_thrown D ad ca N M0 MZ RZ A) (by decide +kernel) (Nat.le_of_ble_eq_true rfl) ?_
  intro p e s m below meth c ls A hx hb hml hown hts hr hlocks hin hP hK hD hS hA hX hl hz
  have hl : lv_has ls 1 [(0, .ref (ad 1 j0))] := hl
  unfold f_M_thrown at h
  have hkp : me_kp M0 M0 := me_kp.rf
  have hkb := hkp
  refine lv_aload_n hx hb d_M_thrown_0 rfl (lv_at hl 0 rfl) ?_
  refine g_M_0 hx hb hts hown hK hP hwf hj0 (hts _ u_1741) d_M_thrown_1 ?_
  exact me_reti (me_kp M0) h hx hb hr hlocks hwf hkp hP hK hD hS d_M_thrown_4
theorem d_M_in_0 : decode prog_14_method_3_code 0 = .ok (.lload_n 0, 1) := by decide +kernel
theorem d_M_in_1 : decode prog_14_method_3_code 1 = .ok (.lload_n 2, 1) := by decide +kernel
theorem d_M_in_2 : decode prog_14_method_3_code 2 = .ok (.lcmp, 1) := by decide +kernel
theorem d_M_in_3 : decode prog_14_method_3_code 3 = .ok (.ifCond .lt 14, 3) := by decide +kernel
theorem d_M_in_17 : decode prog_14_method_3_code 17 = .ok (.iconst 0, 1) := by decide +kernel
theorem d_M_in_18 : decode prog_14_method_3_code 18 = .ok (.ireturn, 1) := by decide +kernel
theorem d_M_in_6 : decode prog_14_method_3_code 6 = .ok (.lload_n 0, 1) := by decide +kernel
theorem d_M_in_7 : decode prog_14_method_3_code 7 = .ok (.lload 4, 2) := by decide +kernel
theorem d_M_in_9 : decode prog_14_method_3_code 9 = .ok (.lcmp, 1) := by decide +kernel
theorem d_M_in_10 : decode prog_14_method_3_code 10 = .ok (.ifCond .gt 7, 3) := by decide +kernel
theorem d_M_in_13 : decode prog_14_method_3_code 13 = .ok (.iconst 1, 1) := by decide +kernel
theorem d_M_in_14 : decode prog_14_method_3_code 14 = .ok (.goto 4, 3) := by decide +kernel
abbrev y_M_in : MethodName := ⟨"FilterGuardModel", "in", "(JJJ)Z"⟩
def rm_M_in : Room := { frames := 1, cells := 0, slots := 0, locals := 20 }
abbrev q_M_in (D : va_G) (RZ : Int32) (A : Nat → Prop) : Array Value → Jvm.State → Outcome → Jvm.State → Prop := va_Qi (fun r (_ : Unit) => r = RZ ∧ (RZ = 1 ∨ RZ = 0)) (fg_B D A (fun _ => []) (fun _ => [])) A
set_option maxHeartbeats 4000000 in
set_option maxRecDepth 100000 in
theorem c_M_in (l : Launch) (D : va_G) (RZ : Int32) (x0 : Int64) (x2 : Int64) (x4 : Int64) (h : f_M_in x0 x2 x4 = (some RZ)) (sz : Nat) : Met l y_M_in (fg_w y_M_in prog_14_method_3_code 6 (some .boolean)) rm_M_in (va_Pc [.long x0, .long x2, .long x4] (fg_P D [] [] sz)) (q_M_in D RZ (va_A [] sz)) rm_M_in.cells rm_M_in.slots (va_A [] sz) := by
  refine fg_enter (fun A => q_M_in D RZ A) (by decide +kernel) (Nat.le_of_ble_eq_true rfl) ?_
  intro p e s m below meth c ls A hx hb hml hown hts hr hlocks hin hP hK hD hS hA hX hl
  have hl : lv_has ls 6 [(0, .long x0), (2, .long x2), (4, .long x4)] := hl
  unfold f_M_in at h
  refine lv_lload_n hx hb d_M_in_0 rfl (lv_at hl 0 rfl) ?_
  refine lv_lload_n hx hb d_M_in_1 rfl (lv_at hl 1 rfl) ?_
  refine W.lcmp hx hb d_M_in_2 ?_
  refine lv_if_lt (tgt := 17) hx hb d_M_in_3 (by decide) (fun c1 => ?_) (fun c1 => ?_)
  · have h := if_t ((lg_cmp_lt _ _).mp c1) h
    refine lv_iconst (v := 0) hx hb d_M_in_17 (by decide) ?_
    exact me_pretz h (by decide) hx hb hr hlocks hK hS d_M_in_18
  have h := if_f (fun z => c1 ((lg_cmp_lt _ _).mpr z)) h
  refine lv_lload_n hx hb d_M_in_6 rfl (lv_at hl 0 rfl) ?_
  refine lv_lload hx hb d_M_in_7 (lv_at hl 2 rfl) ?_
  refine W.lcmp hx hb d_M_in_9 ?_
  refine lv_if_gt (tgt := 17) hx hb d_M_in_10 (by decide) (fun c2 => ?_) (fun c2 => ?_)
  · have h := if_t ((lg_cmp_gt _ _).mp c2) h
    refine lv_iconst (v := 0) hx hb d_M_in_17 (by decide) ?_
    exact me_pretz h (by decide) hx hb hr hlocks hK hS d_M_in_18
  have h := if_f (fun z => c2 ((lg_cmp_gt _ _).mpr z)) h
  refine lv_iconst (v := 1) hx hb d_M_in_13 (by decide) ?_
  refine lv_goto (tgt := 18) hx hb d_M_in_14 (by decide) ?_
  exact me_pretz h (by decide) hx hb hr hlocks hK hS d_M_in_18
theorem d_M_below_0 : decode prog_14_method_4_code 0 = .ok (.lload_n 0, 1) := by decide +kernel
theorem d_M_below_1 : decode prog_14_method_4_code 1 = .ok (.ldc2_w 156, 3) := by decide +kernel
theorem u_2075 : Cond.constantLong "FilterGuardModel" 156 (-9223372036854775808) ∈ fg_g := fg_in (List.mem_of_getElem? (i := 2075) (by decide +kernel)) rfl
theorem d_M_below_4 : decode prog_14_method_4_code 4 = .ok (.ladd, 1) := by decide +kernel
theorem d_M_below_5 : decode prog_14_method_4_code 5 = .ok (.lload_n 2, 1) := by decide +kernel
theorem d_M_below_6 : decode prog_14_method_4_code 6 = .ok (.ldc2_w 156, 3) := by decide +kernel
theorem d_M_below_9 : decode prog_14_method_4_code 9 = .ok (.ladd, 1) := by decide +kernel
theorem d_M_below_10 : decode prog_14_method_4_code 10 = .ok (.lcmp, 1) := by decide +kernel
theorem d_M_below_11 : decode prog_14_method_4_code 11 = .ok (.ifCond .ge 7, 3) := by decide +kernel
theorem d_M_below_18 : decode prog_14_method_4_code 18 = .ok (.iconst 0, 1) := by decide +kernel
theorem d_M_below_19 : decode prog_14_method_4_code 19 = .ok (.ireturn, 1) := by decide +kernel
theorem d_M_below_14 : decode prog_14_method_4_code 14 = .ok (.iconst 1, 1) := by decide +kernel
theorem d_M_below_15 : decode prog_14_method_4_code 15 = .ok (.goto 4, 3) := by decide +kernel
abbrev y_M_below : MethodName := ⟨"FilterGuardModel", "below", "(JJ)Z"⟩
def rm_M_below : Room := { frames := 1, cells := 0, slots := 0, locals := 20 }
abbrev q_M_below (D : va_G) (RZ : Int32) (A : Nat → Prop) : Array Value → Jvm.State → Outcome → Jvm.State → Prop := va_Qi (fun r (_ : Unit) => r = RZ ∧ (RZ = 1 ∨ RZ = 0)) (fg_B D A (fun _ => []) (fun _ => [])) A
set_option maxHeartbeats 4000000 in
set_option maxRecDepth 100000 in
theorem c_M_below (l : Launch) (D : va_G) (RZ : Int32) (x0 : Int64) (x2 : Int64) (h : f_M_below x0 x2 = (some RZ)) (sz : Nat) : Met l y_M_below (fg_w y_M_below prog_14_method_4_code 4 (some .boolean)) rm_M_below (va_Pc [.long x0, .long x2] (fg_P D [] [] sz)) (q_M_below D RZ (va_A [] sz)) rm_M_below.cells rm_M_below.slots (va_A [] sz) := by
  refine fg_enter (fun A => q_M_below D RZ A) (by decide +kernel) (Nat.le_of_ble_eq_true rfl) ?_
  intro p e s m below meth c ls A hx hb hml hown hts hr hlocks hin hP hK hD hS hA hX hl
  have hl : lv_has ls 4 [(0, .long x0), (2, .long x2)] := hl
  unfold f_M_below at h
  refine lv_lload_n hx hb d_M_below_0 rfl (lv_at hl 0 rfl) ?_
  refine lv_ldc2 hx hb hown (hts _ u_2075) d_M_below_1 ?_
  refine lv_ladd hx hb d_M_below_4 ?_
  refine lv_lload_n hx hb d_M_below_5 rfl (lv_at hl 1 rfl) ?_
  refine lv_ldc2 hx hb hown (hts _ u_2075) d_M_below_6 ?_
  refine lv_ladd hx hb d_M_below_9 ?_
  refine W.lcmp hx hb d_M_below_10 ?_
  refine lv_if_ge (tgt := 18) hx hb d_M_below_11 (by decide) (fun c1 => ?_) (fun c1 => ?_)
  · have h := if_f (Int64.not_lt.mpr ((lg_cmp_ge _ _).mp c1)) h
    refine lv_iconst (v := 0) hx hb d_M_below_18 (by decide) ?_
    exact me_pretz h (by decide) hx hb hr hlocks hK hS d_M_below_19
  have h := if_t (Int64.not_le.mp (fun z => c1 ((lg_cmp_ge _ _).mpr z))) h
  refine lv_iconst (v := 1) hx hb d_M_below_14 (by decide) ?_
  refine lv_goto (tgt := 19) hx hb d_M_below_15 (by decide) ?_
  exact me_pretz h (by decide) hx hb hr hlocks hK hS d_M_below_19
theorem d_M_lesser_0 : decode prog_14_method_5_code 0 = .ok (.lload_n 0, 1) := by decide +kernel
theorem d_M_lesser_1 : decode prog_14_method_5_code 1 = .ok (.lload_n 2, 1) := by decide +kernel
theorem d_M_lesser_2 : decode prog_14_method_5_code 2 = .ok (.invokestatic 158, 3) := by decide +kernel
theorem u_2072 : Cond.methodLink "FilterGuardModel" 158 ⟨"FilterGuardModel", "below", "(JJ)Z"⟩ ∈ fg_g := fg_in (List.mem_of_getElem? (i := 2072) (by decide +kernel)) rfl
theorem u_192 : Cond.initialized "FilterGuardModel" ∈ fg_g := fg_in (List.mem_of_getElem? (i := 192) (by decide +kernel)) rfl
theorem u_2074 : Cond.code ⟨"FilterGuardModel", "below", "(JJ)Z"⟩ prog_14_method_4_code 4 (some .boolean) ∈ fg_g := fg_in (List.mem_of_getElem? (i := 2074) (by decide +kernel)) rfl
theorem u_2073 : Cond.static ⟨"FilterGuardModel", "below", "(JJ)Z"⟩ ∈ fg_g := fg_in (List.mem_of_getElem? (i := 2073) (by decide +kernel)) rfl
theorem d_M_lesser_5 : decode prog_14_method_5_code 5 = .ok (.ifCond .eq 7, 3) := by decide +kernel
theorem d_M_lesser_12 : decode prog_14_method_5_code 12 = .ok (.lload_n 2, 1) := by decide +kernel
theorem d_M_lesser_13 : decode prog_14_method_5_code 13 = .ok (.lreturn, 1) := by decide +kernel
theorem d_M_lesser_8 : decode prog_14_method_5_code 8 = .ok (.lload_n 0, 1) := by decide +kernel
theorem d_M_lesser_9 : decode prog_14_method_5_code 9 = .ok (.goto 4, 3) := by decide +kernel
abbrev y_M_lesser : MethodName := ⟨"FilterGuardModel", "lesser", "(JJ)J"⟩
def rm_M_lesser : Room := { frames := 2, cells := 0, slots := 0, locals := 43 }
abbrev q_M_lesser (D : va_G) (RZ : Int64) (A : Nat → Prop) : Array Value → Jvm.State → Outcome → Jvm.State → Prop := va_Ql (fun r (_ : Unit) => r = RZ ∧ True) (fg_B D A (fun _ => []) (fun _ => [])) A
set_option maxHeartbeats 4000000 in
set_option maxRecDepth 100000 in
theorem c_M_lesser (l : Launch) (D : va_G) (RZ : Int64) (x0 : Int64) (x2 : Int64) (h : f_M_lesser x0 x2 = (some RZ)) (sz : Nat) : Met l y_M_lesser (fg_w y_M_lesser prog_14_method_5_code 4 (some .long)) rm_M_lesser (va_Pc [.long x0, .long x2] (fg_P D [] [] sz)) (q_M_lesser D RZ (va_A [] sz)) rm_M_lesser.cells rm_M_lesser.slots (va_A [] sz) := by
  refine fg_enter (fun A => q_M_lesser D RZ A) (by decide +kernel) (Nat.le_of_ble_eq_true rfl) ?_
  intro p e s m below meth c ls A hx hb hml hown hts hr hlocks hin hP hK hD hS hA hX hl
  have hl : lv_has ls 4 [(0, .long x0), (2, .long x2)] := hl
  unfold f_M_lesser at h
  refine lv_lload_n hx hb d_M_lesser_0 rfl (lv_at hl 0 rfl) ?_
  refine lv_lload_n hx hb d_M_lesser_1 rfl (lv_at hl 1 rfl) ?_
  obtain ⟨r1, er1, h⟩ := bd_ob h
  refine me_pani0 (r0 := r1) (fg_runS (wc := []) (tc := []) (A2 := A) (As := [.long x0, .long x2]) (rest := []) ⟨hx, hb, hml, hown, hts⟩ (c_M_below l D r1 x0 x2 er1 _) (by show fg_nm y_M_below 2; decide +kernel) u_2072 u_2073 u_192 u_2074 ⟨Nat.le_of_ble_eq_true rfl, Nat.le_of_ble_eq_true rfl⟩ hX me_P0 (hK.sub (tys' := []) [] rfl) me_D0 rfl hl.1 (Nat.le_of_ble_eq_true rfl) d_M_lesser_2 ⟨Nat.le_of_ble_eq_true rfl, Nat.le_of_ble_eq_true rfl⟩) hK hS hA rfl rfl (fun H locs hw hS => ?_)
  have zr1 := hw
  refine lv_if_eq (tgt := 12) hx hb d_M_lesser_5 (by decide) (fun c2 => ?_) (fun c2 => ?_)
  · have h := if_t c2 h
    refine lv_lload_n hx hb d_M_lesser_12 rfl (lv_at hl 1 rfl) ?_
    exact me_pretl h hx hb hr hlocks hK hS d_M_lesser_13
  have h := if_f c2 h
  refine lv_lload_n hx hb d_M_lesser_8 rfl (lv_at hl 0 rfl) ?_
  refine lv_goto (tgt := 13) hx hb d_M_lesser_9 (by decide) ?_
  exact me_pretl h hx hb hr hlocks hK hS d_M_lesser_13
theorem d_M_greater_0 : decode prog_14_method_6_code 0 = .ok (.lload_n 0, 1) := by decide +kernel
theorem d_M_greater_1 : decode prog_14_method_6_code 1 = .ok (.lload_n 2, 1) := by decide +kernel
theorem d_M_greater_2 : decode prog_14_method_6_code 2 = .ok (.invokestatic 158, 3) := by decide +kernel
theorem d_M_greater_5 : decode prog_14_method_6_code 5 = .ok (.ifCond .eq 7, 3) := by decide +kernel
theorem d_M_greater_12 : decode prog_14_method_6_code 12 = .ok (.lload_n 0, 1) := by decide +kernel
theorem d_M_greater_13 : decode prog_14_method_6_code 13 = .ok (.lreturn, 1) := by decide +kernel
theorem d_M_greater_8 : decode prog_14_method_6_code 8 = .ok (.lload_n 2, 1) := by decide +kernel
theorem d_M_greater_9 : decode prog_14_method_6_code 9 = .ok (.goto 4, 3) := by decide +kernel
abbrev y_M_greater : MethodName := ⟨"FilterGuardModel", "greater", "(JJ)J"⟩
def rm_M_greater : Room := { frames := 2, cells := 0, slots := 0, locals := 43 }
abbrev q_M_greater (D : va_G) (RZ : Int64) (A : Nat → Prop) : Array Value → Jvm.State → Outcome → Jvm.State → Prop := va_Ql (fun r (_ : Unit) => r = RZ ∧ True) (fg_B D A (fun _ => []) (fun _ => [])) A
set_option maxHeartbeats 4000000 in
set_option maxRecDepth 100000 in
theorem c_M_greater (l : Launch) (D : va_G) (RZ : Int64) (x0 : Int64) (x2 : Int64) (h : f_M_greater x0 x2 = (some RZ)) (sz : Nat) : Met l y_M_greater (fg_w y_M_greater prog_14_method_6_code 4 (some .long)) rm_M_greater (va_Pc [.long x0, .long x2] (fg_P D [] [] sz)) (q_M_greater D RZ (va_A [] sz)) rm_M_greater.cells rm_M_greater.slots (va_A [] sz) := by
  refine fg_enter (fun A => q_M_greater D RZ A) (by decide +kernel) (Nat.le_of_ble_eq_true rfl) ?_
  intro p e s m below meth c ls A hx hb hml hown hts hr hlocks hin hP hK hD hS hA hX hl
  have hl : lv_has ls 4 [(0, .long x0), (2, .long x2)] := hl
  unfold f_M_greater at h
  refine lv_lload_n hx hb d_M_greater_0 rfl (lv_at hl 0 rfl) ?_
  refine lv_lload_n hx hb d_M_greater_1 rfl (lv_at hl 1 rfl) ?_
  obtain ⟨r1, er1, h⟩ := bd_ob h
  refine me_pani0 (r0 := r1) (fg_runS (wc := []) (tc := []) (A2 := A) (As := [.long x0, .long x2]) (rest := []) ⟨hx, hb, hml, hown, hts⟩ (c_M_below l D r1 x0 x2 er1 _) (by show fg_nm y_M_below 2; decide +kernel) u_2072 u_2073 u_192 u_2074 ⟨Nat.le_of_ble_eq_true rfl, Nat.le_of_ble_eq_true rfl⟩ hX me_P0 (hK.sub (tys' := []) [] rfl) me_D0 rfl hl.1 (Nat.le_of_ble_eq_true rfl) d_M_greater_2 ⟨Nat.le_of_ble_eq_true rfl, Nat.le_of_ble_eq_true rfl⟩) hK hS hA rfl rfl (fun H locs hw hS => ?_)
  have zr1 := hw
  refine lv_if_eq (tgt := 12) hx hb d_M_greater_5 (by decide) (fun c2 => ?_) (fun c2 => ?_)
  · have h := if_t c2 h
    refine lv_lload_n hx hb d_M_greater_12 rfl (lv_at hl 0 rfl) ?_
    exact me_pretl h hx hb hr hlocks hK hS d_M_greater_13
  have h := if_f c2 h
  refine lv_lload_n hx hb d_M_greater_8 rfl (lv_at hl 1 rfl) ?_
  refine lv_goto (tgt := 13) hx hb d_M_greater_9 (by decide) ?_
  exact me_pretl h hx hb hr hlocks hK hS d_M_greater_13
theorem d_M_copyNumber_0 : decode prog_14_method_7_code 0 = .ok (.aload_n 0, 1) := by decide +kernel
theorem d_M_copyNumber_1 : decode prog_14_method_7_code 1 = .ok (.getfield 104, 3) := by decide +kernel
theorem g_M_52 {p : Program} {l : Launch} {e : Env} {R : Room} {s : Jvm.State} {m : MethodId} {args : Array Value} {below : List Frame} {meth : Method} {c : Code} {H : Heap} {locs : List Loc} {cells slots : Nat} {Q : Jvm.State → Prop} {cc : ByteArray} {pc : Nat} {ls : Array Slot} {rest : List Value} {D : va_G} {ad : Nat → Nat → Nat} {ca : Nat → ClassId} {M : me_M} {N : Nat → Nat} {own : String} {index j : Nat} (hexec : p.tables.exec = Jvm.exec) (hb : c.code = cc) (hts : ∀ w ∈ fg_g, w.before args s = true) (hown : s.vm.findClass own = some m.cls) (hK : va_K D classes (me_T ca) s) (hP : va_P D classes (me_W ad ca M) H) (hwf : me_wf N M) (hj : j < N 1) (hlink : (Cond.fieldLink own index "FilterGuardModel" "value" "[J").before args s = true) (hdg : decode cc pc = .ok (.getfield index, 3)) (kk : W p l e R s m args below meth c H locs cells slots Q (F0 m (pc + 3) ls (va_rf ((mR M 1 j 52).map (ad 16)) :: rest))) : W p l e R s m args below meth c H locs cells slots Q (F0 m pc ls (.ref (ad 1 j) :: rest)) := me_get (k := 1) (f := 52) (C := "FilterGuardModel") (T := F_M) (Nf := 75) hexec hb hts i_M hown hK hP hwf hj (by decide) rfl (by decide) (by decide) hlink (fun _ h9 => h9) hdg kk
theorem d_M_copyNumber_4 : decode prog_14_method_7_code 4 = .ok (.iload_n 2, 1) := by decide +kernel
theorem d_M_copyNumber_5 : decode prog_14_method_7_code 5 = .ok (.aload_n 0, 1) := by decide +kernel
theorem d_M_copyNumber_6 : decode prog_14_method_7_code 6 = .ok (.getfield 104, 3) := by decide +kernel
theorem d_M_copyNumber_9 : decode prog_14_method_7_code 9 = .ok (.iload_n 1, 1) := by decide +kernel
theorem d_M_copyNumber_10 : decode prog_14_method_7_code 10 = .ok (.laload, 1) := by decide +kernel
theorem d_M_copyNumber_11 : decode prog_14_method_7_code 11 = .ok (.lastore, 1) := by decide +kernel
theorem d_M_copyNumber_12 : decode prog_14_method_7_code 12 = .ok (.aload_n 0, 1) := by decide +kernel
theorem d_M_copyNumber_13 : decode prog_14_method_7_code 13 = .ok (.getfield 107, 3) := by decide +kernel
theorem g_M_53 {p : Program} {l : Launch} {e : Env} {R : Room} {s : Jvm.State} {m : MethodId} {args : Array Value} {below : List Frame} {meth : Method} {c : Code} {H : Heap} {locs : List Loc} {cells slots : Nat} {Q : Jvm.State → Prop} {cc : ByteArray} {pc : Nat} {ls : Array Slot} {rest : List Value} {D : va_G} {ad : Nat → Nat → Nat} {ca : Nat → ClassId} {M : me_M} {N : Nat → Nat} {own : String} {index j : Nat} (hexec : p.tables.exec = Jvm.exec) (hb : c.code = cc) (hts : ∀ w ∈ fg_g, w.before args s = true) (hown : s.vm.findClass own = some m.cls) (hK : va_K D classes (me_T ca) s) (hP : va_P D classes (me_W ad ca M) H) (hwf : me_wf N M) (hj : j < N 1) (hlink : (Cond.fieldLink own index "FilterGuardModel" "mask" "[J").before args s = true) (hdg : decode cc pc = .ok (.getfield index, 3)) (kk : W p l e R s m args below meth c H locs cells slots Q (F0 m (pc + 3) ls (va_rf ((mR M 1 j 53).map (ad 16)) :: rest))) : W p l e R s m args below meth c H locs cells slots Q (F0 m pc ls (.ref (ad 1 j) :: rest)) := me_get (k := 1) (f := 53) (C := "FilterGuardModel") (T := F_M) (Nf := 75) hexec hb hts i_M hown hK hP hwf hj (by decide) rfl (by decide) (by decide) hlink (fun _ h9 => h9) hdg kk
theorem d_M_copyNumber_16 : decode prog_14_method_7_code 16 = .ok (.iload_n 2, 1) := by decide +kernel
theorem d_M_copyNumber_17 : decode prog_14_method_7_code 17 = .ok (.aload_n 0, 1) := by decide +kernel
theorem d_M_copyNumber_18 : decode prog_14_method_7_code 18 = .ok (.getfield 107, 3) := by decide +kernel
theorem d_M_copyNumber_21 : decode prog_14_method_7_code 21 = .ok (.iload_n 1, 1) := by decide +kernel
theorem d_M_copyNumber_22 : decode prog_14_method_7_code 22 = .ok (.laload, 1) := by decide +kernel
theorem d_M_copyNumber_23 : decode prog_14_method_7_code 23 = .ok (.lastore, 1) := by decide +kernel
theorem d_M_copyNumber_24 : decode prog_14_method_7_code 24 = .ok (.aload_n 0, 1) := by decide +kernel
theorem d_M_copyNumber_25 : decode prog_14_method_7_code 25 = .ok (.getfield 110, 3) := by decide +kernel
theorem g_M_54 {p : Program} {l : Launch} {e : Env} {R : Room} {s : Jvm.State} {m : MethodId} {args : Array Value} {below : List Frame} {meth : Method} {c : Code} {H : Heap} {locs : List Loc} {cells slots : Nat} {Q : Jvm.State → Prop} {cc : ByteArray} {pc : Nat} {ls : Array Slot} {rest : List Value} {D : va_G} {ad : Nat → Nat → Nat} {ca : Nat → ClassId} {M : me_M} {N : Nat → Nat} {own : String} {index j : Nat} (hexec : p.tables.exec = Jvm.exec) (hb : c.code = cc) (hts : ∀ w ∈ fg_g, w.before args s = true) (hown : s.vm.findClass own = some m.cls) (hK : va_K D classes (me_T ca) s) (hP : va_P D classes (me_W ad ca M) H) (hwf : me_wf N M) (hj : j < N 1) (hlink : (Cond.fieldLink own index "FilterGuardModel" "least" "[J").before args s = true) (hdg : decode cc pc = .ok (.getfield index, 3)) (kk : W p l e R s m args below meth c H locs cells slots Q (F0 m (pc + 3) ls (va_rf ((mR M 1 j 54).map (ad 16)) :: rest))) : W p l e R s m args below meth c H locs cells slots Q (F0 m pc ls (.ref (ad 1 j) :: rest)) := me_get (k := 1) (f := 54) (C := "FilterGuardModel") (T := F_M) (Nf := 75) hexec hb hts i_M hown hK hP hwf hj (by decide) rfl (by decide) (by decide) hlink (fun _ h9 => h9) hdg kk
theorem d_M_copyNumber_28 : decode prog_14_method_7_code 28 = .ok (.iload_n 2, 1) := by decide +kernel
theorem d_M_copyNumber_29 : decode prog_14_method_7_code 29 = .ok (.aload_n 0, 1) := by decide +kernel
theorem d_M_copyNumber_30 : decode prog_14_method_7_code 30 = .ok (.getfield 110, 3) := by decide +kernel
theorem d_M_copyNumber_33 : decode prog_14_method_7_code 33 = .ok (.iload_n 1, 1) := by decide +kernel
theorem d_M_copyNumber_34 : decode prog_14_method_7_code 34 = .ok (.laload, 1) := by decide +kernel
theorem d_M_copyNumber_35 : decode prog_14_method_7_code 35 = .ok (.lastore, 1) := by decide +kernel
theorem d_M_copyNumber_36 : decode prog_14_method_7_code 36 = .ok (.aload_n 0, 1) := by decide +kernel
theorem d_M_copyNumber_37 : decode prog_14_method_7_code 37 = .ok (.getfield 113, 3) := by decide +kernel
theorem g_M_55 {p : Program} {l : Launch} {e : Env} {R : Room} {s : Jvm.State} {m : MethodId} {args : Array Value} {below : List Frame} {meth : Method} {c : Code} {H : Heap} {locs : List Loc} {cells slots : Nat} {Q : Jvm.State → Prop} {cc : ByteArray} {pc : Nat} {ls : Array Slot} {rest : List Value} {D : va_G} {ad : Nat → Nat → Nat} {ca : Nat → ClassId} {M : me_M} {N : Nat → Nat} {own : String} {index j : Nat} (hexec : p.tables.exec = Jvm.exec) (hb : c.code = cc) (hts : ∀ w ∈ fg_g, w.before args s = true) (hown : s.vm.findClass own = some m.cls) (hK : va_K D classes (me_T ca) s) (hP : va_P D classes (me_W ad ca M) H) (hwf : me_wf N M) (hj : j < N 1) (hlink : (Cond.fieldLink own index "FilterGuardModel" "great" "[J").before args s = true) (hdg : decode cc pc = .ok (.getfield index, 3)) (kk : W p l e R s m args below meth c H locs cells slots Q (F0 m (pc + 3) ls (va_rf ((mR M 1 j 55).map (ad 16)) :: rest))) : W p l e R s m args below meth c H locs cells slots Q (F0 m pc ls (.ref (ad 1 j) :: rest)) := me_get (k := 1) (f := 55) (C := "FilterGuardModel") (T := F_M) (Nf := 75) hexec hb hts i_M hown hK hP hwf hj (by decide) rfl (by decide) (by decide) hlink (fun _ h9 => h9) hdg kk
theorem d_M_copyNumber_40 : decode prog_14_method_7_code 40 = .ok (.iload_n 2, 1) := by decide +kernel
theorem d_M_copyNumber_41 : decode prog_14_method_7_code 41 = .ok (.aload_n 0, 1) := by decide +kernel
theorem d_M_copyNumber_42 : decode prog_14_method_7_code 42 = .ok (.getfield 113, 3) := by decide +kernel
theorem d_M_copyNumber_45 : decode prog_14_method_7_code 45 = .ok (.iload_n 1, 1) := by decide +kernel
theorem d_M_copyNumber_46 : decode prog_14_method_7_code 46 = .ok (.laload, 1) := by decide +kernel
theorem d_M_copyNumber_47 : decode prog_14_method_7_code 47 = .ok (.lastore, 1) := by decide +kernel
theorem d_M_copyNumber_48 : decode prog_14_method_7_code 48 = .ok (.aload_n 0, 1) := by decide +kernel
theorem d_M_copyNumber_49 : decode prog_14_method_7_code 49 = .ok (.getfield 116, 3) := by decide +kernel
theorem g_M_56 {p : Program} {l : Launch} {e : Env} {R : Room} {s : Jvm.State} {m : MethodId} {args : Array Value} {below : List Frame} {meth : Method} {c : Code} {H : Heap} {locs : List Loc} {cells slots : Nat} {Q : Jvm.State → Prop} {cc : ByteArray} {pc : Nat} {ls : Array Slot} {rest : List Value} {D : va_G} {ad : Nat → Nat → Nat} {ca : Nat → ClassId} {M : me_M} {N : Nat → Nat} {own : String} {index j : Nat} (hexec : p.tables.exec = Jvm.exec) (hb : c.code = cc) (hts : ∀ w ∈ fg_g, w.before args s = true) (hown : s.vm.findClass own = some m.cls) (hK : va_K D classes (me_T ca) s) (hP : va_P D classes (me_W ad ca M) H) (hwf : me_wf N M) (hj : j < N 1) (hlink : (Cond.fieldLink own index "FilterGuardModel" "low" "[J").before args s = true) (hdg : decode cc pc = .ok (.getfield index, 3)) (kk : W p l e R s m args below meth c H locs cells slots Q (F0 m (pc + 3) ls (va_rf ((mR M 1 j 56).map (ad 16)) :: rest))) : W p l e R s m args below meth c H locs cells slots Q (F0 m pc ls (.ref (ad 1 j) :: rest)) := me_get (k := 1) (f := 56) (C := "FilterGuardModel") (T := F_M) (Nf := 75) hexec hb hts i_M hown hK hP hwf hj (by decide) rfl (by decide) (by decide) hlink (fun _ h9 => h9) hdg kk
theorem d_M_copyNumber_52 : decode prog_14_method_7_code 52 = .ok (.iload_n 2, 1) := by decide +kernel
theorem d_M_copyNumber_53 : decode prog_14_method_7_code 53 = .ok (.aload_n 0, 1) := by decide +kernel
theorem d_M_copyNumber_54 : decode prog_14_method_7_code 54 = .ok (.getfield 116, 3) := by decide +kernel
theorem d_M_copyNumber_57 : decode prog_14_method_7_code 57 = .ok (.iload_n 1, 1) := by decide +kernel
theorem d_M_copyNumber_58 : decode prog_14_method_7_code 58 = .ok (.laload, 1) := by decide +kernel
theorem d_M_copyNumber_59 : decode prog_14_method_7_code 59 = .ok (.lastore, 1) := by decide +kernel
theorem d_M_copyNumber_60 : decode prog_14_method_7_code 60 = .ok (.aload_n 0, 1) := by decide +kernel
theorem d_M_copyNumber_61 : decode prog_14_method_7_code 61 = .ok (.getfield 119, 3) := by decide +kernel
theorem g_M_57 {p : Program} {l : Launch} {e : Env} {R : Room} {s : Jvm.State} {m : MethodId} {args : Array Value} {below : List Frame} {meth : Method} {c : Code} {H : Heap} {locs : List Loc} {cells slots : Nat} {Q : Jvm.State → Prop} {cc : ByteArray} {pc : Nat} {ls : Array Slot} {rest : List Value} {D : va_G} {ad : Nat → Nat → Nat} {ca : Nat → ClassId} {M : me_M} {N : Nat → Nat} {own : String} {index j : Nat} (hexec : p.tables.exec = Jvm.exec) (hb : c.code = cc) (hts : ∀ w ∈ fg_g, w.before args s = true) (hown : s.vm.findClass own = some m.cls) (hK : va_K D classes (me_T ca) s) (hP : va_P D classes (me_W ad ca M) H) (hwf : me_wf N M) (hj : j < N 1) (hlink : (Cond.fieldLink own index "FilterGuardModel" "high" "[J").before args s = true) (hdg : decode cc pc = .ok (.getfield index, 3)) (kk : W p l e R s m args below meth c H locs cells slots Q (F0 m (pc + 3) ls (va_rf ((mR M 1 j 57).map (ad 16)) :: rest))) : W p l e R s m args below meth c H locs cells slots Q (F0 m pc ls (.ref (ad 1 j) :: rest)) := me_get (k := 1) (f := 57) (C := "FilterGuardModel") (T := F_M) (Nf := 75) hexec hb hts i_M hown hK hP hwf hj (by decide) rfl (by decide) (by decide) hlink (fun _ h9 => h9) hdg kk
theorem d_M_copyNumber_64 : decode prog_14_method_7_code 64 = .ok (.iload_n 2, 1) := by decide +kernel
theorem d_M_copyNumber_65 : decode prog_14_method_7_code 65 = .ok (.aload_n 0, 1) := by decide +kernel
theorem d_M_copyNumber_66 : decode prog_14_method_7_code 66 = .ok (.getfield 119, 3) := by decide +kernel
theorem d_M_copyNumber_69 : decode prog_14_method_7_code 69 = .ok (.iload_n 1, 1) := by decide +kernel
theorem d_M_copyNumber_70 : decode prog_14_method_7_code 70 = .ok (.laload, 1) := by decide +kernel
theorem d_M_copyNumber_71 : decode prog_14_method_7_code 71 = .ok (.lastore, 1) := by decide +kernel
theorem d_M_copyNumber_72 : decode prog_14_method_7_code 72 = .ok (.return_, 1) := by decide +kernel
abbrev y_M_copyNumber : MethodName := ⟨"FilterGuardModel", "copyNumber", "(II)V"⟩
def rm_M_copyNumber : Room := { frames := 1, cells := 0, slots := 0, locals := 20 }
abbrev q_M_copyNumber (D : va_G) (ad : Nat → Nat → Nat) (ca : Nat → ClassId) (N : Nat → Nat) (M0 MZ : me_M) (A : Nat → Prop) : Array Value → Jvm.State → Outcome → Jvm.State → Prop := va_Qv (fun (_ : Unit) => me_wf N MZ ∧ me_kp M0 MZ) (fg_B D A (fun _ => me_W ad ca MZ) (fun _ => [])) A
set_option maxHeartbeats 4000000 in
set_option maxRecDepth 100000 in
theorem c_M_copyNumber (l : Launch) (D : va_G) (ad : Nat → Nat → Nat) (ca : Nat → ClassId) (N : Nat → Nat) (M0 MZ : me_M) (j0 : Nat) (x1 : Int32) (x2 : Int32) (h : f_M_copyNumber M0 j0 x1 x2 = (some MZ)) (hwf : me_wf N M0) (hj0 : j0 < N 1) (sz : Nat) : Met l y_M_copyNumber (fg_w y_M_copyNumber prog_14_method_7_code 3 none) rm_M_copyNumber (va_Pc [.ref (ad 1 j0), .int x1, .int x2] (fz_P D (me_T ca) (me_W ad ca M0) sz)) (q_M_copyNumber D ad ca N M0 MZ (va_A (me_W ad ca M0) sz)) rm_M_copyNumber.cells rm_M_copyNumber.slots (va_A (me_W ad ca M0) sz) := by
  refine fz_enter (fun A => q_M_copyNumber D ad ca N M0 MZ A) (by decide +kernel) (Nat.le_of_ble_eq_true rfl) ?_
  intro p e s m below meth c ls A hx hb hml hown hts hr hlocks hin hP hK hD hS hA hX hl hz
  have hl : lv_has ls 3 [(0, .ref (ad 1 j0)), (1, .int x1), (2, .int x2)] := hl
  unfold f_M_copyNumber at h
  have hkp : me_kp M0 M0 := me_kp.rf
  have hkb := hkp
  refine lv_aload_n hx hb d_M_copyNumber_0 rfl (lv_at hl 0 rfl) ?_
  refine g_M_52 hx hb hts hown hK hP hwf hj0 (hts _ u_1793) d_M_copyNumber_1 ?_
  obtain ⟨j1, e2, h⟩ := bd_ob h
  have hj1 : j1 < N 16 := (hwf.2.1 1 j0 52 _ e2 (by decide) hj0)
  refine me_opt (j := j1) e2 ?_
  refine lv_iload_n hx hb d_M_copyNumber_4 rfl (lv_at hl 2 rfl) ?_
  refine lv_aload_n hx hb d_M_copyNumber_5 rfl (lv_at hl 0 rfl) ?_
  refine g_M_52 hx hb hts hown hK hP hwf hj0 (hts _ u_1793) d_M_copyNumber_6 ?_
  refine me_opt (j := j1) e2 ?_
  refine lv_iload_n hx hb d_M_copyNumber_9 rfl (lv_at hl 1 rfl) ?_
  obtain ⟨g3, h⟩ := gd_ob h
  refine me_lald hx hb hK hP hwf hj1 g3 d_M_copyNumber_10 ?_
  obtain ⟨g4, h⟩ := gd_ob h
  obtain ⟨M5, eM5, h⟩ := st_ob h
  refine me_last eM5 hx hb hK hP hD hwf hS hj1 g4 d_M_copyNumber_11 (fun H locs hP hD hwf hS => ?_)
  have hkp := kp_L eM5 hkp
  refine lv_aload_n hx hb d_M_copyNumber_12 rfl (lv_at hl 0 rfl) ?_
  refine g_M_53 hx hb hts hown hK hP hwf hj0 (hts _ u_1794) d_M_copyNumber_13 ?_
  obtain ⟨j6, e7, h⟩ := bd_ob h
  have hj6 : j6 < N 16 := (hwf.2.1 1 j0 53 _ (kp_r hkb hkp e7) (by decide) hj0)
  refine me_opt (j := j6) (kp_r hkb hkp e7) ?_
  refine lv_iload_n hx hb d_M_copyNumber_16 rfl (lv_at hl 2 rfl) ?_
  refine lv_aload_n hx hb d_M_copyNumber_17 rfl (lv_at hl 0 rfl) ?_
  refine g_M_53 hx hb hts hown hK hP hwf hj0 (hts _ u_1794) d_M_copyNumber_18 ?_
  refine me_opt (j := j6) (kp_r hkb hkp e7) ?_
  refine lv_iload_n hx hb d_M_copyNumber_21 rfl (lv_at hl 1 rfl) ?_
  obtain ⟨g8, h⟩ := gd_ob h
  refine me_lald hx hb hK hP hwf hj6 (kp_z hkb.z hkp.z g8) d_M_copyNumber_22 ?_
  obtain ⟨g9, h⟩ := gd_ob h
  obtain ⟨M10, eM10, h⟩ := st_ob h
  refine me_last eM10 hx hb hK hP hD hwf hS hj6 (kp_z hkb.z hkp.z g9) d_M_copyNumber_23 (fun H locs hP hD hwf hS => ?_)
  have hkp := kp_L eM10 hkp
  refine lv_aload_n hx hb d_M_copyNumber_24 rfl (lv_at hl 0 rfl) ?_
  refine g_M_54 hx hb hts hown hK hP hwf hj0 (hts _ u_1795) d_M_copyNumber_25 ?_
  obtain ⟨j11, e12, h⟩ := bd_ob h
  have hj11 : j11 < N 16 := (hwf.2.1 1 j0 54 _ (kp_r hkb hkp e12) (by decide) hj0)
  refine me_opt (j := j11) (kp_r hkb hkp e12) ?_
  refine lv_iload_n hx hb d_M_copyNumber_28 rfl (lv_at hl 2 rfl) ?_
  refine lv_aload_n hx hb d_M_copyNumber_29 rfl (lv_at hl 0 rfl) ?_
  refine g_M_54 hx hb hts hown hK hP hwf hj0 (hts _ u_1795) d_M_copyNumber_30 ?_
  refine me_opt (j := j11) (kp_r hkb hkp e12) ?_
  refine lv_iload_n hx hb d_M_copyNumber_33 rfl (lv_at hl 1 rfl) ?_
  obtain ⟨g13, h⟩ := gd_ob h
  refine me_lald hx hb hK hP hwf hj11 (kp_z hkb.z hkp.z g13) d_M_copyNumber_34 ?_
  obtain ⟨g14, h⟩ := gd_ob h
  obtain ⟨M15, eM15, h⟩ := st_ob h
  refine me_last eM15 hx hb hK hP hD hwf hS hj11 (kp_z hkb.z hkp.z g14) d_M_copyNumber_35 (fun H locs hP hD hwf hS => ?_)
  have hkp := kp_L eM15 hkp
  refine lv_aload_n hx hb d_M_copyNumber_36 rfl (lv_at hl 0 rfl) ?_
  refine g_M_55 hx hb hts hown hK hP hwf hj0 (hts _ u_1796) d_M_copyNumber_37 ?_
  obtain ⟨j16, e17, h⟩ := bd_ob h
  have hj16 : j16 < N 16 := (hwf.2.1 1 j0 55 _ (kp_r hkb hkp e17) (by decide) hj0)
  refine me_opt (j := j16) (kp_r hkb hkp e17) ?_
  refine lv_iload_n hx hb d_M_copyNumber_40 rfl (lv_at hl 2 rfl) ?_
  refine lv_aload_n hx hb d_M_copyNumber_41 rfl (lv_at hl 0 rfl) ?_
  refine g_M_55 hx hb hts hown hK hP hwf hj0 (hts _ u_1796) d_M_copyNumber_42 ?_
  refine me_opt (j := j16) (kp_r hkb hkp e17) ?_
  refine lv_iload_n hx hb d_M_copyNumber_45 rfl (lv_at hl 1 rfl) ?_
  obtain ⟨g18, h⟩ := gd_ob h
  refine me_lald hx hb hK hP hwf hj16 (kp_z hkb.z hkp.z g18) d_M_copyNumber_46 ?_
  obtain ⟨g19, h⟩ := gd_ob h
  obtain ⟨M20, eM20, h⟩ := st_ob h
  refine me_last eM20 hx hb hK hP hD hwf hS hj16 (kp_z hkb.z hkp.z g19) d_M_copyNumber_47 (fun H locs hP hD hwf hS => ?_)
  have hkp := kp_L eM20 hkp
  refine lv_aload_n hx hb d_M_copyNumber_48 rfl (lv_at hl 0 rfl) ?_
  refine g_M_56 hx hb hts hown hK hP hwf hj0 (hts _ u_1797) d_M_copyNumber_49 ?_
  obtain ⟨j21, e22, h⟩ := bd_ob h
  have hj21 : j21 < N 16 := (hwf.2.1 1 j0 56 _ (kp_r hkb hkp e22) (by decide) hj0)
  refine me_opt (j := j21) (kp_r hkb hkp e22) ?_
  refine lv_iload_n hx hb d_M_copyNumber_52 rfl (lv_at hl 2 rfl) ?_
  refine lv_aload_n hx hb d_M_copyNumber_53 rfl (lv_at hl 0 rfl) ?_
  refine g_M_56 hx hb hts hown hK hP hwf hj0 (hts _ u_1797) d_M_copyNumber_54 ?_
  refine me_opt (j := j21) (kp_r hkb hkp e22) ?_
  refine lv_iload_n hx hb d_M_copyNumber_57 rfl (lv_at hl 1 rfl) ?_
  obtain ⟨g23, h⟩ := gd_ob h
  refine me_lald hx hb hK hP hwf hj21 (kp_z hkb.z hkp.z g23) d_M_copyNumber_58 ?_
  obtain ⟨g24, h⟩ := gd_ob h
  obtain ⟨M25, eM25, h⟩ := st_ob h
  refine me_last eM25 hx hb hK hP hD hwf hS hj21 (kp_z hkb.z hkp.z g24) d_M_copyNumber_59 (fun H locs hP hD hwf hS => ?_)
  have hkp := kp_L eM25 hkp
  refine lv_aload_n hx hb d_M_copyNumber_60 rfl (lv_at hl 0 rfl) ?_
  refine g_M_57 hx hb hts hown hK hP hwf hj0 (hts _ u_1798) d_M_copyNumber_61 ?_
  obtain ⟨j26, e27, h⟩ := bd_ob h
  have hj26 : j26 < N 16 := (hwf.2.1 1 j0 57 _ (kp_r hkb hkp e27) (by decide) hj0)
  refine me_opt (j := j26) (kp_r hkb hkp e27) ?_
  refine lv_iload_n hx hb d_M_copyNumber_64 rfl (lv_at hl 2 rfl) ?_
  refine lv_aload_n hx hb d_M_copyNumber_65 rfl (lv_at hl 0 rfl) ?_
  refine g_M_57 hx hb hts hown hK hP hwf hj0 (hts _ u_1798) d_M_copyNumber_66 ?_
  refine me_opt (j := j26) (kp_r hkb hkp e27) ?_
  refine lv_iload_n hx hb d_M_copyNumber_69 rfl (lv_at hl 1 rfl) ?_
  obtain ⟨g28, h⟩ := gd_ob h
  refine me_lald hx hb hK hP hwf hj26 (kp_z hkb.z hkp.z g28) d_M_copyNumber_70 ?_
  obtain ⟨g29, h⟩ := gd_ob h
  obtain ⟨M30, eM30, h⟩ := st_ob h
  refine me_last eM30 hx hb hK hP hD hwf hS hj26 (kp_z hkb.z hkp.z g29) d_M_copyNumber_71 (fun H locs hP hD hwf hS => ?_)
  have hkp := kp_L eM30 hkp
  exact me_retv (me_kp M0) h hx hb hr hlocks hwf hkp hP hK hD hS d_M_copyNumber_72
theorem d_M_setAny_0 : decode prog_14_method_8_code 0 = .ok (.aload_n 0, 1) := by decide +kernel
theorem d_M_setAny_1 : decode prog_14_method_8_code 1 = .ok (.getfield 104, 3) := by decide +kernel
theorem d_M_setAny_4 : decode prog_14_method_8_code 4 = .ok (.iload_n 1, 1) := by decide +kernel
theorem d_M_setAny_5 : decode prog_14_method_8_code 5 = .ok (.lconst 0, 1) := by decide +kernel
theorem d_M_setAny_6 : decode prog_14_method_8_code 6 = .ok (.lastore, 1) := by decide +kernel
theorem d_M_setAny_7 : decode prog_14_method_8_code 7 = .ok (.aload_n 0, 1) := by decide +kernel
theorem d_M_setAny_8 : decode prog_14_method_8_code 8 = .ok (.getfield 107, 3) := by decide +kernel
theorem d_M_setAny_11 : decode prog_14_method_8_code 11 = .ok (.iload_n 1, 1) := by decide +kernel
theorem d_M_setAny_12 : decode prog_14_method_8_code 12 = .ok (.ldc2_w 162, 3) := by decide +kernel
theorem u_2071 : Cond.constantLong "FilterGuardModel" 162 (-1) ∈ fg_g := fg_in (List.mem_of_getElem? (i := 2071) (by decide +kernel)) rfl
theorem d_M_setAny_15 : decode prog_14_method_8_code 15 = .ok (.lastore, 1) := by decide +kernel
theorem d_M_setAny_16 : decode prog_14_method_8_code 16 = .ok (.aload_n 0, 1) := by decide +kernel
theorem d_M_setAny_17 : decode prog_14_method_8_code 17 = .ok (.getfield 110, 3) := by decide +kernel
theorem d_M_setAny_20 : decode prog_14_method_8_code 20 = .ok (.iload_n 1, 1) := by decide +kernel
theorem d_M_setAny_21 : decode prog_14_method_8_code 21 = .ok (.lconst 0, 1) := by decide +kernel
theorem d_M_setAny_22 : decode prog_14_method_8_code 22 = .ok (.lastore, 1) := by decide +kernel
theorem d_M_setAny_23 : decode prog_14_method_8_code 23 = .ok (.aload_n 0, 1) := by decide +kernel
theorem d_M_setAny_24 : decode prog_14_method_8_code 24 = .ok (.getfield 113, 3) := by decide +kernel
theorem d_M_setAny_27 : decode prog_14_method_8_code 27 = .ok (.iload_n 1, 1) := by decide +kernel
theorem d_M_setAny_28 : decode prog_14_method_8_code 28 = .ok (.ldc2_w 162, 3) := by decide +kernel
theorem d_M_setAny_31 : decode prog_14_method_8_code 31 = .ok (.lastore, 1) := by decide +kernel
theorem d_M_setAny_32 : decode prog_14_method_8_code 32 = .ok (.aload_n 0, 1) := by decide +kernel
theorem d_M_setAny_33 : decode prog_14_method_8_code 33 = .ok (.getfield 116, 3) := by decide +kernel
theorem d_M_setAny_36 : decode prog_14_method_8_code 36 = .ok (.iload_n 1, 1) := by decide +kernel
theorem d_M_setAny_37 : decode prog_14_method_8_code 37 = .ok (.ldc2_w 156, 3) := by decide +kernel
theorem d_M_setAny_40 : decode prog_14_method_8_code 40 = .ok (.lastore, 1) := by decide +kernel
theorem d_M_setAny_41 : decode prog_14_method_8_code 41 = .ok (.aload_n 0, 1) := by decide +kernel
theorem d_M_setAny_42 : decode prog_14_method_8_code 42 = .ok (.getfield 119, 3) := by decide +kernel
theorem d_M_setAny_45 : decode prog_14_method_8_code 45 = .ok (.iload_n 1, 1) := by decide +kernel
theorem d_M_setAny_46 : decode prog_14_method_8_code 46 = .ok (.ldc2_w 164, 3) := by decide +kernel
theorem u_2142 : Cond.constantLong "FilterGuardModel" 164 9223372036854775807 ∈ fg_g := fg_in (List.mem_of_getElem? (i := 2142) (by decide +kernel)) rfl
theorem d_M_setAny_49 : decode prog_14_method_8_code 49 = .ok (.lastore, 1) := by decide +kernel
theorem d_M_setAny_50 : decode prog_14_method_8_code 50 = .ok (.return_, 1) := by decide +kernel
abbrev y_M_setAny : MethodName := ⟨"FilterGuardModel", "setAny", "(I)V"⟩
def rm_M_setAny : Room := { frames := 1, cells := 0, slots := 0, locals := 20 }
abbrev q_M_setAny (D : va_G) (ad : Nat → Nat → Nat) (ca : Nat → ClassId) (N : Nat → Nat) (M0 MZ : me_M) (A : Nat → Prop) : Array Value → Jvm.State → Outcome → Jvm.State → Prop := va_Qv (fun (_ : Unit) => me_wf N MZ ∧ me_kp M0 MZ) (fg_B D A (fun _ => me_W ad ca MZ) (fun _ => [])) A
set_option maxHeartbeats 4000000 in
set_option maxRecDepth 100000 in
theorem c_M_setAny (l : Launch) (D : va_G) (ad : Nat → Nat → Nat) (ca : Nat → ClassId) (N : Nat → Nat) (M0 MZ : me_M) (j0 : Nat) (x1 : Int32) (h : f_M_setAny M0 j0 x1 = (some MZ)) (hwf : me_wf N M0) (hj0 : j0 < N 1) (sz : Nat) : Met l y_M_setAny (fg_w y_M_setAny prog_14_method_8_code 2 none) rm_M_setAny (va_Pc [.ref (ad 1 j0), .int x1] (fz_P D (me_T ca) (me_W ad ca M0) sz)) (q_M_setAny D ad ca N M0 MZ (va_A (me_W ad ca M0) sz)) rm_M_setAny.cells rm_M_setAny.slots (va_A (me_W ad ca M0) sz) := by
  refine fz_enter (fun A => q_M_setAny D ad ca N M0 MZ A) (by decide +kernel) (Nat.le_of_ble_eq_true rfl) ?_
  intro p e s m below meth c ls A hx hb hml hown hts hr hlocks hin hP hK hD hS hA hX hl hz
  have hl : lv_has ls 2 [(0, .ref (ad 1 j0)), (1, .int x1)] := hl
  unfold f_M_setAny at h
  have hkp : me_kp M0 M0 := me_kp.rf
  have hkb := hkp
  refine lv_aload_n hx hb d_M_setAny_0 rfl (lv_at hl 0 rfl) ?_
  refine g_M_52 hx hb hts hown hK hP hwf hj0 (hts _ u_1793) d_M_setAny_1 ?_
  obtain ⟨j1, e2, h⟩ := bd_ob h
  have hj1 : j1 < N 16 := (hwf.2.1 1 j0 52 _ e2 (by decide) hj0)
  refine me_opt (j := j1) e2 ?_
  refine lv_iload_n hx hb d_M_setAny_4 rfl (lv_at hl 1 rfl) ?_
  refine lv_lconst (v := 0) hx hb d_M_setAny_5 (by decide) ?_
  obtain ⟨g3, h⟩ := gd_ob h
  obtain ⟨M4, eM4, h⟩ := st_ob h
  refine me_last eM4 hx hb hK hP hD hwf hS hj1 g3 d_M_setAny_6 (fun H locs hP hD hwf hS => ?_)
  have hkp := kp_L eM4 hkp
  refine lv_aload_n hx hb d_M_setAny_7 rfl (lv_at hl 0 rfl) ?_
  refine g_M_53 hx hb hts hown hK hP hwf hj0 (hts _ u_1794) d_M_setAny_8 ?_
  obtain ⟨j5, e6, h⟩ := bd_ob h
  have hj5 : j5 < N 16 := (hwf.2.1 1 j0 53 _ (kp_r hkb hkp e6) (by decide) hj0)
  refine me_opt (j := j5) (kp_r hkb hkp e6) ?_
  refine lv_iload_n hx hb d_M_setAny_11 rfl (lv_at hl 1 rfl) ?_
  refine lv_ldc2 hx hb hown (hts _ u_2071) d_M_setAny_12 ?_
  obtain ⟨g7, h⟩ := gd_ob h
  obtain ⟨M8, eM8, h⟩ := st_ob h
  refine me_last eM8 hx hb hK hP hD hwf hS hj5 (kp_z hkb.z hkp.z g7) d_M_setAny_15 (fun H locs hP hD hwf hS => ?_)
  have hkp := kp_L eM8 hkp
  refine lv_aload_n hx hb d_M_setAny_16 rfl (lv_at hl 0 rfl) ?_
  refine g_M_54 hx hb hts hown hK hP hwf hj0 (hts _ u_1795) d_M_setAny_17 ?_
  obtain ⟨j9, e10, h⟩ := bd_ob h
  have hj9 : j9 < N 16 := (hwf.2.1 1 j0 54 _ (kp_r hkb hkp e10) (by decide) hj0)
  refine me_opt (j := j9) (kp_r hkb hkp e10) ?_
  refine lv_iload_n hx hb d_M_setAny_20 rfl (lv_at hl 1 rfl) ?_
  refine lv_lconst (v := 0) hx hb d_M_setAny_21 (by decide) ?_
  obtain ⟨g11, h⟩ := gd_ob h
  obtain ⟨M12, eM12, h⟩ := st_ob h
  refine me_last eM12 hx hb hK hP hD hwf hS hj9 (kp_z hkb.z hkp.z g11) d_M_setAny_22 (fun H locs hP hD hwf hS => ?_)
  have hkp := kp_L eM12 hkp
  refine lv_aload_n hx hb d_M_setAny_23 rfl (lv_at hl 0 rfl) ?_
  refine g_M_55 hx hb hts hown hK hP hwf hj0 (hts _ u_1796) d_M_setAny_24 ?_
  obtain ⟨j13, e14, h⟩ := bd_ob h
  have hj13 : j13 < N 16 := (hwf.2.1 1 j0 55 _ (kp_r hkb hkp e14) (by decide) hj0)
  refine me_opt (j := j13) (kp_r hkb hkp e14) ?_
  refine lv_iload_n hx hb d_M_setAny_27 rfl (lv_at hl 1 rfl) ?_
  refine lv_ldc2 hx hb hown (hts _ u_2071) d_M_setAny_28 ?_
  obtain ⟨g15, h⟩ := gd_ob h
  obtain ⟨M16, eM16, h⟩ := st_ob h
  refine me_last eM16 hx hb hK hP hD hwf hS hj13 (kp_z hkb.z hkp.z g15) d_M_setAny_31 (fun H locs hP hD hwf hS => ?_)
  have hkp := kp_L eM16 hkp
  refine lv_aload_n hx hb d_M_setAny_32 rfl (lv_at hl 0 rfl) ?_
  refine g_M_56 hx hb hts hown hK hP hwf hj0 (hts _ u_1797) d_M_setAny_33 ?_
  obtain ⟨j17, e18, h⟩ := bd_ob h
  have hj17 : j17 < N 16 := (hwf.2.1 1 j0 56 _ (kp_r hkb hkp e18) (by decide) hj0)
  refine me_opt (j := j17) (kp_r hkb hkp e18) ?_
  refine lv_iload_n hx hb d_M_setAny_36 rfl (lv_at hl 1 rfl) ?_
  refine lv_ldc2 hx hb hown (hts _ u_2075) d_M_setAny_37 ?_
  obtain ⟨g19, h⟩ := gd_ob h
  obtain ⟨M20, eM20, h⟩ := st_ob h
  refine me_last eM20 hx hb hK hP hD hwf hS hj17 (kp_z hkb.z hkp.z g19) d_M_setAny_40 (fun H locs hP hD hwf hS => ?_)
  have hkp := kp_L eM20 hkp
  refine lv_aload_n hx hb d_M_setAny_41 rfl (lv_at hl 0 rfl) ?_
  refine g_M_57 hx hb hts hown hK hP hwf hj0 (hts _ u_1798) d_M_setAny_42 ?_
  obtain ⟨j21, e22, h⟩ := bd_ob h
  have hj21 : j21 < N 16 := (hwf.2.1 1 j0 57 _ (kp_r hkb hkp e22) (by decide) hj0)
  refine me_opt (j := j21) (kp_r hkb hkp e22) ?_
  refine lv_iload_n hx hb d_M_setAny_45 rfl (lv_at hl 1 rfl) ?_
  refine lv_ldc2 hx hb hown (hts _ u_2142) d_M_setAny_46 ?_
  obtain ⟨g23, h⟩ := gd_ob h
  obtain ⟨M24, eM24, h⟩ := st_ob h
  refine me_last eM24 hx hb hK hP hD hwf hS hj21 (kp_z hkb.z hkp.z g23) d_M_setAny_49 (fun H locs hP hD hwf hS => ?_)
  have hkp := kp_L eM24 hkp
  exact me_retv (me_kp M0) h hx hb hr hlocks hwf hkp hP hK hD hS d_M_setAny_50
theorem d_M_setExact_0 : decode prog_14_method_9_code 0 = .ok (.aload_n 0, 1) := by decide +kernel
theorem d_M_setExact_1 : decode prog_14_method_9_code 1 = .ok (.getfield 104, 3) := by decide +kernel
theorem d_M_setExact_4 : decode prog_14_method_9_code 4 = .ok (.iload_n 1, 1) := by decide +kernel
theorem d_M_setExact_5 : decode prog_14_method_9_code 5 = .ok (.lload_n 2, 1) := by decide +kernel
theorem d_M_setExact_6 : decode prog_14_method_9_code 6 = .ok (.lastore, 1) := by decide +kernel
theorem d_M_setExact_7 : decode prog_14_method_9_code 7 = .ok (.aload_n 0, 1) := by decide +kernel
theorem d_M_setExact_8 : decode prog_14_method_9_code 8 = .ok (.getfield 107, 3) := by decide +kernel
theorem d_M_setExact_11 : decode prog_14_method_9_code 11 = .ok (.iload_n 1, 1) := by decide +kernel
theorem d_M_setExact_12 : decode prog_14_method_9_code 12 = .ok (.lconst 0, 1) := by decide +kernel
theorem d_M_setExact_13 : decode prog_14_method_9_code 13 = .ok (.lastore, 1) := by decide +kernel
theorem d_M_setExact_14 : decode prog_14_method_9_code 14 = .ok (.aload_n 0, 1) := by decide +kernel
theorem d_M_setExact_15 : decode prog_14_method_9_code 15 = .ok (.getfield 110, 3) := by decide +kernel
theorem d_M_setExact_18 : decode prog_14_method_9_code 18 = .ok (.iload_n 1, 1) := by decide +kernel
theorem d_M_setExact_19 : decode prog_14_method_9_code 19 = .ok (.lload_n 2, 1) := by decide +kernel
theorem d_M_setExact_20 : decode prog_14_method_9_code 20 = .ok (.lastore, 1) := by decide +kernel
theorem d_M_setExact_21 : decode prog_14_method_9_code 21 = .ok (.aload_n 0, 1) := by decide +kernel
theorem d_M_setExact_22 : decode prog_14_method_9_code 22 = .ok (.getfield 113, 3) := by decide +kernel
theorem d_M_setExact_25 : decode prog_14_method_9_code 25 = .ok (.iload_n 1, 1) := by decide +kernel
theorem d_M_setExact_26 : decode prog_14_method_9_code 26 = .ok (.lload_n 2, 1) := by decide +kernel
theorem d_M_setExact_27 : decode prog_14_method_9_code 27 = .ok (.lastore, 1) := by decide +kernel
theorem d_M_setExact_28 : decode prog_14_method_9_code 28 = .ok (.aload_n 0, 1) := by decide +kernel
theorem d_M_setExact_29 : decode prog_14_method_9_code 29 = .ok (.getfield 116, 3) := by decide +kernel
theorem d_M_setExact_32 : decode prog_14_method_9_code 32 = .ok (.iload_n 1, 1) := by decide +kernel
theorem d_M_setExact_33 : decode prog_14_method_9_code 33 = .ok (.lload_n 2, 1) := by decide +kernel
theorem d_M_setExact_34 : decode prog_14_method_9_code 34 = .ok (.lastore, 1) := by decide +kernel
theorem d_M_setExact_35 : decode prog_14_method_9_code 35 = .ok (.aload_n 0, 1) := by decide +kernel
theorem d_M_setExact_36 : decode prog_14_method_9_code 36 = .ok (.getfield 119, 3) := by decide +kernel
theorem d_M_setExact_39 : decode prog_14_method_9_code 39 = .ok (.iload_n 1, 1) := by decide +kernel
theorem d_M_setExact_40 : decode prog_14_method_9_code 40 = .ok (.lload_n 2, 1) := by decide +kernel
theorem d_M_setExact_41 : decode prog_14_method_9_code 41 = .ok (.lastore, 1) := by decide +kernel
theorem d_M_setExact_42 : decode prog_14_method_9_code 42 = .ok (.return_, 1) := by decide +kernel
abbrev y_M_setExact : MethodName := ⟨"FilterGuardModel", "setExact", "(IJ)V"⟩
def rm_M_setExact : Room := { frames := 1, cells := 0, slots := 0, locals := 20 }
abbrev q_M_setExact (D : va_G) (ad : Nat → Nat → Nat) (ca : Nat → ClassId) (N : Nat → Nat) (M0 MZ : me_M) (A : Nat → Prop) : Array Value → Jvm.State → Outcome → Jvm.State → Prop := va_Qv (fun (_ : Unit) => me_wf N MZ ∧ me_kp M0 MZ) (fg_B D A (fun _ => me_W ad ca MZ) (fun _ => [])) A
set_option maxHeartbeats 4000000 in
set_option maxRecDepth 100000 in
theorem c_M_setExact (l : Launch) (D : va_G) (ad : Nat → Nat → Nat) (ca : Nat → ClassId) (N : Nat → Nat) (M0 MZ : me_M) (j0 : Nat) (x1 : Int32) (x2 : Int64) (h : f_M_setExact M0 j0 x1 x2 = (some MZ)) (hwf : me_wf N M0) (hj0 : j0 < N 1) (sz : Nat) : Met l y_M_setExact (fg_w y_M_setExact prog_14_method_9_code 4 none) rm_M_setExact (va_Pc [.ref (ad 1 j0), .int x1, .long x2] (fz_P D (me_T ca) (me_W ad ca M0) sz)) (q_M_setExact D ad ca N M0 MZ (va_A (me_W ad ca M0) sz)) rm_M_setExact.cells rm_M_setExact.slots (va_A (me_W ad ca M0) sz) := by
  refine fz_enter (fun A => q_M_setExact D ad ca N M0 MZ A) (by decide +kernel) (Nat.le_of_ble_eq_true rfl) ?_
  intro p e s m below meth c ls A hx hb hml hown hts hr hlocks hin hP hK hD hS hA hX hl hz
  have hl : lv_has ls 4 [(0, .ref (ad 1 j0)), (1, .int x1), (2, .long x2)] := hl
  unfold f_M_setExact at h
  have hkp : me_kp M0 M0 := me_kp.rf
  have hkb := hkp
  refine lv_aload_n hx hb d_M_setExact_0 rfl (lv_at hl 0 rfl) ?_
  refine g_M_52 hx hb hts hown hK hP hwf hj0 (hts _ u_1793) d_M_setExact_1 ?_
  obtain ⟨j1, e2, h⟩ := bd_ob h
  have hj1 : j1 < N 16 := (hwf.2.1 1 j0 52 _ e2 (by decide) hj0)
  refine me_opt (j := j1) e2 ?_
  refine lv_iload_n hx hb d_M_setExact_4 rfl (lv_at hl 1 rfl) ?_
  refine lv_lload_n hx hb d_M_setExact_5 rfl (lv_at hl 2 rfl) ?_
  obtain ⟨g3, h⟩ := gd_ob h
  obtain ⟨M4, eM4, h⟩ := st_ob h
  refine me_last eM4 hx hb hK hP hD hwf hS hj1 g3 d_M_setExact_6 (fun H locs hP hD hwf hS => ?_)
  have hkp := kp_L eM4 hkp
  refine lv_aload_n hx hb d_M_setExact_7 rfl (lv_at hl 0 rfl) ?_
  refine g_M_53 hx hb hts hown hK hP hwf hj0 (hts _ u_1794) d_M_setExact_8 ?_
  obtain ⟨j5, e6, h⟩ := bd_ob h
  have hj5 : j5 < N 16 := (hwf.2.1 1 j0 53 _ (kp_r hkb hkp e6) (by decide) hj0)
  refine me_opt (j := j5) (kp_r hkb hkp e6) ?_
  refine lv_iload_n hx hb d_M_setExact_11 rfl (lv_at hl 1 rfl) ?_
  refine lv_lconst (v := 0) hx hb d_M_setExact_12 (by decide) ?_
  obtain ⟨g7, h⟩ := gd_ob h
  obtain ⟨M8, eM8, h⟩ := st_ob h
  refine me_last eM8 hx hb hK hP hD hwf hS hj5 (kp_z hkb.z hkp.z g7) d_M_setExact_13 (fun H locs hP hD hwf hS => ?_)
  have hkp := kp_L eM8 hkp
  refine lv_aload_n hx hb d_M_setExact_14 rfl (lv_at hl 0 rfl) ?_
  refine g_M_54 hx hb hts hown hK hP hwf hj0 (hts _ u_1795) d_M_setExact_15 ?_
  obtain ⟨j9, e10, h⟩ := bd_ob h
  have hj9 : j9 < N 16 := (hwf.2.1 1 j0 54 _ (kp_r hkb hkp e10) (by decide) hj0)
  refine me_opt (j := j9) (kp_r hkb hkp e10) ?_
  refine lv_iload_n hx hb d_M_setExact_18 rfl (lv_at hl 1 rfl) ?_
  refine lv_lload_n hx hb d_M_setExact_19 rfl (lv_at hl 2 rfl) ?_
  obtain ⟨g11, h⟩ := gd_ob h
  obtain ⟨M12, eM12, h⟩ := st_ob h
  refine me_last eM12 hx hb hK hP hD hwf hS hj9 (kp_z hkb.z hkp.z g11) d_M_setExact_20 (fun H locs hP hD hwf hS => ?_)
  have hkp := kp_L eM12 hkp
  refine lv_aload_n hx hb d_M_setExact_21 rfl (lv_at hl 0 rfl) ?_
  refine g_M_55 hx hb hts hown hK hP hwf hj0 (hts _ u_1796) d_M_setExact_22 ?_
  obtain ⟨j13, e14, h⟩ := bd_ob h
  have hj13 : j13 < N 16 := (hwf.2.1 1 j0 55 _ (kp_r hkb hkp e14) (by decide) hj0)
  refine me_opt (j := j13) (kp_r hkb hkp e14) ?_
  refine lv_iload_n hx hb d_M_setExact_25 rfl (lv_at hl 1 rfl) ?_
  refine lv_lload_n hx hb d_M_setExact_26 rfl (lv_at hl 2 rfl) ?_
  obtain ⟨g15, h⟩ := gd_ob h
  obtain ⟨M16, eM16, h⟩ := st_ob h
  refine me_last eM16 hx hb hK hP hD hwf hS hj13 (kp_z hkb.z hkp.z g15) d_M_setExact_27 (fun H locs hP hD hwf hS => ?_)
  have hkp := kp_L eM16 hkp
  refine lv_aload_n hx hb d_M_setExact_28 rfl (lv_at hl 0 rfl) ?_
  refine g_M_56 hx hb hts hown hK hP hwf hj0 (hts _ u_1797) d_M_setExact_29 ?_
  obtain ⟨j17, e18, h⟩ := bd_ob h
  have hj17 : j17 < N 16 := (hwf.2.1 1 j0 56 _ (kp_r hkb hkp e18) (by decide) hj0)
  refine me_opt (j := j17) (kp_r hkb hkp e18) ?_
  refine lv_iload_n hx hb d_M_setExact_32 rfl (lv_at hl 1 rfl) ?_
  refine lv_lload_n hx hb d_M_setExact_33 rfl (lv_at hl 2 rfl) ?_
  obtain ⟨g19, h⟩ := gd_ob h
  obtain ⟨M20, eM20, h⟩ := st_ob h
  refine me_last eM20 hx hb hK hP hD hwf hS hj17 (kp_z hkb.z hkp.z g19) d_M_setExact_34 (fun H locs hP hD hwf hS => ?_)
  have hkp := kp_L eM20 hkp
  refine lv_aload_n hx hb d_M_setExact_35 rfl (lv_at hl 0 rfl) ?_
  refine g_M_57 hx hb hts hown hK hP hwf hj0 (hts _ u_1798) d_M_setExact_36 ?_
  obtain ⟨j21, e22, h⟩ := bd_ob h
  have hj21 : j21 < N 16 := (hwf.2.1 1 j0 57 _ (kp_r hkb hkp e22) (by decide) hj0)
  refine me_opt (j := j21) (kp_r hkb hkp e22) ?_
  refine lv_iload_n hx hb d_M_setExact_39 rfl (lv_at hl 1 rfl) ?_
  refine lv_lload_n hx hb d_M_setExact_40 rfl (lv_at hl 2 rfl) ?_
  obtain ⟨g23, h⟩ := gd_ob h
  obtain ⟨M24, eM24, h⟩ := st_ob h
  refine me_last eM24 hx hb hK hP hD hwf hS hj21 (kp_z hkb.z hkp.z g23) d_M_setExact_41 (fun H locs hP hD hwf hS => ?_)
  have hkp := kp_L eM24 hkp
  exact me_retv (me_kp M0) h hx hb hr hlocks hwf hkp hP hK hD hS d_M_setExact_42
theorem d_M_isExact_0 : decode prog_14_method_10_code 0 = .ok (.aload_n 0, 1) := by decide +kernel
theorem d_M_isExact_1 : decode prog_14_method_10_code 1 = .ok (.getfield 107, 3) := by decide +kernel
theorem d_M_isExact_4 : decode prog_14_method_10_code 4 = .ok (.iload_n 1, 1) := by decide +kernel
theorem d_M_isExact_5 : decode prog_14_method_10_code 5 = .ok (.laload, 1) := by decide +kernel
theorem d_M_isExact_6 : decode prog_14_method_10_code 6 = .ok (.lconst 0, 1) := by decide +kernel
theorem d_M_isExact_7 : decode prog_14_method_10_code 7 = .ok (.lcmp, 1) := by decide +kernel
theorem d_M_isExact_8 : decode prog_14_method_10_code 8 = .ok (.ifCond .ne 7, 3) := by decide +kernel
theorem d_M_isExact_15 : decode prog_14_method_10_code 15 = .ok (.iconst 0, 1) := by decide +kernel
theorem d_M_isExact_16 : decode prog_14_method_10_code 16 = .ok (.ireturn, 1) := by decide +kernel
theorem d_M_isExact_11 : decode prog_14_method_10_code 11 = .ok (.iconst 1, 1) := by decide +kernel
theorem d_M_isExact_12 : decode prog_14_method_10_code 12 = .ok (.goto 4, 3) := by decide +kernel
abbrev y_M_isExact : MethodName := ⟨"FilterGuardModel", "isExact", "(I)Z"⟩
def rm_M_isExact : Room := { frames := 1, cells := 0, slots := 0, locals := 20 }
abbrev q_M_isExact (D : va_G) (ad : Nat → Nat → Nat) (ca : Nat → ClassId) (N : Nat → Nat) (M0 MZ : me_M) (RZ : Int32) (A : Nat → Prop) : Array Value → Jvm.State → Outcome → Jvm.State → Prop := va_Qi (fun r (_ : Unit) => r = RZ ∧ me_wf N MZ ∧ me_kp M0 MZ ∧ (RZ = 1 ∨ RZ = 0)) (fg_B D A (fun _ => me_W ad ca MZ) (fun _ => [])) A
set_option maxHeartbeats 4000000 in
set_option maxRecDepth 100000 in
theorem c_M_isExact (l : Launch) (D : va_G) (ad : Nat → Nat → Nat) (ca : Nat → ClassId) (N : Nat → Nat) (M0 MZ : me_M) (RZ : Int32) (j0 : Nat) (x1 : Int32) (h : f_M_isExact M0 j0 x1 = (some (MZ, RZ))) (hwf : me_wf N M0) (hj0 : j0 < N 1) (sz : Nat) : Met l y_M_isExact (fg_w y_M_isExact prog_14_method_10_code 2 (some .boolean)) rm_M_isExact (va_Pc [.ref (ad 1 j0), .int x1] (fz_P D (me_T ca) (me_W ad ca M0) sz)) (q_M_isExact D ad ca N M0 MZ RZ (va_A (me_W ad ca M0) sz)) rm_M_isExact.cells rm_M_isExact.slots (va_A (me_W ad ca M0) sz) := by
  refine fz_enter (fun A => q_M_isExact D ad ca N M0 MZ RZ A) (by decide +kernel) (Nat.le_of_ble_eq_true rfl) ?_
  intro p e s m below meth c ls A hx hb hml hown hts hr hlocks hin hP hK hD hS hA hX hl hz
  have hl : lv_has ls 2 [(0, .ref (ad 1 j0)), (1, .int x1)] := hl
  unfold f_M_isExact at h
  have hkp : me_kp M0 M0 := me_kp.rf
  have hkb := hkp
  refine lv_aload_n hx hb d_M_isExact_0 rfl (lv_at hl 0 rfl) ?_
  refine g_M_53 hx hb hts hown hK hP hwf hj0 (hts _ u_1794) d_M_isExact_1 ?_
  obtain ⟨j1, e2, h⟩ := bd_ob h
  have hj1 : j1 < N 16 := (hwf.2.1 1 j0 53 _ e2 (by decide) hj0)
  refine me_opt (j := j1) e2 ?_
  refine lv_iload_n hx hb d_M_isExact_4 rfl (lv_at hl 1 rfl) ?_
  obtain ⟨g3, h⟩ := gd_ob h
  refine me_lald hx hb hK hP hwf hj1 g3 d_M_isExact_5 ?_
  refine lv_lconst (v := 0) hx hb d_M_isExact_6 (by decide) ?_
  refine W.lcmp hx hb d_M_isExact_7 ?_
  refine lv_if_ne (tgt := 15) hx hb d_M_isExact_8 (by decide) (fun c4 => ?_) (fun c4 => ?_)
  · have h := if_f (fun z => c4 ((lg_cmp_eq _ _).mpr z)) h
    refine lv_iconst (v := 0) hx hb d_M_isExact_15 (by decide) ?_
    exact me_retz (me_kp M0) h (by decide) hx hb hr hlocks hwf hkp hP hK hD hS d_M_isExact_16
  have h := if_t ((lg_cmp_eq _ _).mp c4) h
  refine lv_iconst (v := 1) hx hb d_M_isExact_11 (by decide) ?_
  refine lv_goto (tgt := 16) hx hb d_M_isExact_12 (by decide) ?_
  exact me_retz (me_kp M0) h (by decide) hx hb hr hlocks hwf hkp hP hK hD hS d_M_isExact_16
theorem d_M_isEmpty_0 : decode prog_14_method_11_code 0 = .ok (.aload_n 0, 1) := by decide +kernel
theorem d_M_isEmpty_1 : decode prog_14_method_11_code 1 = .ok (.getfield 113, 3) := by decide +kernel
theorem d_M_isEmpty_4 : decode prog_14_method_11_code 4 = .ok (.iload_n 1, 1) := by decide +kernel
theorem d_M_isEmpty_5 : decode prog_14_method_11_code 5 = .ok (.laload, 1) := by decide +kernel
theorem d_M_isEmpty_6 : decode prog_14_method_11_code 6 = .ok (.aload_n 0, 1) := by decide +kernel
theorem d_M_isEmpty_7 : decode prog_14_method_11_code 7 = .ok (.getfield 110, 3) := by decide +kernel
theorem d_M_isEmpty_10 : decode prog_14_method_11_code 10 = .ok (.iload_n 1, 1) := by decide +kernel
theorem d_M_isEmpty_11 : decode prog_14_method_11_code 11 = .ok (.laload, 1) := by decide +kernel
theorem d_M_isEmpty_12 : decode prog_14_method_11_code 12 = .ok (.invokestatic 158, 3) := by decide +kernel
theorem d_M_isEmpty_15 : decode prog_14_method_11_code 15 = .ok (.ifCond .ne 19, 3) := by decide +kernel
theorem d_M_isEmpty_34 : decode prog_14_method_11_code 34 = .ok (.iconst 1, 1) := by decide +kernel
theorem d_M_isEmpty_35 : decode prog_14_method_11_code 35 = .ok (.goto 4, 3) := by decide +kernel
theorem d_M_isEmpty_39 : decode prog_14_method_11_code 39 = .ok (.ireturn, 1) := by decide +kernel
theorem d_M_isEmpty_18 : decode prog_14_method_11_code 18 = .ok (.aload_n 0, 1) := by decide +kernel
theorem d_M_isEmpty_19 : decode prog_14_method_11_code 19 = .ok (.getfield 116, 3) := by decide +kernel
theorem d_M_isEmpty_22 : decode prog_14_method_11_code 22 = .ok (.iload_n 1, 1) := by decide +kernel
theorem d_M_isEmpty_23 : decode prog_14_method_11_code 23 = .ok (.laload, 1) := by decide +kernel
theorem d_M_isEmpty_24 : decode prog_14_method_11_code 24 = .ok (.aload_n 0, 1) := by decide +kernel
theorem d_M_isEmpty_25 : decode prog_14_method_11_code 25 = .ok (.getfield 119, 3) := by decide +kernel
theorem d_M_isEmpty_28 : decode prog_14_method_11_code 28 = .ok (.iload_n 1, 1) := by decide +kernel
theorem d_M_isEmpty_29 : decode prog_14_method_11_code 29 = .ok (.laload, 1) := by decide +kernel
theorem d_M_isEmpty_30 : decode prog_14_method_11_code 30 = .ok (.lcmp, 1) := by decide +kernel
theorem d_M_isEmpty_31 : decode prog_14_method_11_code 31 = .ok (.ifCond .le 7, 3) := by decide +kernel
theorem d_M_isEmpty_38 : decode prog_14_method_11_code 38 = .ok (.iconst 0, 1) := by decide +kernel
abbrev y_M_isEmpty : MethodName := ⟨"FilterGuardModel", "isEmpty", "(I)Z"⟩
def rm_M_isEmpty : Room := { frames := 2, cells := 0, slots := 0, locals := 43 }
abbrev q_M_isEmpty (D : va_G) (ad : Nat → Nat → Nat) (ca : Nat → ClassId) (N : Nat → Nat) (M0 MZ : me_M) (RZ : Int32) (A : Nat → Prop) : Array Value → Jvm.State → Outcome → Jvm.State → Prop := va_Qi (fun r (_ : Unit) => r = RZ ∧ me_wf N MZ ∧ me_kp M0 MZ ∧ (RZ = 1 ∨ RZ = 0)) (fg_B D A (fun _ => me_W ad ca MZ) (fun _ => [])) A
set_option maxHeartbeats 4000000 in
set_option maxRecDepth 100000 in
theorem c_M_isEmpty (l : Launch) (D : va_G) (ad : Nat → Nat → Nat) (ca : Nat → ClassId) (N : Nat → Nat) (M0 MZ : me_M) (RZ : Int32) (j0 : Nat) (x1 : Int32) (h : f_M_isEmpty M0 j0 x1 = (some (MZ, RZ))) (hwf : me_wf N M0) (hj0 : j0 < N 1) (sz : Nat) : Met l y_M_isEmpty (fg_w y_M_isEmpty prog_14_method_11_code 2 (some .boolean)) rm_M_isEmpty (va_Pc [.ref (ad 1 j0), .int x1] (fz_P D (me_T ca) (me_W ad ca M0) sz)) (q_M_isEmpty D ad ca N M0 MZ RZ (va_A (me_W ad ca M0) sz)) rm_M_isEmpty.cells rm_M_isEmpty.slots (va_A (me_W ad ca M0) sz) := by
  refine fz_enter (fun A => q_M_isEmpty D ad ca N M0 MZ RZ A) (by decide +kernel) (Nat.le_of_ble_eq_true rfl) ?_
  intro p e s m below meth c ls A hx hb hml hown hts hr hlocks hin hP hK hD hS hA hX hl hz
  have hl : lv_has ls 2 [(0, .ref (ad 1 j0)), (1, .int x1)] := hl
  unfold f_M_isEmpty at h
  have hkp : me_kp M0 M0 := me_kp.rf
  have hkb := hkp
  refine lv_aload_n hx hb d_M_isEmpty_0 rfl (lv_at hl 0 rfl) ?_
  refine g_M_55 hx hb hts hown hK hP hwf hj0 (hts _ u_1796) d_M_isEmpty_1 ?_
  obtain ⟨j1, e2, h⟩ := bd_ob h
  have hj1 : j1 < N 16 := (hwf.2.1 1 j0 55 _ e2 (by decide) hj0)
  refine me_opt (j := j1) e2 ?_
  refine lv_iload_n hx hb d_M_isEmpty_4 rfl (lv_at hl 1 rfl) ?_
  obtain ⟨g3, h⟩ := gd_ob h
  refine me_lald hx hb hK hP hwf hj1 g3 d_M_isEmpty_5 ?_
  refine lv_aload_n hx hb d_M_isEmpty_6 rfl (lv_at hl 0 rfl) ?_
  refine g_M_54 hx hb hts hown hK hP hwf hj0 (hts _ u_1795) d_M_isEmpty_7 ?_
  obtain ⟨j4, e5, h⟩ := bd_ob h
  have hj4 : j4 < N 16 := (hwf.2.1 1 j0 54 _ e5 (by decide) hj0)
  refine me_opt (j := j4) e5 ?_
  refine lv_iload_n hx hb d_M_isEmpty_10 rfl (lv_at hl 1 rfl) ?_
  obtain ⟨g6, h⟩ := gd_ob h
  refine me_lald hx hb hK hP hwf hj4 g6 d_M_isEmpty_11 ?_
  obtain ⟨r7, er7, h⟩ := bd_ob h
  refine me_pani' (r0 := r7) (fg_runS (wc := []) (tc := []) (A2 := A) (As := [.long (mL M0 16 j1 x1.toNatClampNeg), .long (mL M0 16 j4 x1.toNatClampNeg)]) (rest := []) ⟨hx, hb, hml, hown, hts⟩ (c_M_below l D r7 (mL M0 16 j1 x1.toNatClampNeg) (mL M0 16 j4 x1.toNatClampNeg) er7 _) (by show fg_nm y_M_below 2; decide +kernel) u_2072 u_2073 u_192 u_2074 ⟨Nat.le_of_ble_eq_true rfl, Nat.le_of_ble_eq_true rfl⟩ hX me_P0 (hK.sub (tys' := []) [] rfl) me_D0 rfl hl.1 (Nat.le_of_ble_eq_true rfl) d_M_isEmpty_12 ⟨Nat.le_of_ble_eq_true rfl, Nat.le_of_ble_eq_true rfl⟩) hP hD hK hS hA rfl rfl (fun H locs hw hP hD hS => ?_)
  have zr7 := hw
  refine lv_if_ne (tgt := 34) hx hb d_M_isEmpty_15 (by decide) (fun c8 => ?_) (fun c8 => ?_)
  · have h := if_f c8 h
    refine lv_iconst (v := 1) hx hb d_M_isEmpty_34 (by decide) ?_
    refine lv_goto (tgt := 39) hx hb d_M_isEmpty_35 (by decide) ?_
    exact me_retz (me_kp M0) h (by decide) hx hb hr hlocks hwf hkp hP hK hD hS d_M_isEmpty_39
  have h := if_t c8 h
  refine lv_aload_n hx hb d_M_isEmpty_18 rfl (lv_at hl 0 rfl) ?_
  refine g_M_56 hx hb hts hown hK hP hwf hj0 (hts _ u_1797) d_M_isEmpty_19 ?_
  obtain ⟨j9, e10, h⟩ := bd_ob h
  have hj9 : j9 < N 16 := (hwf.2.1 1 j0 56 _ e10 (by decide) hj0)
  refine me_opt (j := j9) e10 ?_
  refine lv_iload_n hx hb d_M_isEmpty_22 rfl (lv_at hl 1 rfl) ?_
  obtain ⟨g11, h⟩ := gd_ob h
  refine me_lald hx hb hK hP hwf hj9 g11 d_M_isEmpty_23 ?_
  refine lv_aload_n hx hb d_M_isEmpty_24 rfl (lv_at hl 0 rfl) ?_
  refine g_M_57 hx hb hts hown hK hP hwf hj0 (hts _ u_1798) d_M_isEmpty_25 ?_
  obtain ⟨j12, e13, h⟩ := bd_ob h
  have hj12 : j12 < N 16 := (hwf.2.1 1 j0 57 _ e13 (by decide) hj0)
  refine me_opt (j := j12) e13 ?_
  refine lv_iload_n hx hb d_M_isEmpty_28 rfl (lv_at hl 1 rfl) ?_
  obtain ⟨g14, h⟩ := gd_ob h
  refine me_lald hx hb hK hP hwf hj12 g14 d_M_isEmpty_29 ?_
  refine W.lcmp hx hb d_M_isEmpty_30 ?_
  refine lv_if_le (tgt := 38) hx hb d_M_isEmpty_31 (by decide) (fun c15 => ?_) (fun c15 => ?_)
  · have h := if_f (Int64.not_lt.mpr ((lg_cmp_le _ _).mp c15)) h
    refine lv_iconst (v := 0) hx hb d_M_isEmpty_38 (by decide) ?_
    exact me_retz (me_kp M0) h (by decide) hx hb hr hlocks hwf hkp hP hK hD hS d_M_isEmpty_39
  have h := if_t (Int64.not_le.mp (fun z => c15 ((lg_cmp_le _ _).mpr z))) h
  refine lv_iconst (v := 1) hx hb d_M_isEmpty_34 (by decide) ?_
  refine lv_goto (tgt := 39) hx hb d_M_isEmpty_35 (by decide) ?_
  exact me_retz (me_kp M0) h (by decide) hx hb hr hlocks hwf hkp hP hK hD hS d_M_isEmpty_39
theorem d_M_places_12 : decode prog_14_method_12_code 12 = .ok (.iload 8, 2) := by decide +kernel
theorem d_M_places_14 : decode prog_14_method_12_code 14 = .ok (.ifCond .lt 42, 3) := by decide +kernel
theorem d_M_places_56 : decode prog_14_method_12_code 56 = .ok (.lload 6, 2) := by decide +kernel
theorem d_M_places_58 : decode prog_14_method_12_code 58 = .ok (.lreturn, 1) := by decide +kernel
theorem d_M_places_17 : decode prog_14_method_12_code 17 = .ok (.lload 6, 2) := by decide +kernel
theorem d_M_places_19 : decode prog_14_method_12_code 19 = .ok (.lconst 0, 1) := by decide +kernel
theorem d_M_places_20 : decode prog_14_method_12_code 20 = .ok (.lcmp, 1) := by decide +kernel
theorem d_M_places_21 : decode prog_14_method_12_code 21 = .ok (.ifCond .ne 15, 3) := by decide +kernel
theorem d_M_places_36 : decode prog_14_method_12_code 36 = .ok (.lload 6, 2) := by decide +kernel
theorem d_M_places_38 : decode prog_14_method_12_code 38 = .ok (.lconst 1, 1) := by decide +kernel
theorem d_M_places_39 : decode prog_14_method_12_code 39 = .ok (.iload 8, 2) := by decide +kernel
theorem d_M_places_41 : decode prog_14_method_12_code 41 = .ok (.lshl, 1) := by decide +kernel
theorem d_M_places_42 : decode prog_14_method_12_code 42 = .ok (.lor, 1) := by decide +kernel
theorem d_M_places_43 : decode prog_14_method_12_code 43 = .ok (.goto 5, 3) := by decide +kernel
theorem d_M_places_48 : decode prog_14_method_12_code 48 = .ok (.lstore 6, 2) := by decide +kernel
theorem d_M_places_50 : decode prog_14_method_12_code 50 = .ok (.iinc 8 (-1), 3) := by decide +kernel
theorem d_M_places_53 : decode prog_14_method_12_code 53 = .ok (.goto (-41), 3) := by decide +kernel
theorem d_M_places_24 : decode prog_14_method_12_code 24 = .ok (.lload 4, 2) := by decide +kernel
theorem d_M_places_26 : decode prog_14_method_12_code 26 = .ok (.iload 8, 2) := by decide +kernel
theorem d_M_places_28 : decode prog_14_method_12_code 28 = .ok (.lshr, 1) := by decide +kernel
theorem d_M_places_29 : decode prog_14_method_12_code 29 = .ok (.lconst 1, 1) := by decide +kernel
theorem d_M_places_30 : decode prog_14_method_12_code 30 = .ok (.land, 1) := by decide +kernel
theorem d_M_places_31 : decode prog_14_method_12_code 31 = .ok (.lconst 1, 1) := by decide +kernel
theorem d_M_places_32 : decode prog_14_method_12_code 32 = .ok (.lcmp, 1) := by decide +kernel
theorem d_M_places_33 : decode prog_14_method_12_code 33 = .ok (.ifCond .ne 13, 3) := by decide +kernel
theorem d_M_places_46 : decode prog_14_method_12_code 46 = .ok (.lload 6, 2) := by decide +kernel
theorem d_M_places_0 : decode prog_14_method_12_code 0 = .ok (.lload_n 0, 1) := by decide +kernel
theorem d_M_places_1 : decode prog_14_method_12_code 1 = .ok (.lload_n 2, 1) := by decide +kernel
theorem d_M_places_2 : decode prog_14_method_12_code 2 = .ok (.lxor, 1) := by decide +kernel
theorem d_M_places_3 : decode prog_14_method_12_code 3 = .ok (.lstore 4, 2) := by decide +kernel
theorem d_M_places_5 : decode prog_14_method_12_code 5 = .ok (.lconst 0, 1) := by decide +kernel
theorem d_M_places_6 : decode prog_14_method_12_code 6 = .ok (.lstore 6, 2) := by decide +kernel
theorem d_M_places_8 : decode prog_14_method_12_code 8 = .ok (.bipush 63, 2) := by decide +kernel
theorem d_M_places_10 : decode prog_14_method_12_code 10 = .ok (.istore 8, 2) := by decide +kernel
abbrev y_M_places : MethodName := ⟨"FilterGuardModel", "places", "(JJ)J"⟩
def rm_M_places : Room := { frames := 1, cells := 0, slots := 0, locals := 20 }
abbrev q_M_places (D : va_G) (RZ : Int64) (A : Nat → Prop) : Array Value → Jvm.State → Outcome → Jvm.State → Prop := va_Ql (fun r (_ : Unit) => r = RZ ∧ True) (fg_B D A (fun _ => []) (fun _ => [])) A
set_option maxHeartbeats 4000000 in
set_option maxRecDepth 100000 in
theorem c_M_places (l : Launch) (D : va_G) (RZ : Int64) (x0 : Int64) (x2 : Int64) (h : f_M_places x0 x2 = (some RZ)) (sz : Nat) : Met l y_M_places (fg_w y_M_places prog_14_method_12_code 9 (some .long)) rm_M_places (va_Pc [.long x0, .long x2] (fg_P D [] [] sz)) (q_M_places D RZ (va_A [] sz)) rm_M_places.cells rm_M_places.slots (va_A [] sz) := by
  refine fg_enter (fun A => q_M_places D RZ A) (by decide +kernel) (Nat.le_of_ble_eq_true rfl) ?_
  intro p e s m below meth c ls A hx hb hml hown hts hr hlocks hin hP hK hD hS hA hX hl
  have hl : lv_has ls 9 [(0, .long x0), (2, .long x2)] := hl
  unfold f_M_places at h
  have b_12 : ∀ (fu : Nat), ∀ (y4 : Int64) (y6 : Int64) (y8 : Int32) (H : Heap) (locs : List Loc) (ls : Array Slot), f_M_places_l12 fu y4 y6 y8 = (some RZ) → va_S A s.heap H locs → lv_has ls 9 [(4, .long y4), (6, .long y6), (8, .int y8)] → W p l e rm_M_places s m [.long x0, .long x2].toArray below meth c H locs 0 0 (MQ below (q_M_places D RZ A) [.long x0, .long x2].toArray s rm_M_places.cells rm_M_places.slots A) (F0 m 12 ls []) := by
    intro fu
    induction fu with
    | zero =>
      intro y4 y6 y8 H locs ls h hS hl
      cases h
    | succ fu ih =>
      intro y4 y6 y8 H locs ls h hS hl
      unfold f_M_places_l12 at h
      refine lv_iload hx hb d_M_places_12 (lv_at hl 2 rfl) ?_
      refine lv_if_lt (tgt := 56) hx hb d_M_places_14 (by decide) (fun c1 => ?_) (fun c1 => ?_)
      · have h := if_t c1 h
        refine lv_lload hx hb d_M_places_56 (lv_at hl 1 rfl) ?_
        exact me_pretl h hx hb hr hlocks hK hS d_M_places_58
      have h := if_f c1 h
      refine lv_lload hx hb d_M_places_17 (lv_at hl 1 rfl) ?_
      refine lv_lconst (v := 0) hx hb d_M_places_19 (by decide) ?_
      refine W.lcmp hx hb d_M_places_20 ?_
      refine lv_if_ne (tgt := 36) hx hb d_M_places_21 (by decide) (fun c2 => ?_) (fun c2 => ?_)
      · have h := if_f (fun z => c2 ((lg_cmp_eq _ _).mpr z)) h
        refine lv_lload hx hb d_M_places_36 (lv_at hl 1 rfl) ?_
        refine lv_lconst (v := 1) hx hb d_M_places_38 (by decide) ?_
        refine lv_iload hx hb d_M_places_39 (lv_at hl 2 rfl) ?_
        refine lv_lshl (v := jlshl (1 : Int64) y8) hx hb d_M_places_41 rfl ?_
        refine lv_lor hx hb d_M_places_42 ?_
        refine lv_goto (tgt := 48) hx hb d_M_places_43 (by decide) ?_
        obtain ⟨v3, ev3, h⟩ := st_ob h
        refine fg_topl (y := v3) ev3.symm ?_
        refine lv_lstore (lv' := [(6, .long v3), (4, .long y4), (8, .int y8)]) hx hb d_M_places_48 hl (by decide) rfl (fun ls hl => ?_)
        refine lv_iinc (v := y8 + (-1)) (lv' := [(8, .int (y8 + (-1))), (6, .long v3), (4, .long y4)]) hx hb d_M_places_50 hl (k := 2) rfl (by rfl) (by decide) rfl (fun ls hl => ?_)
        refine lv_goto (tgt := 12) hx hb d_M_places_53 (by decide) ?_
        exact ih y4 v3 (y8 + (-1)) _ _ _ h hS (lv_sub hl [2, 1, 0] rfl)
      have h := if_t ((lg_cmp_eq _ _).mp c2) h
      refine lv_lload hx hb d_M_places_24 (lv_at hl 0 rfl) ?_
      refine lv_iload hx hb d_M_places_26 (lv_at hl 2 rfl) ?_
      refine lv_lshr (v := jlshr y4 y8) hx hb d_M_places_28 rfl ?_
      refine lv_lconst (v := 1) hx hb d_M_places_29 (by decide) ?_
      refine lv_land hx hb d_M_places_30 ?_
      refine lv_lconst (v := 1) hx hb d_M_places_31 (by decide) ?_
      refine W.lcmp hx hb d_M_places_32 ?_
      refine lv_if_ne (tgt := 46) hx hb d_M_places_33 (by decide) (fun c4 => ?_) (fun c4 => ?_)
      · have h := if_f (fun z => c4 ((lg_cmp_eq _ _).mpr z)) h
        refine lv_lload hx hb d_M_places_46 (lv_at hl 1 rfl) ?_
        refine lv_lstore (lv' := [(6, .long y6), (4, .long y4), (8, .int y8)]) hx hb d_M_places_48 hl (by decide) rfl (fun ls hl => ?_)
        refine lv_iinc (v := y8 + (-1)) (lv' := [(8, .int (y8 + (-1))), (6, .long y6), (4, .long y4)]) hx hb d_M_places_50 hl (k := 2) rfl (by rfl) (by decide) rfl (fun ls hl => ?_)
        refine lv_goto (tgt := 12) hx hb d_M_places_53 (by decide) ?_
        exact ih y4 y6 (y8 + (-1)) _ _ _ h hS (lv_sub hl [2, 1, 0] rfl)
      have h := if_t ((lg_cmp_eq _ _).mp c4) h
      refine lv_lload hx hb d_M_places_36 (lv_at hl 1 rfl) ?_
      refine lv_lconst (v := 1) hx hb d_M_places_38 (by decide) ?_
      refine lv_iload hx hb d_M_places_39 (lv_at hl 2 rfl) ?_
      refine lv_lshl (v := jlshl (1 : Int64) y8) hx hb d_M_places_41 rfl ?_
      refine lv_lor hx hb d_M_places_42 ?_
      refine lv_goto (tgt := 48) hx hb d_M_places_43 (by decide) ?_
      obtain ⟨v5, ev5, h⟩ := st_ob h
      refine fg_topl (y := v5) ev5.symm ?_
      refine lv_lstore (lv' := [(6, .long v5), (4, .long y4), (8, .int y8)]) hx hb d_M_places_48 hl (by decide) rfl (fun ls hl => ?_)
      refine lv_iinc (v := y8 + (-1)) (lv' := [(8, .int (y8 + (-1))), (6, .long v5), (4, .long y4)]) hx hb d_M_places_50 hl (k := 2) rfl (by rfl) (by decide) rfl (fun ls hl => ?_)
      refine lv_goto (tgt := 12) hx hb d_M_places_53 (by decide) ?_
      exact ih y4 v5 (y8 + (-1)) _ _ _ h hS (lv_sub hl [2, 1, 0] rfl)
  refine lv_lload_n hx hb d_M_places_0 rfl (lv_at hl 0 rfl) ?_
  refine lv_lload_n hx hb d_M_places_1 rfl (lv_at hl 1 rfl) ?_
  refine lv_lxor hx hb d_M_places_2 ?_
  obtain ⟨v6, ev6, h⟩ := st_ob h
  refine fg_topl (y := v6) ev6.symm ?_
  refine lv_lstore (lv' := [(4, .long v6), (0, .long x0), (2, .long x2)]) hx hb d_M_places_3 hl (by decide) rfl (fun ls hl => ?_)
  refine lv_lconst (v := 0) hx hb d_M_places_5 (by decide) ?_
  refine lv_lstore (lv' := [(6, .long 0), (4, .long v6), (0, .long x0), (2, .long x2)]) hx hb d_M_places_6 hl (by decide) rfl (fun ls hl => ?_)
  refine lv_bipush (v := 63) hx hb d_M_places_8 (by decide) ?_
  refine lv_istore (lv' := [(8, .int 63), (6, .long 0), (4, .long v6), (0, .long x0), (2, .long x2)]) hx hb d_M_places_10 hl (by decide) rfl (fun ls hl => ?_)
  exact b_12 _ v6 (0 : Int64) (63 : Int32) _ _ _ h hS (lv_sub hl [2, 1, 0] rfl)
