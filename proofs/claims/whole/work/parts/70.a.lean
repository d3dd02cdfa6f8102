theorem d_M_below_0 : decode prog_14_method_4_code 0 = .ok (.lload_n 0, 1) := by decide +kernel
theorem d_M_below_1 : decode prog_14_method_4_code 1 = .ok (.ldc2_w 156, 3) := by decide +kernel
theorem u_2075 : Cond.constantLong "FilterGuardModel" 156 (-9223372036854775808) ∈ fg_g := fg_in (List.mem_of_getElem? (i := 2075) (by decide +kernel)) rfl
theorem d_M_below_4 : decode prog_14_method_4_code 4 = .ok (.ladd, 1) := by decide +kernel
theorem d_M_below_5 : decode prog_14_method_4_code 5 = .ok (.lload_n 2, 1) := by decide +kernel
theorem d_M_below_6 : decode prog_14_method_4_code 6 = .ok (.ldc2_w 156, 3) := by decide +kernel
theorem d_M_below_9 : decode prog_14_method_4_code 9 = .ok (.ladd, 1) := by decide +kernel
theorem d_M_below_10 : decode prog_14_method_4_code 10 = .ok (.lcmp, 1) := by decide +kernel
theorem d_M_below_11 : decode prog_14_method_4_code 11 = .ok (.ifCond .ge 7, 3) := by decide +kernel
theorem d_M_below_18 : decode prog_14_method_4_code 18 = .ok (.iconst 0, 1) := by decide +kernel
theorem d_M_below_19 : decode prog_14_method_4_code 19 = .ok (.ireturn, 1) := by decide +kernel
theorem d_M_below_14 : decode prog_14_method_4_code 14 = .ok (.iconst 1, 1) := by decide +kernel
theorem d_M_below_15 : decode prog_14_method_4_code 15 = .ok (.goto 4, 3) := by decide +kernel
abbrev y_M_below : MethodName := ⟨"FilterGuardModel", "below", "(JJ)Z"⟩
def f_M_below (x0 : Int64) (x2 : Int64) : Option Int32 := (if (x0 + (-9223372036854775808)) < (x2 + (-9223372036854775808)) then some (1 : Int32) else some (0 : Int32))
def rm_M_below : Room := { frames := 1, cells := 0, slots := 0, locals := 20 }
abbrev q_M_below (D : va_G) (r9 : Int32) (A : Nat → Prop) : Array Value → Jvm.State → Outcome → Jvm.State → Prop := va_Qi (fun r (_ : Unit) => r = r9 ∧ (r9 = 1 ∨ r9 = 0)) (fg_B D A (fun _ => []) (fun _ => [])) A
set_option maxHeartbeats 4000000 in
set_option maxRecDepth 100000 in
theorem c_M_below (l : Launch) (D : va_G) (r9 : Int32) (x0 : Int64) (x2 : Int64) (h : f_M_below x0 x2 = (some r9)) (sz : Nat) : Met l y_M_below (fg_w y_M_below prog_14_method_4_code 4 (some .boolean)) rm_M_below (va_Pc [.long x0, .long x2] (fg_P D [] [] sz)) (q_M_below D r9 (va_A [] sz)) rm_M_below.cells rm_M_below.slots (va_A [] sz) := by
  refine fg_enter (fun A => q_M_below D r9 A) (by decide +kernel) (Nat.le_of_ble_eq_true rfl) ?_
  intro p e s m below meth c ls A hx hb hml hown hts hr hlocks hin hP hK hD hS hA hX hl
  have hl : lv_has ls 4 [(0, .long x0), (2, .long x2)] := hl
  unfold f_M_below at h
  refine lv_lload_n hx hb d_M_below_0 rfl (lv_at hl 0 rfl) ?_
  refine lv_ldc2 hx hb hown (hts _ u_2075) d_M_below_1 ?_
  refine lv_ladd hx hb d_M_below_4 ?_
  refine lv_lload_n hx hb d_M_below_5 rfl (lv_at hl 1 rfl) ?_
  refine lv_ldc2 hx hb hown (hts _ u_2075) d_M_below_6 ?_
  refine lv_ladd hx hb d_M_below_9 ?_
  refine W.lcmp hx hb d_M_below_10 ?_
  refine lv_if_ge (tgt := 18) hx hb d_M_below_11 (by decide) (fun c1 => ?_) (fun c1 => ?_)
  · have h := if_f (Int64.not_lt.mpr ((lg_cmp_ge _ _).mp c1)) h
    refine lv_iconst (v := 0) hx hb d_M_below_18 (by decide) ?_
    have z2 : (0 : Int32) = 1 ∨ (0 : Int32) = 0 := (by decide)
    cases h
    exact fg_retz () hx hb hr hlocks (me_nz z2) ⟨rfl, z2⟩ me_P0 (hK.sub (tys' := []) [] rfl) me_D0 hS (Nat.le_of_ble_eq_true rfl) (Nat.le_of_ble_eq_true rfl) d_M_below_19
  have h := if_t (Int64.not_le.mp (fun z => c1 ((lg_cmp_ge _ _).mpr z))) h
  refine lv_iconst (v := 1) hx hb d_M_below_14 (by decide) ?_
  refine lv_goto (tgt := 19) hx hb d_M_below_15 (by decide) ?_
  have z3 : (1 : Int32) = 1 ∨ (1 : Int32) = 0 := (by decide)
  cases h
  exact fg_retz () hx hb hr hlocks (me_nz z3) ⟨rfl, z3⟩ me_P0 (hK.sub (tys' := []) [] rfl) me_D0 hS (Nat.le_of_ble_eq_true rfl) (Nat.le_of_ble_eq_true rfl) d_M_below_19
theorem d_M_lesser_0 : decode prog_14_method_5_code 0 = .ok (.lload_n 0, 1) := by decide +kernel
theorem d_M_lesser_1 : decode prog_14_method_5_code 1 = .ok (.lload_n 2, 1) := by decide +kernel
theorem d_M_lesser_2 : decode prog_14_method_5_code 2 = .ok (.invokestatic 158, 3) := by decide +kernel
theorem u_2072 : Cond.methodLink "FilterGuardModel" 158 ⟨"FilterGuardModel", "below", "(JJ)Z"⟩ ∈ fg_g := fg_in (List.mem_of_getElem? (i := 2072) (by decide +kernel)) rfl
theorem u_192 : Cond.initialized "FilterGuardModel" ∈ fg_g := fg_in (List.mem_of_getElem? (i := 192) (by decide +kernel)) rfl
theorem u_2074 : Cond.code ⟨"FilterGuardModel", "below", "(JJ)Z"⟩ prog_14_method_4_code 4 (some .boolean) ∈ fg_g := fg_in (List.mem_of_getElem? (i := 2074) (by decide +kernel)) rfl
theorem u_2073 : Cond.static ⟨"FilterGuardModel", "below", "(JJ)Z"⟩ ∈ fg_g := fg_in (List.mem_of_getElem? (i := 2073) (by decide +kernel)) rfl
theorem d_M_lesser_5 : decode prog_14_method_5_code 5 = .ok (.ifCond .eq 7, 3) := by decide +kernel
theorem d_M_lesser_12 : decode prog_14_method_5_code 12 = .ok (.lload_n 2, 1) := by decide +kernel
theorem d_M_lesser_13 : decode prog_14_method_5_code 13 = .ok (.lreturn, 1) := by decide +kernel
theorem d_M_lesser_8 : decode prog_14_method_5_code 8 = .ok (.lload_n 0, 1) := by decide +kernel
theorem d_M_lesser_9 : decode prog_14_method_5_code 9 = .ok (.goto 4, 3) := by decide +kernel
abbrev y_M_lesser : MethodName := ⟨"FilterGuardModel", "lesser", "(JJ)J"⟩
def f_M_lesser (x0 : Int64) (x2 : Int64) : Option Int64 := bd (f_M_below x0 x2) (fun (r1 : Int32) => (if r1 = 0 then some x2 else some x0))
def rm_M_lesser : Room := { frames := 2, cells := 0, slots := 0, locals := 43 }
abbrev q_M_lesser (D : va_G) (r9 : Int64) (A : Nat → Prop) : Array Value → Jvm.State → Outcome → Jvm.State → Prop := va_Ql (fun r (_ : Unit) => r = r9 ∧ True) (fg_B D A (fun _ => []) (fun _ => [])) A
set_option maxHeartbeats 4000000 in
set_option maxRecDepth 100000 in
theorem c_M_lesser (l : Launch) (D : va_G) (r9 : Int64) (x0 : Int64) (x2 : Int64) (h : f_M_lesser x0 x2 = (some r9)) (sz : Nat) : Met l y_M_lesser (fg_w y_M_lesser prog_14_method_5_code 4 (some .long)) rm_M_lesser (va_Pc [.long x0, .long x2] (fg_P D [] [] sz)) (q_M_lesser D r9 (va_A [] sz)) rm_M_lesser.cells rm_M_lesser.slots (va_A [] sz) := by
  refine fg_enter (fun A => q_M_lesser D r9 A) (by decide +kernel) (Nat.le_of_ble_eq_true rfl) ?_
  intro p e s m below meth c ls A hx hb hml hown hts hr hlocks hin hP hK hD hS hA hX hl
  have hl : lv_has ls 4 [(0, .long x0), (2, .long x2)] := hl
  unfold f_M_lesser at h
  refine lv_lload_n hx hb d_M_lesser_0 rfl (lv_at hl 0 rfl) ?_
  refine lv_lload_n hx hb d_M_lesser_1 rfl (lv_at hl 1 rfl) ?_
  obtain ⟨r1, er1, h⟩ := bd_ob h
  refine me_pani0 (r0 := r1) (fg_runS (wc := []) (tc := []) (A2 := A) (As := [.long x0, .long x2]) (rest := []) ⟨hx, hb, hml, hown, hts⟩ (c_M_below l D r1 x0 x2 er1 _) (by show fg_nm y_M_below 2; decide +kernel) u_2072 u_2073 u_192 u_2074 ⟨Nat.le_of_ble_eq_true rfl, Nat.le_of_ble_eq_true rfl⟩ hX me_P0 (hK.sub (tys' := []) [] rfl) me_D0 rfl hl.1 (Nat.le_of_ble_eq_true rfl) d_M_lesser_2 ⟨Nat.le_of_ble_eq_true rfl, Nat.le_of_ble_eq_true rfl⟩) hK hS hA rfl rfl (fun H locs hw hS => ?_)
  have zr1 := hw
  refine lv_if_eq (tgt := 12) hx hb d_M_lesser_5 (by decide) (fun c2 => ?_) (fun c2 => ?_)
  · have h := if_t c2 h
    refine lv_lload_n hx hb d_M_lesser_12 rfl (lv_at hl 1 rfl) ?_
    cases h
    exact fg_retl () hx hb hr hlocks ⟨rfl, trivial⟩ me_P0 (hK.sub (tys' := []) [] rfl) me_D0 hS (Nat.le_of_ble_eq_true rfl) (Nat.le_of_ble_eq_true rfl) d_M_lesser_13
  have h := if_f c2 h
  refine lv_lload_n hx hb d_M_lesser_8 rfl (lv_at hl 0 rfl) ?_
  refine lv_goto (tgt := 13) hx hb d_M_lesser_9 (by decide) ?_
  cases h
  exact fg_retl () hx hb hr hlocks ⟨rfl, trivial⟩ me_P0 (hK.sub (tys' := []) [] rfl) me_D0 hS (Nat.le_of_ble_eq_true rfl) (Nat.le_of_ble_eq_true rfl) d_M_lesser_13
theorem d_M_copyNumber_0 : decode prog_14_method_7_code 0 = .ok (.aload_n 0, 1) := by decide +kernel
theorem d_M_copyNumber_1 : decode prog_14_method_7_code 1 = .ok (.getfield 104, 3) := by decide +kernel
theorem u_1793 : Cond.fieldLink "FilterGuardModel" 104 "FilterGuardModel" "value" "[J" ∈ fg_g := fg_in (List.mem_of_getElem? (i := 1793) (by decide +kernel)) rfl
theorem g_M_52 {p : Program} {l : Launch} {e : Env} {R : Room} {s : Jvm.State} {m : MethodId} {args : Array Value} {below : List Frame} {meth : Method} {c : Code} {H : Heap} {locs : List Loc} {cells slots : Nat} {Q : Jvm.State → Prop} {cc : ByteArray} {pc : Nat} {ls : Array Slot} {rest : List Value} {D : va_G} {ad : Nat → Nat → Nat} {ca : Nat → ClassId} {M : me_M} {N : Nat → Nat} {own : String} {index j : Nat} (hexec : p.tables.exec = Jvm.exec) (hb : c.code = cc) (hts : ∀ w ∈ fg_g, w.before args s = true) (hown : s.vm.findClass own = some m.cls) (hK : va_K D classes (me_T ca) s) (hP : va_P D classes (me_W ad ca M) H) (hwf : me_wf N M) (hj : j < N 1) (hlink : (Cond.fieldLink own index "FilterGuardModel" "value" "[J").before args s = true) (hdg : decode cc pc = .ok (.getfield index, 3)) (kk : W p l e R s m args below meth c H locs cells slots Q (F0 m (pc + 3) ls (va_rf ((mR M 1 j 52).map (ad 16)) :: rest))) : W p l e R s m args below meth c H locs cells slots Q (F0 m pc ls (.ref (ad 1 j) :: rest)) := me_get (k := 1) (f := 52) (C := "FilterGuardModel") (T := F_M) (Nf := 75) hexec hb hts i_M hown hK hP hwf hj (by decide) rfl (by decide) (by decide) hlink (fun _ h9 => h9) hdg kk
theorem d_M_copyNumber_4 : decode prog_14_method_7_code 4 = .ok (.iload_n 2, 1) := by decide +kernel
theorem d_M_copyNumber_5 : decode prog_14_method_7_code 5 = .ok (.aload_n 0, 1) := by decide +kernel
theorem d_M_copyNumber_6 : decode prog_14_method_7_code 6 = .ok (.getfield 104, 3) := by decide +kernel
theorem d_M_copyNumber_9 : decode prog_14_method_7_code 9 = .ok (.iload_n 1, 1) := by decide +kernel
theorem d_M_copyNumber_10 : decode prog_14_method_7_code 10 = .ok (.laload, 1) := by decide +kernel
theorem d_M_copyNumber_11 : decode prog_14_method_7_code 11 = .ok (.lastore, 1) := by decide +kernel
theorem d_M_copyNumber_12 : decode prog_14_method_7_code 12 = .ok (.aload_n 0, 1) := by decide +kernel
theorem d_M_copyNumber_13 : decode prog_14_method_7_code 13 = .ok (.getfield 107, 3) := by decide +kernel
theorem u_1794 : Cond.fieldLink "FilterGuardModel" 107 "FilterGuardModel" "mask" "[J" ∈ fg_g := fg_in (List.mem_of_getElem? (i := 1794) (by decide +kernel)) rfl
theorem g_M_53 {p : Program} {l : Launch} {e : Env} {R : Room} {s : Jvm.State} {m : MethodId} {args : Array Value} {below : List Frame} {meth : Method} {c : Code} {H : Heap} {locs : List Loc} {cells slots : Nat} {Q : Jvm.State → Prop} {cc : ByteArray} {pc : Nat} {ls : Array Slot} {rest : List Value} {D : va_G} {ad : Nat → Nat → Nat} {ca : Nat → ClassId} {M : me_M} {N : Nat → Nat} {own : String} {index j : Nat} (hexec : p.tables.exec = Jvm.exec) (hb : c.code = cc) (hts : ∀ w ∈ fg_g, w.before args s = true) (hown : s.vm.findClass own = some m.cls) (hK : va_K D classes (me_T ca) s) (hP : va_P D classes (me_W ad ca M) H) (hwf : me_wf N M) (hj : j < N 1) (hlink : (Cond.fieldLink own index "FilterGuardModel" "mask" "[J").before args s = true) (hdg : decode cc pc = .ok (.getfield index, 3)) (kk : W p l e R s m args below meth c H locs cells slots Q (F0 m (pc + 3) ls (va_rf ((mR M 1 j 53).map (ad 16)) :: rest))) : W p l e R s m args below meth c H locs cells slots Q (F0 m pc ls (.ref (ad 1 j) :: rest)) := me_get (k := 1) (f := 53) (C := "FilterGuardModel") (T := F_M) (Nf := 75) hexec hb hts i_M hown hK hP hwf hj (by decide) rfl (by decide) (by decide) hlink (fun _ h9 => h9) hdg kk
theorem d_M_copyNumber_16 : decode prog_14_method_7_code 16 = .ok (.iload_n 2, 1) := by decide +kernel
theorem d_M_copyNumber_17 : decode prog_14_method_7_code 17 = .ok (.aload_n 0, 1) := by decide +kernel
theorem d_M_copyNumber_18 : decode prog_14_method_7_code 18 = .ok (.getfield 107, 3) := by decide +kernel
theorem d_M_copyNumber_21 : decode prog_14_method_7_code 21 = .ok (.iload_n 1, 1) := by decide +kernel
theorem d_M_copyNumber_22 : decode prog_14_method_7_code 22 = .ok (.laload, 1) := by decide +kernel
theorem d_M_copyNumber_23 : decode prog_14_method_7_code 23 = .ok (.lastore, 1) := by decide +kernel
theorem d_M_copyNumber_24 : decode prog_14_method_7_code 24 = .ok (.aload_n 0, 1) := by decide +kernel
theorem d_M_copyNumber_25 : decode prog_14_method_7_code 25 = .ok (.getfield 110, 3) := by decide +kernel
theorem u_1795 : Cond.fieldLink "FilterGuardModel" 110 "FilterGuardModel" "least" "[J" ∈ fg_g := fg_in (List.mem_of_getElem? (i := 1795) (by decide +kernel)) rfl
theorem g_M_54 {p : Program} {l : Launch} {e : Env} {R : Room} {s : Jvm.State} {m : MethodId} {args : Array Value} {below : List Frame} {meth : Method} {c : Code} {H : Heap} {locs : List Loc} {cells slots : Nat} {Q : Jvm.State → Prop} {cc : ByteArray} {pc : Nat} {ls : Array Slot} {rest : List Value} {D : va_G} {ad : Nat → Nat → Nat} {ca : Nat → ClassId} {M : me_M} {N : Nat → Nat} {own : String} {index j : Nat} (hexec : p.tables.exec = Jvm.exec) (hb : c.code = cc) (hts : ∀ w ∈ fg_g, w.before args s = true) (hown : s.vm.findClass own = some m.cls) (hK : va_K D classes (me_T ca) s) (hP : va_P D classes (me_W ad ca M) H) (hwf : me_wf N M) (hj : j < N 1) (hlink : (Cond.fieldLink own index "FilterGuardModel" "least" "[J").before args s = true) (hdg : decode cc pc = .ok (.getfield index, 3)) (kk : W p l e R s m args below meth c H locs cells slots Q (F0 m (pc + 3) ls (va_rf ((mR M 1 j 54).map (ad 16)) :: rest))) : W p l e R s m args below meth c H locs cells slots Q (F0 m pc ls (.ref (ad 1 j) :: rest)) := me_get (k := 1) (f := 54) (C := "FilterGuardModel") (T := F_M) (Nf := 75) hexec hb hts i_M hown hK hP hwf hj (by decide) rfl (by decide) (by decide) hlink (fun _ h9 => h9) hdg kk
theorem d_M_copyNumber_28 : decode prog_14_method_7_code 28 = .ok (.iload_n 2, 1) := by decide +kernel
theorem d_M_copyNumber_29 : decode prog_14_method_7_code 29 = .ok (.aload_n 0, 1) := by decide +kernel
theorem d_M_copyNumber_30 : decode prog_14_method_7_code 30 = .ok (.getfield 110, 3) := by decide +kernel
theorem d_M_copyNumber_33 : decode prog_14_method_7_code 33 = .ok (.iload_n 1, 1) := by decide +kernel
theorem d_M_copyNumber_34 : decode prog_14_method_7_code 34 = .ok (.laload, 1) := by decide +kernel
theorem d_M_copyNumber_35 : decode prog_14_method_7_code 35 = .ok (.lastore, 1) := by decide +kernel
theorem d_M_copyNumber_36 : decode prog_14_method_7_code 36 = .ok (.aload_n 0, 1) := by decide +kernel
theorem d_M_copyNumber_37 : decode prog_14_method_7_code 37 = .ok (.getfield 113, 3) := by decide +kernel
theorem u_1796 : Cond.fieldLink "FilterGuardModel" 113 "FilterGuardModel" "great" "[J" ∈ fg_g := fg_in (List.mem_of_getElem? (i := 1796) (by decide +kernel)) rfl
theorem g_M_55 {p : Program} {l : Launch} {e : Env} {R : Room} {s : Jvm.State} {m : MethodId} {args : Array Value} {below : List Frame} {meth : Method} {c : Code} {H : Heap} {locs : List Loc} {cells slots : Nat} {Q : Jvm.State → Prop} {cc : ByteArray} {pc : Nat} {ls : Array Slot} {rest : List Value} {D : va_G} {ad : Nat → Nat → Nat} {ca : Nat → ClassId} {M : me_M} {N : Nat → Nat} {own : String} {index j : Nat} (hexec : p.tables.exec = Jvm.exec) (hb : c.code = cc) (hts : ∀ w ∈ fg_g, w.before args s = true) (hown : s.vm.findClass own = some m.cls) (hK : va_K D classes (me_T ca) s) (hP : va_P D classes (me_W ad ca M) H) (hwf : me_wf N M) (hj : j < N 1) (hlink : (Cond.fieldLink own index "FilterGuardModel" "great" "[J").before args s = true) (hdg : decode cc pc = .ok (.getfield index, 3)) (kk : W p l e R s m args below meth c H locs cells slots Q (F0 m (pc + 3) ls (va_rf ((mR M 1 j 55).map (ad 16)) :: rest))) : W p l e R s m args below meth c H locs cells slots Q (F0 m pc ls (.ref (ad 1 j) :: rest)) := me_get (k := 1) (f := 55) (C := "FilterGuardModel") (T := F_M) (Nf := 75) hexec hb hts i_M hown hK hP hwf hj (by decide) rfl (by decide) (by decide) hlink (fun _ h9 => h9) hdg kk
theorem d_M_copyNumber_40 : decode prog_14_method_7_code 40 = .ok (.iload_n 2, 1) := by decide +kernel
theorem d_M_copyNumber_41 : decode prog_14_method_7_code 41 = .ok (.aload_n 0, 1) := by decide +kernel
theorem d_M_copyNumber_42 : decode prog_14_method_7_code 42 = .ok (.getfield 113, 3) := by decide +kernel
theorem d_M_copyNumber_45 : decode prog_14_method_7_code 45 = .ok (.iload_n 1, 1) := by decide +kernel
theorem d_M_copyNumber_46 : decode prog_14_method_7_code 46 = .ok (.laload, 1) := by decide +kernel
theorem d_M_copyNumber_47 : decode prog_14_method_7_code 47 = .ok (.lastore, 1) := by decide +kernel
theorem d_M_copyNumber_48 : decode prog_14_method_7_code 48 = .ok (.aload_n 0, 1) := by decide +kernel
theorem d_M_copyNumber_49 : decode prog_14_method_7_code 49 = .ok (.getfield 116, 3) := by decide +kernel
theorem u_1797 : Cond.fieldLink "FilterGuardModel" 116 "FilterGuardModel" "low" "[J" ∈ fg_g := fg_in (List.mem_of_getElem? (i := 1797) (by decide +kernel)) rfl
theorem g_M_56 {p : Program} {l : Launch} {e : Env} {R : Room} {s : Jvm.State} {m : MethodId} {args : Array Value} {below : List Frame} {meth : Method} {c : Code} {H : Heap} {locs : List Loc} {cells slots : Nat} {Q : Jvm.State → Prop} {cc : ByteArray} {pc : Nat} {ls : Array Slot} {rest : List Value} {D : va_G} {ad : Nat → Nat → Nat} {ca : Nat → ClassId} {M : me_M} {N : Nat → Nat} {own : String} {index j : Nat} (hexec : p.tables.exec = Jvm.exec) (hb : c.code = cc) (hts : ∀ w ∈ fg_g, w.before args s = true) (hown : s.vm.findClass own = some m.cls) (hK : va_K D classes (me_T ca) s) (hP : va_P D classes (me_W ad ca M) H) (hwf : me_wf N M) (hj : j < N 1) (hlink : (Cond.fieldLink own index "FilterGuardModel" "low" "[J").before args s = true) (hdg : decode cc pc = .ok (.getfield index, 3)) (kk : W p l e R s m args below meth c H locs cells slots Q (F0 m (pc + 3) ls (va_rf ((mR M 1 j 56).map (ad 16)) :: rest))) : W p l e R s m args below meth c H locs cells slots Q (F0 m pc ls (.ref (ad 1 j) :: rest)) := me_get (k := 1) (f := 56) (C := "FilterGuardModel") (T := F_M) (Nf := 75) hexec hb hts i_M hown hK hP hwf hj (by decide) rfl (by decide) (by decide) hlink (fun _ h9 => h9) hdg kk
theorem d_M_copyNumber_52 : decode prog_14_method_7_code 52 = .ok (.iload_n 2, 1) := by decide +kernel
theorem d_M_copyNumber_53 : decode prog_14_method_7_code 53 = .ok (.aload_n 0, 1) := by decide +kernel
theorem d_M_copyNumber_54 : decode prog_14_method_7_code 54 = .ok (.getfield 116, 3) := by decide +kernel
theorem d_M_copyNumber_57 : decode prog_14_method_7_code 57 = .ok (.iload_n 1, 1) := by decide +kernel
theorem d_M_copyNumber_58 : decode prog_14_method_7_code 58 = .ok (.laload, 1) := by decide +kernel
theorem d_M_copyNumber_59 : decode prog_14_method_7_code 59 = .ok (.lastore, 1) := by decide +kernel
theorem d_M_copyNumber_60 : decode prog_14_method_7_code 60 = .ok (.aload_n 0, 1) := by decide +kernel
theorem d_M_copyNumber_61 : decode prog_14_method_7_code 61 = .ok (.getfield 119, 3) := by decide +kernel
theorem u_1798 : Cond.fieldLink "FilterGuardModel" 119 "FilterGuardModel" "high" "[J" ∈ fg_g := fg_in (List.mem_of_getElem? (i := 1798) (by decide +kernel)) rfl
theorem g_M_57 {p : Program} {l : Launch} {e : Env} {R : Room} {s : Jvm.State} {m : MethodId} {args : Array Value} {below : List Frame} {meth : Method} {c : Code} {H : Heap} {locs : List Loc} {cells slots : Nat} {Q : Jvm.State → Prop} {cc : ByteArray} {pc : Nat} {ls : Array Slot} {rest : List Value} {D : va_G} {ad : Nat → Nat → Nat} {ca : Nat → ClassId} {M : me_M} {N : Nat → Nat} {own : String} {index j : Nat} (hexec : p.tables.exec = Jvm.exec) (hb : c.code = cc) (hts : ∀ w ∈ fg_g, w.before args s = true) (hown : s.vm.findClass own = some m.cls) (hK : va_K D classes (me_T ca) s) (hP : va_P D classes (me_W ad ca M) H) (hwf : me_wf N M) (hj : j < N 1) (hlink : (Cond.fieldLink own index "FilterGuardModel" "high" "[J").before args s = true) (hdg : decode cc pc = .ok (.getfield index, 3)) (kk : W p l e R s m args below meth c H locs cells slots Q (F0 m (pc + 3) ls (va_rf ((mR M 1 j 57).map (ad 16)) :: rest))) : W p l e R s m args below meth c H locs cells slots Q (F0 m pc ls (.ref (ad 1 j) :: rest)) := me_get (k := 1) (f := 57) (C := "FilterGuardModel") (T := F_M) (Nf := 75) hexec hb hts i_M hown hK hP hwf hj (by decide) rfl (by decide) (by decide) hlink (fun _ h9 => h9) hdg kk
theorem d_M_copyNumber_64 : decode prog_14_method_7_code 64 = .ok (.iload_n 2, 1) := by decide +kernel
theorem d_M_copyNumber_65 : decode prog_14_method_7_code 65 = .ok (.aload_n 0, 1) := by decide +kernel
theorem d_M_copyNumber_66 : decode prog_14_method_7_code 66 = .ok (.getfield 119, 3) := by decide +kernel
theorem d_M_copyNumber_69 : decode prog_14_method_7_code 69 = .ok (.iload_n 1, 1) := by decide +kernel
theorem d_M_copyNumber_70 : decode prog_14_method_7_code 70 = .ok (.laload, 1) := by decide +kernel
theorem d_M_copyNumber_71 : decode prog_14_method_7_code 71 = .ok (.lastore, 1) := by decide +kernel
theorem d_M_copyNumber_72 : decode prog_14_method_7_code 72 = .ok (.return_, 1) := by decide +kernel
abbrev y_M_copyNumber : MethodName := ⟨"FilterGuardModel", "copyNumber", "(II)V"⟩
def f_M_copyNumber (M : me_M) (j0 : Nat) (x1 : Int32) (x2 : Int32) : Option me_M := bd (mR M 1 j0 52) (fun (j1 : Nat) => bd (mR M 1 j0 52) (fun (j3 : Nat) => gd (¬ (x1 < 0 ∨ mZ M 16 j3 ≤ x1.toNatClampNeg)) (gd (¬ (x2 < 0 ∨ mZ M 16 j1 ≤ x2.toNatClampNeg)) (st (wL M 16 j1 x2.toNatClampNeg (mL M 16 j3 x1.toNatClampNeg)) (fun (M7 : me_M) => bd (mR M7 1 j0 53) (fun (j8 : Nat) => bd (mR M7 1 j0 53) (fun (j10 : Nat) => gd (¬ (x1 < 0 ∨ mZ M7 16 j10 ≤ x1.toNatClampNeg)) (gd (¬ (x2 < 0 ∨ mZ M7 16 j8 ≤ x2.toNatClampNeg)) (st (wL M7 16 j8 x2.toNatClampNeg (mL M7 16 j10 x1.toNatClampNeg)) (fun (M14 : me_M) => bd (mR M14 1 j0 54) (fun (j15 : Nat) => bd (mR M14 1 j0 54) (fun (j17 : Nat) => gd (¬ (x1 < 0 ∨ mZ M14 16 j17 ≤ x1.toNatClampNeg)) (gd (¬ (x2 < 0 ∨ mZ M14 16 j15 ≤ x2.toNatClampNeg)) (st (wL M14 16 j15 x2.toNatClampNeg (mL M14 16 j17 x1.toNatClampNeg)) (fun (M21 : me_M) => bd (mR M21 1 j0 55) (fun (j22 : Nat) => bd (mR M21 1 j0 55) (fun (j24 : Nat) => gd (¬ (x1 < 0 ∨ mZ M21 16 j24 ≤ x1.toNatClampNeg)) (gd (¬ (x2 < 0 ∨ mZ M21 16 j22 ≤ x2.toNatClampNeg)) (st (wL M21 16 j22 x2.toNatClampNeg (mL M21 16 j24 x1.toNatClampNeg)) (fun (M28 : me_M) => bd (mR M28 1 j0 56) (fun (j29 : Nat) => bd (mR M28 1 j0 56) (fun (j31 : Nat) => gd (¬ (x1 < 0 ∨ mZ M28 16 j31 ≤ x1.toNatClampNeg)) (gd (¬ (x2 < 0 ∨ mZ M28 16 j29 ≤ x2.toNatClampNeg)) (st (wL M28 16 j29 x2.toNatClampNeg (mL M28 16 j31 x1.toNatClampNeg)) (fun (M35 : me_M) => bd (mR M35 1 j0 57) (fun (j36 : Nat) => bd (mR M35 1 j0 57) (fun (j38 : Nat) => gd (¬ (x1 < 0 ∨ mZ M35 16 j38 ≤ x1.toNatClampNeg)) (gd (¬ (x2 < 0 ∨ mZ M35 16 j36 ≤ x2.toNatClampNeg)) (st (wL M35 16 j36 x2.toNatClampNeg (mL M35 16 j38 x1.toNatClampNeg)) (fun (M42 : me_M) => some M42))))))))))))))))))))))))))))))
def rm_M_copyNumber : Room := { frames := 1, cells := 0, slots := 0, locals := 20 }
abbrev q_M_copyNumber (D : va_G) (ad : Nat → Nat → Nat) (ca : Nat → ClassId) (N : Nat → Nat) (M9 : me_M) (A : Nat → Prop) : Array Value → Jvm.State → Outcome → Jvm.State → Prop := va_Qv (fun (_ : Unit) => me_wf N M9) (fg_B D A (fun _ => me_W ad ca M9) (fun _ => [])) A
set_option maxHeartbeats 4000000 in
set_option maxRecDepth 100000 in
theorem c_M_copyNumber (l : Launch) (D : va_G) (ad : Nat → Nat → Nat) (ca : Nat → ClassId) (N : Nat → Nat) (M M9 : me_M) (j0 : Nat) (x1 : Int32) (x2 : Int32) (h : f_M_copyNumber M j0 x1 x2 = (some M9)) (hwf : me_wf N M) (hj0 : j0 < N 1) (sz : Nat) : Met l y_M_copyNumber (fg_w y_M_copyNumber prog_14_method_7_code 3 none) rm_M_copyNumber (va_Pc [.ref (ad 1 j0), .int x1, .int x2] (fz_P D (me_T ca) (me_W ad ca M) sz)) (q_M_copyNumber D ad ca N M9 (va_A (me_W ad ca M) sz)) rm_M_copyNumber.cells rm_M_copyNumber.slots (va_A (me_W ad ca M) sz) := by
  refine fz_enter (fun A => q_M_copyNumber D ad ca N M9 A) (by decide +kernel) (Nat.le_of_ble_eq_true rfl) ?_
  intro p e s m below meth c ls A hx hb hml hown hts hr hlocks hin hP hK hD hS hA hX hl hz
  have hl : lv_has ls 3 [(0, .ref (ad 1 j0)), (1, .int x1), (2, .int x2)] := hl
  unfold f_M_copyNumber at h
  refine lv_aload_n hx hb d_M_copyNumber_0 rfl (lv_at hl 0 rfl) ?_
  refine g_M_52 hx hb hts hown hK hP hwf hj0 (hts _ u_1793) d_M_copyNumber_1 ?_
  obtain ⟨j1, e2, h⟩ := bd_ob h
  have hj1 : j1 < N 16 := (hwf.2.1 1 j0 52 _ e2 (by decide) hj0)
  refine me_opt (j := j1) e2 ?_
  refine lv_iload_n hx hb d_M_copyNumber_4 rfl (lv_at hl 2 rfl) ?_
  refine lv_aload_n hx hb d_M_copyNumber_5 rfl (lv_at hl 0 rfl) ?_
  refine g_M_52 hx hb hts hown hK hP hwf hj0 (hts _ u_1793) d_M_copyNumber_6 ?_
  obtain ⟨j3, e4, h⟩ := bd_ob h
  have hj3 : j3 < N 16 := (hwf.2.1 1 j0 52 _ e4 (by decide) hj0)
  refine me_opt (j := j3) e4 ?_
  refine lv_iload_n hx hb d_M_copyNumber_9 rfl (lv_at hl 1 rfl) ?_
  obtain ⟨g5, h⟩ := gd_ob h
  refine me_lald hx hb hK hP hwf hj3 g5 d_M_copyNumber_10 ?_
  obtain ⟨g6, h⟩ := gd_ob h
  obtain ⟨M7, eM7, h⟩ := st_ob h
  refine me_last eM7 hx hb hK hP hD hwf hS hj1 g6 d_M_copyNumber_11 (fun H locs hP hD hwf hS => ?_)
  refine lv_aload_n hx hb d_M_copyNumber_12 rfl (lv_at hl 0 rfl) ?_
  refine g_M_53 hx hb hts hown hK hP hwf hj0 (hts _ u_1794) d_M_copyNumber_13 ?_
  obtain ⟨j8, e9, h⟩ := bd_ob h
  have hj8 : j8 < N 16 := (hwf.2.1 1 j0 53 _ e9 (by decide) hj0)
  refine me_opt (j := j8) e9 ?_
  refine lv_iload_n hx hb d_M_copyNumber_16 rfl (lv_at hl 2 rfl) ?_
  refine lv_aload_n hx hb d_M_copyNumber_17 rfl (lv_at hl 0 rfl) ?_
  refine g_M_53 hx hb hts hown hK hP hwf hj0 (hts _ u_1794) d_M_copyNumber_18 ?_
  obtain ⟨j10, e11, h⟩ := bd_ob h
  have hj10 : j10 < N 16 := (hwf.2.1 1 j0 53 _ e11 (by decide) hj0)
  refine me_opt (j := j10) e11 ?_
  refine lv_iload_n hx hb d_M_copyNumber_21 rfl (lv_at hl 1 rfl) ?_
  obtain ⟨g12, h⟩ := gd_ob h
  refine me_lald hx hb hK hP hwf hj10 g12 d_M_copyNumber_22 ?_
  obtain ⟨g13, h⟩ := gd_ob h
  obtain ⟨M14, eM14, h⟩ := st_ob h
  refine me_last eM14 hx hb hK hP hD hwf hS hj8 g13 d_M_copyNumber_23 (fun H locs hP hD hwf hS => ?_)
  refine lv_aload_n hx hb d_M_copyNumber_24 rfl (lv_at hl 0 rfl) ?_
  refine g_M_54 hx hb hts hown hK hP hwf hj0 (hts _ u_1795) d_M_copyNumber_25 ?_
  obtain ⟨j15, e16, h⟩ := bd_ob h
  have hj15 : j15 < N 16 := (hwf.2.1 1 j0 54 _ e16 (by decide) hj0)
  refine me_opt (j := j15) e16 ?_
  refine lv_iload_n hx hb d_M_copyNumber_28 rfl (lv_at hl 2 rfl) ?_
  refine lv_aload_n hx hb d_M_copyNumber_29 rfl (lv_at hl 0 rfl) ?_
  refine g_M_54 hx hb hts hown hK hP hwf hj0 (hts _ u_1795) d_M_copyNumber_30 ?_
  obtain ⟨j17, e18, h⟩ := bd_ob h
  have hj17 : j17 < N 16 := (hwf.2.1 1 j0 54 _ e18 (by decide) hj0)
  refine me_opt (j := j17) e18 ?_
  refine lv_iload_n hx hb d_M_copyNumber_33 rfl (lv_at hl 1 rfl) ?_
  obtain ⟨g19, h⟩ := gd_ob h
  refine me_lald hx hb hK hP hwf hj17 g19 d_M_copyNumber_34 ?_
  obtain ⟨g20, h⟩ := gd_ob h
  obtain ⟨M21, eM21, h⟩ := st_ob h
  refine me_last eM21 hx hb hK hP hD hwf hS hj15 g20 d_M_copyNumber_35 (fun H locs hP hD hwf hS => ?_)
  refine lv_aload_n hx hb d_M_copyNumber_36 rfl (lv_at hl 0 rfl) ?_
  refine g_M_55 hx hb hts hown hK hP hwf hj0 (hts _ u_1796) d_M_copyNumber_37 ?_
  obtain ⟨j22, e23, h⟩ := bd_ob h
  have hj22 : j22 < N 16 := (hwf.2.1 1 j0 55 _ e23 (by decide) hj0)
  refine me_opt (j := j22) e23 ?_
  refine lv_iload_n hx hb d_M_copyNumber_40 rfl (lv_at hl 2 rfl) ?_
  refine lv_aload_n hx hb d_M_copyNumber_41 rfl (lv_at hl 0 rfl) ?_
  refine g_M_55 hx hb hts hown hK hP hwf hj0 (hts _ u_1796) d_M_copyNumber_42 ?_
  obtain ⟨j24, e25, h⟩ := bd_ob h
  have hj24 : j24 < N 16 := (hwf.2.1 1 j0 55 _ e25 (by decide) hj0)
  refine me_opt (j := j24) e25 ?_
  refine lv_iload_n hx hb d_M_copyNumber_45 rfl (lv_at hl 1 rfl) ?_
  obtain ⟨g26, h⟩ := gd_ob h
  refine me_lald hx hb hK hP hwf hj24 g26 d_M_copyNumber_46 ?_
  obtain ⟨g27, h⟩ := gd_ob h
  obtain ⟨M28, eM28, h⟩ := st_ob h
  refine me_last eM28 hx hb hK hP hD hwf hS hj22 g27 d_M_copyNumber_47 (fun H locs hP hD hwf hS => ?_)
  refine lv_aload_n hx hb d_M_copyNumber_48 rfl (lv_at hl 0 rfl) ?_
  refine g_M_56 hx hb hts hown hK hP hwf hj0 (hts _ u_1797) d_M_copyNumber_49 ?_
  obtain ⟨j29, e30, h⟩ := bd_ob h
  have hj29 : j29 < N 16 := (hwf.2.1 1 j0 56 _ e30 (by decide) hj0)
  refine me_opt (j := j29) e30 ?_
  refine lv_iload_n hx hb d_M_copyNumber_52 rfl (lv_at hl 2 rfl) ?_
  refine lv_aload_n hx hb d_M_copyNumber_53 rfl (lv_at hl 0 rfl) ?_
  refine g_M_56 hx hb hts hown hK hP hwf hj0 (hts _ u_1797) d_M_copyNumber_54 ?_
  obtain ⟨j31, e32, h⟩ := bd_ob h
  have hj31 : j31 < N 16 := (hwf.2.1 1 j0 56 _ e32 (by decide) hj0)
  refine me_opt (j := j31) e32 ?_
  refine lv_iload_n hx hb d_M_copyNumber_57 rfl (lv_at hl 1 rfl) ?_
  obtain ⟨g33, h⟩ := gd_ob h
  refine me_lald hx hb hK hP hwf hj31 g33 d_M_copyNumber_58 ?_
  obtain ⟨g34, h⟩ := gd_ob h
  obtain ⟨M35, eM35, h⟩ := st_ob h
  refine me_last eM35 hx hb hK hP hD hwf hS hj29 g34 d_M_copyNumber_59 (fun H locs hP hD hwf hS => ?_)
  refine lv_aload_n hx hb d_M_copyNumber_60 rfl (lv_at hl 0 rfl) ?_
  refine g_M_57 hx hb hts hown hK hP hwf hj0 (hts _ u_1798) d_M_copyNumber_61 ?_
  obtain ⟨j36, e37, h⟩ := bd_ob h
  have hj36 : j36 < N 16 := (hwf.2.1 1 j0 57 _ e37 (by decide) hj0)
  refine me_opt (j := j36) e37 ?_
  refine lv_iload_n hx hb d_M_copyNumber_64 rfl (lv_at hl 2 rfl) ?_
  refine lv_aload_n hx hb d_M_copyNumber_65 rfl (lv_at hl 0 rfl) ?_
  refine g_M_57 hx hb hts hown hK hP hwf hj0 (hts _ u_1798) d_M_copyNumber_66 ?_
  obtain ⟨j38, e39, h⟩ := bd_ob h
  have hj38 : j38 < N 16 := (hwf.2.1 1 j0 57 _ e39 (by decide) hj0)
  refine me_opt (j := j38) e39 ?_
  refine lv_iload_n hx hb d_M_copyNumber_69 rfl (lv_at hl 1 rfl) ?_
  obtain ⟨g40, h⟩ := gd_ob h
  refine me_lald hx hb hK hP hwf hj38 g40 d_M_copyNumber_70 ?_
  obtain ⟨g41, h⟩ := gd_ob h
  obtain ⟨M42, eM42, h⟩ := st_ob h
  refine me_last eM42 hx hb hK hP hD hwf hS hj36 g41 d_M_copyNumber_71 (fun H locs hP hD hwf hS => ?_)
  cases h
  exact fg_retv () hx hb hr hlocks hwf hP (hK.sub (tys' := []) [] rfl) hD hS (Nat.le_of_ble_eq_true rfl) (Nat.le_of_ble_eq_true rfl) d_M_copyNumber_72
theorem d_M_greater_0 : decode prog_14_method_6_code 0 = .ok (.lload_n 0, 1) := by decide +kernel
theorem d_M_greater_1 : decode prog_14_method_6_code 1 = .ok (.lload_n 2, 1) := by decide +kernel
theorem d_M_greater_2 : decode prog_14_method_6_code 2 = .ok (.invokestatic 158, 3) := by decide +kernel
theorem d_M_greater_5 : decode prog_14_method_6_code 5 = .ok (.ifCond .eq 7, 3) := by decide +kernel
theorem d_M_greater_12 : decode prog_14_method_6_code 12 = .ok (.lload_n 0, 1) := by decide +kernel
theorem d_M_greater_13 : decode prog_14_method_6_code 13 = .ok (.lreturn, 1) := by decide +kernel
theorem d_M_greater_8 : decode prog_14_method_6_code 8 = .ok (.lload_n 2, 1) := by decide +kernel
theorem d_M_greater_9 : decode prog_14_method_6_code 9 = .ok (.goto 4, 3) := by decide +kernel
abbrev y_M_greater : MethodName := ⟨"FilterGuardModel", "greater", "(JJ)J"⟩
def f_M_greater (x0 : Int64) (x2 : Int64) : Option Int64 := bd (f_M_below x0 x2) (fun (r1 : Int32) => (if r1 = 0 then some x0 else some x2))
def rm_M_greater : Room := { frames := 2, cells := 0, slots := 0, locals := 43 }
abbrev q_M_greater (D : va_G) (r9 : Int64) (A : Nat → Prop) : Array Value → Jvm.State → Outcome → Jvm.State → Prop := va_Ql (fun r (_ : Unit) => r = r9 ∧ True) (fg_B D A (fun _ => []) (fun _ => [])) A
set_option maxHeartbeats 4000000 in
set_option maxRecDepth 100000 in
theorem c_M_greater (l : Launch) (D : va_G) (r9 : Int64) (x0 : Int64) (x2 : Int64) (h : f_M_greater x0 x2 = (some r9)) (sz : Nat) : Met l y_M_greater (fg_w y_M_greater prog_14_method_6_code 4 (some .long)) rm_M_greater (va_Pc [.long x0, .long x2] (fg_P D [] [] sz)) (q_M_greater D r9 (va_A [] sz)) rm_M_greater.cells rm_M_greater.slots (va_A [] sz) := by
  refine fg_enter (fun A => q_M_greater D r9 A) (by decide +kernel) (Nat.le_of_ble_eq_true rfl) ?_
  intro p e s m below meth c ls A hx hb hml hown hts hr hlocks hin hP hK hD hS hA hX hl
  have hl : lv_has ls 4 [(0, .long x0), (2, .long x2)] := hl
  unfold f_M_greater at h
  refine lv_lload_n hx hb d_M_greater_0 rfl (lv_at hl 0 rfl) ?_
  refine lv_lload_n hx hb d_M_greater_1 rfl (lv_at hl 1 rfl) ?_
  obtain ⟨r1, er1, h⟩ := bd_ob h
  refine me_pani0 (r0 := r1) (fg_runS (wc := []) (tc := []) (A2 := A) (As := [.long x0, .long x2]) (rest := []) ⟨hx, hb, hml, hown, hts⟩ (c_M_below l D r1 x0 x2 er1 _) (by show fg_nm y_M_below 2; decide +kernel) u_2072 u_2073 u_192 u_2074 ⟨Nat.le_of_ble_eq_true rfl, Nat.le_of_ble_eq_true rfl⟩ hX me_P0 (hK.sub (tys' := []) [] rfl) me_D0 rfl hl.1 (Nat.le_of_ble_eq_true rfl) d_M_greater_2 ⟨Nat.le_of_ble_eq_true rfl, Nat.le_of_ble_eq_true rfl⟩) hK hS hA rfl rfl (fun H locs hw hS => ?_)
  have zr1 := hw
  refine lv_if_eq (tgt := 12) hx hb d_M_greater_5 (by decide) (fun c2 => ?_) (fun c2 => ?_)
  · have h := if_t c2 h
    refine lv_lload_n hx hb d_M_greater_12 rfl (lv_at hl 0 rfl) ?_
    cases h
    exact fg_retl () hx hb hr hlocks ⟨rfl, trivial⟩ me_P0 (hK.sub (tys' := []) [] rfl) me_D0 hS (Nat.le_of_ble_eq_true rfl) (Nat.le_of_ble_eq_true rfl) d_M_greater_13
  have h := if_f c2 h
  refine lv_lload_n hx hb d_M_greater_8 rfl (lv_at hl 1 rfl) ?_
  refine lv_goto (tgt := 13) hx hb d_M_greater_9 (by decide) ?_
  cases h
  exact fg_retl () hx hb hr hlocks ⟨rfl, trivial⟩ me_P0 (hK.sub (tys' := []) [] rfl) me_D0 hS (Nat.le_of_ble_eq_true rfl) (Nat.le_of_ble_eq_true rfl) d_M_greater_13
theorem d_M_isEmpty_0 : decode prog_14_method_11_code 0 = .ok (.aload_n 0, 1) := by decide +kernel
theorem d_M_isEmpty_1 : decode prog_14_method_11_code 1 = .ok (.getfield 113, 3) := by decide +kernel
theorem d_M_isEmpty_4 : decode prog_14_method_11_code 4 = .ok (.iload_n 1, 1) := by decide +kernel
theorem d_M_isEmpty_5 : decode prog_14_method_11_code 5 = .ok (.laload, 1) := by decide +kernel
theorem d_M_isEmpty_6 : decode prog_14_method_11_code 6 = .ok (.aload_n 0, 1) := by decide +kernel
theorem d_M_isEmpty_7 : decode prog_14_method_11_code 7 = .ok (.getfield 110, 3) := by decide +kernel
theorem d_M_isEmpty_10 : decode prog_14_method_11_code 10 = .ok (.iload_n 1, 1) := by decide +kernel
theorem d_M_isEmpty_11 : decode prog_14_method_11_code 11 = .ok (.laload, 1) := by decide +kernel
theorem d_M_isEmpty_12 : decode prog_14_method_11_code 12 = .ok (.invokestatic 158, 3) := by decide +kernel
theorem d_M_isEmpty_15 : decode prog_14_method_11_code 15 = .ok (.ifCond .ne 19, 3) := by decide +kernel
theorem d_M_isEmpty_34 : decode prog_14_method_11_code 34 = .ok (.iconst 1, 1) := by decide +kernel
theorem d_M_isEmpty_35 : decode prog_14_method_11_code 35 = .ok (.goto 4, 3) := by decide +kernel
theorem d_M_isEmpty_39 : decode prog_14_method_11_code 39 = .ok (.ireturn, 1) := by decide +kernel
theorem d_M_isEmpty_18 : decode prog_14_method_11_code 18 = .ok (.aload_n 0, 1) := by decide +kernel
theorem d_M_isEmpty_19 : decode prog_14_method_11_code 19 = .ok (.getfield 116, 3) := by decide +kernel
theorem d_M_isEmpty_22 : decode prog_14_method_11_code 22 = .ok (.iload_n 1, 1) := by decide +kernel
theorem d_M_isEmpty_23 : decode prog_14_method_11_code 23 = .ok (.laload, 1) := by decide +kernel
theorem d_M_isEmpty_24 : decode prog_14_method_11_code 24 = .ok (.aload_n 0, 1) := by decide +kernel
theorem d_M_isEmpty_25 : decode prog_14_method_11_code 25 = .ok (.getfield 119, 3) := by decide +kernel
theorem d_M_isEmpty_28 : decode prog_14_method_11_code 28 = .ok (.iload_n 1, 1) := by decide +kernel
theorem d_M_isEmpty_29 : decode prog_14_method_11_code 29 = .ok (.laload, 1) := by decide +kernel
theorem d_M_isEmpty_30 : decode prog_14_method_11_code 30 = .ok (.lcmp, 1) := by decide +kernel
theorem d_M_isEmpty_31 : decode prog_14_method_11_code 31 = .ok (.ifCond .le 7, 3) := by decide +kernel
theorem d_M_isEmpty_38 : decode prog_14_method_11_code 38 = .ok (.iconst 0, 1) := by decide +kernel
abbrev y_M_isEmpty : MethodName := ⟨"FilterGuardModel", "isEmpty", "(I)Z"⟩
def f_M_isEmpty (M : me_M) (j0 : Nat) (x1 : Int32) : Option (me_M × Int32) := bd (mR M 1 j0 55) (fun (j1 : Nat) => gd (¬ (x1 < 0 ∨ mZ M 16 j1 ≤ x1.toNatClampNeg)) (bd (mR M 1 j0 54) (fun (j4 : Nat) => gd (¬ (x1 < 0 ∨ mZ M 16 j4 ≤ x1.toNatClampNeg)) (bd (f_M_below (mL M 16 j1 x1.toNatClampNeg) (mL M 16 j4 x1.toNatClampNeg)) (fun (r7 : Int32) => (if r7 = 0 then bd (mR M 1 j0 56) (fun (j10 : Nat) => gd (¬ (x1 < 0 ∨ mZ M 16 j10 ≤ x1.toNatClampNeg)) (bd (mR M 1 j0 57) (fun (j13 : Nat) => gd (¬ (x1 < 0 ∨ mZ M 16 j13 ≤ x1.toNatClampNeg)) ((if (mL M 16 j13 x1.toNatClampNeg) < (mL M 16 j10 x1.toNatClampNeg) then some (M, (1 : Int32)) else some (M, (0 : Int32))))))) else some (M, (1 : Int32))))))))
def rm_M_isEmpty : Room := { frames := 2, cells := 0, slots := 0, locals := 43 }
abbrev q_M_isEmpty (D : va_G) (ad : Nat → Nat → Nat) (ca : Nat → ClassId) (N : Nat → Nat) (M9 : me_M) (r9 : Int32) (A : Nat → Prop) : Array Value → Jvm.State → Outcome → Jvm.State → Prop := va_Qi (fun r (_ : Unit) => r = r9 ∧ me_wf N M9 ∧ (r9 = 1 ∨ r9 = 0)) (fg_B D A (fun _ => me_W ad ca M9) (fun _ => [])) A
set_option maxHeartbeats 4000000 in
set_option maxRecDepth 100000 in
theorem c_M_isEmpty (l : Launch) (D : va_G) (ad : Nat → Nat → Nat) (ca : Nat → ClassId) (N : Nat → Nat) (M M9 : me_M) (r9 : Int32) (j0 : Nat) (x1 : Int32) (h : f_M_isEmpty M j0 x1 = (some (M9, r9))) (hwf : me_wf N M) (hj0 : j0 < N 1) (sz : Nat) : Met l y_M_isEmpty (fg_w y_M_isEmpty prog_14_method_11_code 2 (some .boolean)) rm_M_isEmpty (va_Pc [.ref (ad 1 j0), .int x1] (fz_P D (me_T ca) (me_W ad ca M) sz)) (q_M_isEmpty D ad ca N M9 r9 (va_A (me_W ad ca M) sz)) rm_M_isEmpty.cells rm_M_isEmpty.slots (va_A (me_W ad ca M) sz) := by
  refine fz_enter (fun A => q_M_isEmpty D ad ca N M9 r9 A) (by decide +kernel) (Nat.le_of_ble_eq_true rfl) ?_
  intro p e s m below meth c ls A hx hb hml hown hts hr hlocks hin hP hK hD hS hA hX hl hz
  have hl : lv_has ls 2 [(0, .ref (ad 1 j0)), (1, .int x1)] := hl
  unfold f_M_isEmpty at h
  refine lv_aload_n hx hb d_M_isEmpty_0 rfl (lv_at hl 0 rfl) ?_
  refine g_M_55 hx hb hts hown hK hP hwf hj0 (hts _ u_1796) d_M_isEmpty_1 ?_
  obtain ⟨j1, e2, h⟩ := bd_ob h
  have hj1 : j1 < N 16 := (hwf.2.1 1 j0 55 _ e2 (by decide) hj0)
  refine me_opt (j := j1) e2 ?_
  refine lv_iload_n hx hb d_M_isEmpty_4 rfl (lv_at hl 1 rfl) ?_
  obtain ⟨g3, h⟩ := gd_ob h
  refine me_lald hx hb hK hP hwf hj1 g3 d_M_isEmpty_5 ?_
  refine lv_aload_n hx hb d_M_isEmpty_6 rfl (lv_at hl 0 rfl) ?_
  refine g_M_54 hx hb hts hown hK hP hwf hj0 (hts _ u_1795) d_M_isEmpty_7 ?_
  obtain ⟨j4, e5, h⟩ := bd_ob h
  have hj4 : j4 < N 16 := (hwf.2.1 1 j0 54 _ e5 (by decide) hj0)
  refine me_opt (j := j4) e5 ?_
  refine lv_iload_n hx hb d_M_isEmpty_10 rfl (lv_at hl 1 rfl) ?_
  obtain ⟨g6, h⟩ := gd_ob h
  refine me_lald hx hb hK hP hwf hj4 g6 d_M_isEmpty_11 ?_
  obtain ⟨r7, er7, h⟩ := bd_ob h
  refine me_pani' (r0 := r7) (fg_runS (wc := []) (tc := []) (A2 := A) (As := [.long (mL M 16 j1 x1.toNatClampNeg), .long (mL M 16 j4 x1.toNatClampNeg)]) (rest := []) ⟨hx, hb, hml, hown, hts⟩ (c_M_below l D r7 (mL M 16 j1 x1.toNatClampNeg) (mL M 16 j4 x1.toNatClampNeg) er7 _) (by show fg_nm y_M_below 2; decide +kernel) u_2072 u_2073 u_192 u_2074 ⟨Nat.le_of_ble_eq_true rfl, Nat.le_of_ble_eq_true rfl⟩ hX me_P0 (hK.sub (tys' := []) [] rfl) me_D0 rfl hl.1 (Nat.le_of_ble_eq_true rfl) d_M_isEmpty_12 ⟨Nat.le_of_ble_eq_true rfl, Nat.le_of_ble_eq_true rfl⟩) hP hD hK hS hA rfl rfl (fun H locs hw hP hD hS => ?_)
  have zr7 := hw
  refine lv_if_ne (tgt := 34) hx hb d_M_isEmpty_15 (by decide) (fun c8 => ?_) (fun c8 => ?_)
  · have h := if_f c8 h
    refine lv_iconst (v := 1) hx hb d_M_isEmpty_34 (by decide) ?_
    refine lv_goto (tgt := 39) hx hb d_M_isEmpty_35 (by decide) ?_
    have z9 : (1 : Int32) = 1 ∨ (1 : Int32) = 0 := (by decide)
    cases h
    exact fg_retz () hx hb hr hlocks (me_nz z9) ⟨rfl, ⟨hwf, z9⟩⟩ hP (hK.sub (tys' := []) [] rfl) hD hS (Nat.le_of_ble_eq_true rfl) (Nat.le_of_ble_eq_true rfl) d_M_isEmpty_39
  have h := if_t c8 h
  refine lv_aload_n hx hb d_M_isEmpty_18 rfl (lv_at hl 0 rfl) ?_
  refine g_M_56 hx hb hts hown hK hP hwf hj0 (hts _ u_1797) d_M_isEmpty_19 ?_
  obtain ⟨j10, e11, h⟩ := bd_ob h
  have hj10 : j10 < N 16 := (hwf.2.1 1 j0 56 _ e11 (by decide) hj0)
  refine me_opt (j := j10) e11 ?_
  refine lv_iload_n hx hb d_M_isEmpty_22 rfl (lv_at hl 1 rfl) ?_
  obtain ⟨g12, h⟩ := gd_ob h
  refine me_lald hx hb hK hP hwf hj10 g12 d_M_isEmpty_23 ?_
  refine lv_aload_n hx hb d_M_isEmpty_24 rfl (lv_at hl 0 rfl) ?_
  refine g_M_57 hx hb hts hown hK hP hwf hj0 (hts _ u_1798) d_M_isEmpty_25 ?_
  obtain ⟨j13, e14, h⟩ := bd_ob h
  have hj13 : j13 < N 16 := (hwf.2.1 1 j0 57 _ e14 (by decide) hj0)
  refine me_opt (j := j13) e14 ?_
  refine lv_iload_n hx hb d_M_isEmpty_28 rfl (lv_at hl 1 rfl) ?_
  obtain ⟨g15, h⟩ := gd_ob h
  refine me_lald hx hb hK hP hwf hj13 g15 d_M_isEmpty_29 ?_
  refine W.lcmp hx hb d_M_isEmpty_30 ?_
  refine lv_if_le (tgt := 38) hx hb d_M_isEmpty_31 (by decide) (fun c16 => ?_) (fun c16 => ?_)
  · have h := if_f (Int64.not_lt.mpr ((lg_cmp_le _ _).mp c16)) h
    refine lv_iconst (v := 0) hx hb d_M_isEmpty_38 (by decide) ?_
    have z17 : (0 : Int32) = 1 ∨ (0 : Int32) = 0 := (by decide)
    cases h
    exact fg_retz () hx hb hr hlocks (me_nz z17) ⟨rfl, ⟨hwf, z17⟩⟩ hP (hK.sub (tys' := []) [] rfl) hD hS (Nat.le_of_ble_eq_true rfl) (Nat.le_of_ble_eq_true rfl) d_M_isEmpty_39
  have h := if_t (Int64.not_le.mp (fun z => c16 ((lg_cmp_le _ _).mpr z))) h
  refine lv_iconst (v := 1) hx hb d_M_isEmpty_34 (by decide) ?_
  refine lv_goto (tgt := 39) hx hb d_M_isEmpty_35 (by decide) ?_
  have z18 : (1 : Int32) = 1 ∨ (1 : Int32) = 0 := (by decide)
  cases h
  exact fg_retz () hx hb hr hlocks (me_nz z18) ⟨rfl, ⟨hwf, z18⟩⟩ hP (hK.sub (tys' := []) [] rfl) hD hS (Nat.le_of_ble_eq_true rfl) (Nat.le_of_ble_eq_true rfl) d_M_isEmpty_39
theorem d_M_byBits_0 : decode prog_14_method_13_code 0 = .ok (.aload_n 0, 1) := by decide +kernel
theorem d_M_byBits_1 : decode prog_14_method_13_code 1 = .ok (.getfield 110, 3) := by decide +kernel
theorem d_M_byBits_4 : decode prog_14_method_13_code 4 = .ok (.iload_n 1, 1) := by decide +kernel
theorem d_M_byBits_5 : decode prog_14_method_13_code 5 = .ok (.aload_n 0, 1) := by decide +kernel
theorem d_M_byBits_6 : decode prog_14_method_13_code 6 = .ok (.getfield 110, 3) := by decide +kernel
theorem d_M_byBits_9 : decode prog_14_method_13_code 9 = .ok (.iload_n 1, 1) := by decide +kernel
theorem d_M_byBits_10 : decode prog_14_method_13_code 10 = .ok (.laload, 1) := by decide +kernel
theorem d_M_byBits_11 : decode prog_14_method_13_code 11 = .ok (.aload_n 0, 1) := by decide +kernel
theorem d_M_byBits_12 : decode prog_14_method_13_code 12 = .ok (.getfield 104, 3) := by decide +kernel
theorem d_M_byBits_15 : decode prog_14_method_13_code 15 = .ok (.iload_n 1, 1) := by decide +kernel
theorem d_M_byBits_16 : decode prog_14_method_13_code 16 = .ok (.laload, 1) := by decide +kernel
theorem d_M_byBits_17 : decode prog_14_method_13_code 17 = .ok (.invokestatic 166, 3) := by decide +kernel
theorem u_2151 : Cond.methodLink "FilterGuardModel" 166 ⟨"FilterGuardModel", "greater", "(JJ)J"⟩ ∈ fg_g := fg_in (List.mem_of_getElem? (i := 2151) (by decide +kernel)) rfl
theorem u_2153 : Cond.code ⟨"FilterGuardModel", "greater", "(JJ)J"⟩ prog_14_method_6_code 4 (some .long) ∈ fg_g := fg_in (List.mem_of_getElem? (i := 2153) (by decide +kernel)) rfl
theorem u_2152 : Cond.static ⟨"FilterGuardModel", "greater", "(JJ)J"⟩ ∈ fg_g := fg_in (List.mem_of_getElem? (i := 2152) (by decide +kernel)) rfl
theorem d_M_byBits_20 : decode prog_14_method_13_code 20 = .ok (.lastore, 1) := by decide +kernel
theorem d_M_byBits_21 : decode prog_14_method_13_code 21 = .ok (.aload_n 0, 1) := by decide +kernel
theorem d_M_byBits_22 : decode prog_14_method_13_code 22 = .ok (.getfield 113, 3) := by decide +kernel
theorem d_M_byBits_25 : decode prog_14_method_13_code 25 = .ok (.iload_n 1, 1) := by decide +kernel
theorem d_M_byBits_26 : decode prog_14_method_13_code 26 = .ok (.aload_n 0, 1) := by decide +kernel
theorem d_M_byBits_27 : decode prog_14_method_13_code 27 = .ok (.getfield 113, 3) := by decide +kernel
theorem d_M_byBits_30 : decode prog_14_method_13_code 30 = .ok (.iload_n 1, 1) := by decide +kernel
theorem d_M_byBits_31 : decode prog_14_method_13_code 31 = .ok (.laload, 1) := by decide +kernel
theorem d_M_byBits_32 : decode prog_14_method_13_code 32 = .ok (.aload_n 0, 1) := by decide +kernel
theorem d_M_byBits_33 : decode prog_14_method_13_code 33 = .ok (.getfield 104, 3) := by decide +kernel
theorem d_M_byBits_36 : decode prog_14_method_13_code 36 = .ok (.iload_n 1, 1) := by decide +kernel
theorem d_M_byBits_37 : decode prog_14_method_13_code 37 = .ok (.laload, 1) := by decide +kernel
theorem d_M_byBits_38 : decode prog_14_method_13_code 38 = .ok (.aload_n 0, 1) := by decide +kernel
theorem d_M_byBits_39 : decode prog_14_method_13_code 39 = .ok (.getfield 107, 3) := by decide +kernel
theorem d_M_byBits_42 : decode prog_14_method_13_code 42 = .ok (.iload_n 1, 1) := by decide +kernel
theorem d_M_byBits_43 : decode prog_14_method_13_code 43 = .ok (.laload, 1) := by decide +kernel
theorem d_M_byBits_44 : decode prog_14_method_13_code 44 = .ok (.lor, 1) := by decide +kernel
theorem d_M_byBits_45 : decode prog_14_method_13_code 45 = .ok (.invokestatic 170, 3) := by decide +kernel
theorem u_2154 : Cond.methodLink "FilterGuardModel" 170 ⟨"FilterGuardModel", "lesser", "(JJ)J"⟩ ∈ fg_g := fg_in (List.mem_of_getElem? (i := 2154) (by decide +kernel)) rfl
theorem u_2156 : Cond.code ⟨"FilterGuardModel", "lesser", "(JJ)J"⟩ prog_14_method_5_code 4 (some .long) ∈ fg_g := fg_in (List.mem_of_getElem? (i := 2156) (by decide +kernel)) rfl
theorem u_2155 : Cond.static ⟨"FilterGuardModel", "lesser", "(JJ)J"⟩ ∈ fg_g := fg_in (List.mem_of_getElem? (i := 2155) (by decide +kernel)) rfl
theorem d_M_byBits_48 : decode prog_14_method_13_code 48 = .ok (.lastore, 1) := by decide +kernel
theorem d_M_byBits_49 : decode prog_14_method_13_code 49 = .ok (.aload_n 0, 1) := by decide +kernel
theorem d_M_byBits_50 : decode prog_14_method_13_code 50 = .ok (.iload_n 1, 1) := by decide +kernel
theorem d_M_byBits_51 : decode prog_14_method_13_code 51 = .ok (.invokevirtual 173, 3) := by decide +kernel
theorem u_2157 : Cond.methodLink "FilterGuardModel" 173 ⟨"FilterGuardModel", "isEmpty", "(I)Z"⟩ ∈ fg_g := fg_in (List.mem_of_getElem? (i := 2157) (by decide +kernel)) rfl
theorem u_2160 : Cond.code ⟨"FilterGuardModel", "isEmpty", "(I)Z"⟩ prog_14_method_11_code 2 (some .boolean) ∈ fg_g := fg_in (List.mem_of_getElem? (i := 2160) (by decide +kernel)) rfl
theorem u_2159 : Cond.instanceMethod ⟨"FilterGuardModel", "isEmpty", "(I)Z"⟩ ∈ fg_g := fg_in (List.mem_of_getElem? (i := 2159) (by decide +kernel)) rfl
theorem u_115 : Cond.selects "FilterGuardModel" ⟨"FilterGuardModel", "isEmpty", "(I)Z"⟩ ⟨"FilterGuardModel", "isEmpty", "(I)Z"⟩ ∈ fg_g := fg_in (List.mem_of_getElem? (i := 115) (by decide +kernel)) rfl
theorem d_M_byBits_54 : decode prog_14_method_13_code 54 = .ok (.ifCond .ne 7, 3) := by decide +kernel
theorem d_M_byBits_61 : decode prog_14_method_13_code 61 = .ok (.iconst 0, 1) := by decide +kernel
theorem d_M_byBits_62 : decode prog_14_method_13_code 62 = .ok (.ireturn, 1) := by decide +kernel
theorem d_M_byBits_57 : decode prog_14_method_13_code 57 = .ok (.iconst 1, 1) := by decide +kernel
theorem d_M_byBits_58 : decode prog_14_method_13_code 58 = .ok (.goto 4, 3) := by decide +kernel
abbrev y_M_byBits : MethodName := ⟨"FilterGuardModel", "byBits", "(I)Z"⟩
def f_M_byBits (M : me_M) (j0 : Nat) (x1 : Int32) : Option (me_M × Int32) := bd (mR M 1 j0 54) (fun (j1 : Nat) => bd (mR M 1 j0 54) (fun (j3 : Nat) => gd (¬ (x1 < 0 ∨ mZ M 16 j3 ≤ x1.toNatClampNeg)) (bd (mR M 1 j0 52) (fun (j6 : Nat) => gd (¬ (x1 < 0 ∨ mZ M 16 j6 ≤ x1.toNatClampNeg)) (bd (f_M_greater (mL M 16 j3 x1.toNatClampNeg) (mL M 16 j6 x1.toNatClampNeg)) (fun (r9 : Int64) => gd (¬ (x1 < 0 ∨ mZ M 16 j1 ≤ x1.toNatClampNeg)) (st (wL M 16 j1 x1.toNatClampNeg r9) (fun (M11 : me_M) => bd (mR M11 1 j0 55) (fun (j12 : Nat) => bd (mR M11 1 j0 55) (fun (j14 : Nat) => gd (¬ (x1 < 0 ∨ mZ M11 16 j14 ≤ x1.toNatClampNeg)) (bd (mR M11 1 j0 52) (fun (j17 : Nat) => gd (¬ (x1 < 0 ∨ mZ M11 16 j17 ≤ x1.toNatClampNeg)) (bd (mR M11 1 j0 53) (fun (j20 : Nat) => gd (¬ (x1 < 0 ∨ mZ M11 16 j20 ≤ x1.toNatClampNeg)) (bd (f_M_lesser (mL M11 16 j14 x1.toNatClampNeg) ((mL M11 16 j17 x1.toNatClampNeg) ||| (mL M11 16 j20 x1.toNatClampNeg))) (fun (r23 : Int64) => gd (¬ (x1 < 0 ∨ mZ M11 16 j12 ≤ x1.toNatClampNeg)) (st (wL M11 16 j12 x1.toNatClampNeg r23) (fun (M25 : me_M) => b2 (f_M_isEmpty M25 j0 x1) (fun (M26 : me_M) (r27 : Int32) => (if r27 = 0 then some (M26, (1 : Int32)) else some (M26, (0 : Int32))))))))))))))))))))))
def rm_M_byBits : Room := { frames := 3, cells := 0, slots := 0, locals := 66 }
abbrev q_M_byBits (D : va_G) (ad : Nat → Nat → Nat) (ca : Nat → ClassId) (N : Nat → Nat) (M9 : me_M) (r9 : Int32) (A : Nat → Prop) : Array Value → Jvm.State → Outcome → Jvm.State → Prop := va_Qi (fun r (_ : Unit) => r = r9 ∧ me_wf N M9 ∧ (r9 = 1 ∨ r9 = 0)) (fg_B D A (fun _ => me_W ad ca M9) (fun _ => [])) A
set_option maxHeartbeats 4000000 in
set_option maxRecDepth 100000 in
theorem c_M_byBits (l : Launch) (D : va_G) (ad : Nat → Nat → Nat) (ca : Nat → ClassId) (N : Nat → Nat) (M M9 : me_M) (r9 : Int32) (j0 : Nat) (x1 : Int32) (h : f_M_byBits M j0 x1 = (some (M9, r9))) (hwf : me_wf N M) (hj0 : j0 < N 1) (sz : Nat) : Met l y_M_byBits (fg_w y_M_byBits prog_14_method_13_code 2 (some .boolean)) rm_M_byBits (va_Pc [.ref (ad 1 j0), .int x1] (fz_P D (me_T ca) (me_W ad ca M) sz)) (q_M_byBits D ad ca N M9 r9 (va_A (me_W ad ca M) sz)) rm_M_byBits.cells rm_M_byBits.slots (va_A (me_W ad ca M) sz) := by
  refine fz_enter (fun A => q_M_byBits D ad ca N M9 r9 A) (by decide +kernel) (Nat.le_of_ble_eq_true rfl) ?_
  intro p e s m below meth c ls A hx hb hml hown hts hr hlocks hin hP hK hD hS hA hX hl hz
  have hl : lv_has ls 2 [(0, .ref (ad 1 j0)), (1, .int x1)] := hl
  unfold f_M_byBits at h
  refine lv_aload_n hx hb d_M_byBits_0 rfl (lv_at hl 0 rfl) ?_
  refine g_M_54 hx hb hts hown hK hP hwf hj0 (hts _ u_1795) d_M_byBits_1 ?_
  obtain ⟨j1, e2, h⟩ := bd_ob h
  have hj1 : j1 < N 16 := (hwf.2.1 1 j0 54 _ e2 (by decide) hj0)
  refine me_opt (j := j1) e2 ?_
  refine lv_iload_n hx hb d_M_byBits_4 rfl (lv_at hl 1 rfl) ?_
  refine lv_aload_n hx hb d_M_byBits_5 rfl (lv_at hl 0 rfl) ?_
  refine g_M_54 hx hb hts hown hK hP hwf hj0 (hts _ u_1795) d_M_byBits_6 ?_
  obtain ⟨j3, e4, h⟩ := bd_ob h
  have hj3 : j3 < N 16 := (hwf.2.1 1 j0 54 _ e4 (by decide) hj0)
  refine me_opt (j := j3) e4 ?_
  refine lv_iload_n hx hb d_M_byBits_9 rfl (lv_at hl 1 rfl) ?_
  obtain ⟨g5, h⟩ := gd_ob h
  refine me_lald hx hb hK hP hwf hj3 g5 d_M_byBits_10 ?_
  refine lv_aload_n hx hb d_M_byBits_11 rfl (lv_at hl 0 rfl) ?_
  refine g_M_52 hx hb hts hown hK hP hwf hj0 (hts _ u_1793) d_M_byBits_12 ?_
  obtain ⟨j6, e7, h⟩ := bd_ob h
  have hj6 : j6 < N 16 := (hwf.2.1 1 j0 52 _ e7 (by decide) hj0)
  refine me_opt (j := j6) e7 ?_
  refine lv_iload_n hx hb d_M_byBits_15 rfl (lv_at hl 1 rfl) ?_
  obtain ⟨g8, h⟩ := gd_ob h
  refine me_lald hx hb hK hP hwf hj6 g8 d_M_byBits_16 ?_
  obtain ⟨r9, er9, h⟩ := bd_ob h
  refine me_panl' (r0 := r9) (fg_runS (wc := []) (tc := []) (A2 := A) (As := [.long (mL M 16 j3 x1.toNatClampNeg), .long (mL M 16 j6 x1.toNatClampNeg)]) (rest := [.int x1, .ref (ad 16 j1)]) ⟨hx, hb, hml, hown, hts⟩ (c_M_greater l D r9 (mL M 16 j3 x1.toNatClampNeg) (mL M 16 j6 x1.toNatClampNeg) er9 _) (by show fg_nm y_M_greater 2; decide +kernel) u_2151 u_2152 u_192 u_2153 ⟨Nat.le_of_ble_eq_true rfl, Nat.le_of_ble_eq_true rfl⟩ hX me_P0 (hK.sub (tys' := []) [] rfl) me_D0 rfl hl.1 (Nat.le_of_ble_eq_true rfl) d_M_byBits_17 ⟨Nat.le_of_ble_eq_true rfl, Nat.le_of_ble_eq_true rfl⟩) hP hD hK hS hA rfl rfl (fun H locs hw hP hD hS => ?_)
  obtain ⟨g10, h⟩ := gd_ob h
  obtain ⟨M11, eM11, h⟩ := st_ob h
  refine me_last eM11 hx hb hK hP hD hwf hS hj1 g10 d_M_byBits_20 (fun H locs hP hD hwf hS => ?_)
  refine lv_aload_n hx hb d_M_byBits_21 rfl (lv_at hl 0 rfl) ?_
  refine g_M_55 hx hb hts hown hK hP hwf hj0 (hts _ u_1796) d_M_byBits_22 ?_
  obtain ⟨j12, e13, h⟩ := bd_ob h
  have hj12 : j12 < N 16 := (hwf.2.1 1 j0 55 _ e13 (by decide) hj0)
  refine me_opt (j := j12) e13 ?_
  refine lv_iload_n hx hb d_M_byBits_25 rfl (lv_at hl 1 rfl) ?_
  refine lv_aload_n hx hb d_M_byBits_26 rfl (lv_at hl 0 rfl) ?_
  refine g_M_55 hx hb hts hown hK hP hwf hj0 (hts _ u_1796) d_M_byBits_27 ?_
  obtain ⟨j14, e15, h⟩ := bd_ob h
  have hj14 : j14 < N 16 := (hwf.2.1 1 j0 55 _ e15 (by decide) hj0)
  refine me_opt (j := j14) e15 ?_
  refine lv_iload_n hx hb d_M_byBits_30 rfl (lv_at hl 1 rfl) ?_
  obtain ⟨g16, h⟩ := gd_ob h
  refine me_lald hx hb hK hP hwf hj14 g16 d_M_byBits_31 ?_
  refine lv_aload_n hx hb d_M_byBits_32 rfl (lv_at hl 0 rfl) ?_
  refine g_M_52 hx hb hts hown hK hP hwf hj0 (hts _ u_1793) d_M_byBits_33 ?_
  obtain ⟨j17, e18, h⟩ := bd_ob h
  have hj17 : j17 < N 16 := (hwf.2.1 1 j0 52 _ e18 (by decide) hj0)
  refine me_opt (j := j17) e18 ?_
  refine lv_iload_n hx hb d_M_byBits_36 rfl (lv_at hl 1 rfl) ?_
  obtain ⟨g19, h⟩ := gd_ob h
  refine me_lald hx hb hK hP hwf hj17 g19 d_M_byBits_37 ?_
  refine lv_aload_n hx hb d_M_byBits_38 rfl (lv_at hl 0 rfl) ?_
  refine g_M_53 hx hb hts hown hK hP hwf hj0 (hts _ u_1794) d_M_byBits_39 ?_
  obtain ⟨j20, e21, h⟩ := bd_ob h
  have hj20 : j20 < N 16 := (hwf.2.1 1 j0 53 _ e21 (by decide) hj0)
  refine me_opt (j := j20) e21 ?_
  refine lv_iload_n hx hb d_M_byBits_42 rfl (lv_at hl 1 rfl) ?_
  obtain ⟨g22, h⟩ := gd_ob h
  refine me_lald hx hb hK hP hwf hj20 g22 d_M_byBits_43 ?_
  refine lv_lor hx hb d_M_byBits_44 ?_
  obtain ⟨r23, er23, h⟩ := bd_ob h
  refine me_panl' (r0 := r23) (fg_runS (wc := []) (tc := []) (A2 := A) (As := [.long (mL M11 16 j14 x1.toNatClampNeg), .long ((mL M11 16 j17 x1.toNatClampNeg) ||| (mL M11 16 j20 x1.toNatClampNeg))]) (rest := [.int x1, .ref (ad 16 j12)]) ⟨hx, hb, hml, hown, hts⟩ (c_M_lesser l D r23 (mL M11 16 j14 x1.toNatClampNeg) ((mL M11 16 j17 x1.toNatClampNeg) ||| (mL M11 16 j20 x1.toNatClampNeg)) er23 _) (by show fg_nm y_M_lesser 2; decide +kernel) u_2154 u_2155 u_192 u_2156 ⟨Nat.le_of_ble_eq_true rfl, Nat.le_of_ble_eq_true rfl⟩ hX me_P0 (hK.sub (tys' := []) [] rfl) me_D0 rfl hl.1 (Nat.le_of_ble_eq_true rfl) d_M_byBits_45 ⟨Nat.le_of_ble_eq_true rfl, Nat.le_of_ble_eq_true rfl⟩) hP hD hK hS hA rfl rfl (fun H locs hw hP hD hS => ?_)
  obtain ⟨g24, h⟩ := gd_ob h
  obtain ⟨M25, eM25, h⟩ := st_ob h
  refine me_last eM25 hx hb hK hP hD hwf hS hj12 g24 d_M_byBits_48 (fun H locs hP hD hwf hS => ?_)
  refine lv_aload_n hx hb d_M_byBits_49 rfl (lv_at hl 0 rfl) ?_
  refine lv_iload_n hx hb d_M_byBits_50 rfl (lv_at hl 1 rfl) ?_
  obtain ⟨M26, r27, eM26, h⟩ := b2_ob h
  refine me_theni0 (M1 := M26) (me_runV (C := "FilterGuardModel") (As := [.int x1]) (rest := []) ⟨hx, hb, hml, hown, hts⟩ (c_M_isEmpty l D ad ca N M25 M26 r27 j0 x1 eM26 hwf hj0 _) rfl (by show fg_nm y_M_isEmpty 1; decide +kernel) u_2157 u_2159 u_115 u_192 u_2160 ⟨Nat.le_of_ble_eq_true rfl, Nat.le_of_ble_eq_true rfl⟩ hX hz hK hP hD hwf hS hA hj0 (by decide) rfl rfl rfl hl.1 (Nat.le_of_ble_eq_true rfl) d_M_byBits_51 ⟨Nat.le_of_ble_eq_true rfl, Nat.le_of_ble_eq_true rfl⟩) hP hD hK hS hA rfl rfl (fun H locs hw hP hD hS => ?_)
  obtain ⟨hwf, zr27⟩ := hw
  refine lv_if_ne (tgt := 61) hx hb d_M_byBits_54 (by decide) (fun c28 => ?_) (fun c28 => ?_)
  · have h := if_f c28 h
    refine lv_iconst (v := 0) hx hb d_M_byBits_61 (by decide) ?_
    have z29 : (0 : Int32) = 1 ∨ (0 : Int32) = 0 := (by decide)
    cases h
    exact fg_retz () hx hb hr hlocks (me_nz z29) ⟨rfl, ⟨hwf, z29⟩⟩ hP (hK.sub (tys' := []) [] rfl) hD hS (Nat.le_of_ble_eq_true rfl) (Nat.le_of_ble_eq_true rfl) d_M_byBits_62
  have h := if_t c28 h
  refine lv_iconst (v := 1) hx hb d_M_byBits_57 (by decide) ?_
  refine lv_goto (tgt := 62) hx hb d_M_byBits_58 (by decide) ?_
  have z30 : (1 : Int32) = 1 ∨ (1 : Int32) = 0 := (by decide)
  cases h
  exact fg_retz () hx hb hr hlocks (me_nz z30) ⟨rfl, ⟨hwf, z30⟩⟩ hP (hK.sub (tys' := []) [] rfl) hD hS (Nat.le_of_ble_eq_true rfl) (Nat.le_of_ble_eq_true rfl) d_M_byBits_62
theorem d_M_toSigned_109 : decode prog_14_method_14_code 109 = .ok (.aload_n 0, 1) := by decide +kernel
theorem d_M_toSigned_110 : decode prog_14_method_14_code 110 = .ok (.iload_n 1, 1) := by decide +kernel
theorem d_M_toSigned_111 : decode prog_14_method_14_code 111 = .ok (.invokevirtual 173, 3) := by decide +kernel
theorem d_M_toSigned_114 : decode prog_14_method_14_code 114 = .ok (.ifCond .ne 7, 3) := by decide +kernel
theorem d_M_toSigned_121 : decode prog_14_method_14_code 121 = .ok (.iconst 0, 1) := by decide +kernel
theorem d_M_toSigned_122 : decode prog_14_method_14_code 122 = .ok (.ireturn, 1) := by decide +kernel
theorem d_M_toSigned_117 : decode prog_14_method_14_code 117 = .ok (.iconst 1, 1) := by decide +kernel
theorem d_M_toSigned_118 : decode prog_14_method_14_code 118 = .ok (.goto 4, 3) := by decide +kernel
theorem d_M_toSigned_108 : decode prog_14_method_14_code 108 = .ok (.lastore, 1) := by decide +kernel
theorem d_M_toSigned_71 : decode prog_14_method_14_code 71 = .ok (.lastore, 1) := by decide +kernel
theorem d_M_toSigned_72 : decode prog_14_method_14_code 72 = .ok (.aload_n 0, 1) := by decide +kernel
theorem d_M_toSigned_73 : decode prog_14_method_14_code 73 = .ok (.getfield 119, 3) := by decide +kernel
theorem d_M_toSigned_76 : decode prog_14_method_14_code 76 = .ok (.iload_n 1, 1) := by decide +kernel
theorem d_M_toSigned_77 : decode prog_14_method_14_code 77 = .ok (.aload_n 0, 1) := by decide +kernel
theorem d_M_toSigned_78 : decode prog_14_method_14_code 78 = .ok (.getfield 119, 3) := by decide +kernel
theorem d_M_toSigned_81 : decode prog_14_method_14_code 81 = .ok (.iload_n 1, 1) := by decide +kernel
theorem d_M_toSigned_82 : decode prog_14_method_14_code 82 = .ok (.laload, 1) := by decide +kernel
theorem d_M_toSigned_83 : decode prog_14_method_14_code 83 = .ok (.aload_n 0, 1) := by decide +kernel
theorem d_M_toSigned_84 : decode prog_14_method_14_code 84 = .ok (.getfield 113, 3) := by decide +kernel
theorem d_M_toSigned_87 : decode prog_14_method_14_code 87 = .ok (.iload_n 1, 1) := by decide +kernel
theorem d_M_toSigned_88 : decode prog_14_method_14_code 88 = .ok (.laload, 1) := by decide +kernel
theorem d_M_toSigned_89 : decode prog_14_method_14_code 89 = .ok (.lcmp, 1) := by decide +kernel
theorem d_M_toSigned_90 : decode prog_14_method_14_code 90 = .ok (.ifCond .ge 12, 3) := by decide +kernel
theorem d_M_toSigned_102 : decode prog_14_method_14_code 102 = .ok (.aload_n 0, 1) := by decide +kernel
theorem d_M_toSigned_103 : decode prog_14_method_14_code 103 = .ok (.getfield 113, 3) := by decide +kernel
theorem d_M_toSigned_106 : decode prog_14_method_14_code 106 = .ok (.iload_n 1, 1) := by decide +kernel
theorem d_M_toSigned_107 : decode prog_14_method_14_code 107 = .ok (.laload, 1) := by decide +kernel
theorem d_M_toSigned_93 : decode prog_14_method_14_code 93 = .ok (.aload_n 0, 1) := by decide +kernel
theorem d_M_toSigned_94 : decode prog_14_method_14_code 94 = .ok (.getfield 119, 3) := by decide +kernel
theorem d_M_toSigned_97 : decode prog_14_method_14_code 97 = .ok (.iload_n 1, 1) := by decide +kernel
theorem d_M_toSigned_98 : decode prog_14_method_14_code 98 = .ok (.laload, 1) := by decide +kernel
theorem d_M_toSigned_99 : decode prog_14_method_14_code 99 = .ok (.goto 9, 3) := by decide +kernel
theorem d_M_toSigned_32 : decode prog_14_method_14_code 32 = .ok (.if_icmp .ne 77, 3) := by decide +kernel
theorem d_M_toSigned_35 : decode prog_14_method_14_code 35 = .ok (.aload_n 0, 1) := by decide +kernel
theorem d_M_toSigned_36 : decode prog_14_method_14_code 36 = .ok (.getfield 116, 3) := by decide +kernel
theorem d_M_toSigned_39 : decode prog_14_method_14_code 39 = .ok (.iload_n 1, 1) := by decide +kernel
theorem d_M_toSigned_40 : decode prog_14_method_14_code 40 = .ok (.aload_n 0, 1) := by decide +kernel
theorem d_M_toSigned_41 : decode prog_14_method_14_code 41 = .ok (.getfield 116, 3) := by decide +kernel
theorem d_M_toSigned_44 : decode prog_14_method_14_code 44 = .ok (.iload_n 1, 1) := by decide +kernel
theorem d_M_toSigned_45 : decode prog_14_method_14_code 45 = .ok (.laload, 1) := by decide +kernel
theorem d_M_toSigned_46 : decode prog_14_method_14_code 46 = .ok (.aload_n 0, 1) := by decide +kernel
theorem d_M_toSigned_47 : decode prog_14_method_14_code 47 = .ok (.getfield 110, 3) := by decide +kernel
theorem d_M_toSigned_50 : decode prog_14_method_14_code 50 = .ok (.iload_n 1, 1) := by decide +kernel
theorem d_M_toSigned_51 : decode prog_14_method_14_code 51 = .ok (.laload, 1) := by decide +kernel
theorem d_M_toSigned_52 : decode prog_14_method_14_code 52 = .ok (.lcmp, 1) := by decide +kernel
theorem d_M_toSigned_53 : decode prog_14_method_14_code 53 = .ok (.ifCond .le 12, 3) := by decide +kernel
theorem d_M_toSigned_65 : decode prog_14_method_14_code 65 = .ok (.aload_n 0, 1) := by decide +kernel
theorem d_M_toSigned_66 : decode prog_14_method_14_code 66 = .ok (.getfield 110, 3) := by decide +kernel
theorem d_M_toSigned_69 : decode prog_14_method_14_code 69 = .ok (.iload_n 1, 1) := by decide +kernel
theorem d_M_toSigned_70 : decode prog_14_method_14_code 70 = .ok (.laload, 1) := by decide +kernel
theorem d_M_toSigned_56 : decode prog_14_method_14_code 56 = .ok (.aload_n 0, 1) := by decide +kernel
theorem d_M_toSigned_57 : decode prog_14_method_14_code 57 = .ok (.getfield 116, 3) := by decide +kernel
theorem d_M_toSigned_60 : decode prog_14_method_14_code 60 = .ok (.iload_n 1, 1) := by decide +kernel
theorem d_M_toSigned_61 : decode prog_14_method_14_code 61 = .ok (.laload, 1) := by decide +kernel
theorem d_M_toSigned_62 : decode prog_14_method_14_code 62 = .ok (.goto 9, 3) := by decide +kernel
theorem d_M_toSigned_16 : decode prog_14_method_14_code 16 = .ok (.aload_n 0, 1) := by decide +kernel
theorem d_M_toSigned_17 : decode prog_14_method_14_code 17 = .ok (.getfield 113, 3) := by decide +kernel
theorem d_M_toSigned_20 : decode prog_14_method_14_code 20 = .ok (.iload_n 1, 1) := by decide +kernel
theorem d_M_toSigned_21 : decode prog_14_method_14_code 21 = .ok (.laload, 1) := by decide +kernel
theorem d_M_toSigned_22 : decode prog_14_method_14_code 22 = .ok (.lconst 0, 1) := by decide +kernel
theorem d_M_toSigned_23 : decode prog_14_method_14_code 23 = .ok (.lcmp, 1) := by decide +kernel
theorem d_M_toSigned_24 : decode prog_14_method_14_code 24 = .ok (.ifCond .ge 7, 3) := by decide +kernel
theorem d_M_toSigned_31 : decode prog_14_method_14_code 31 = .ok (.iconst 0, 1) := by decide +kernel
theorem d_M_toSigned_27 : decode prog_14_method_14_code 27 = .ok (.iconst 1, 1) := by decide +kernel
theorem d_M_toSigned_28 : decode prog_14_method_14_code 28 = .ok (.goto 4, 3) := by decide +kernel
theorem d_M_toSigned_0 : decode prog_14_method_14_code 0 = .ok (.aload_n 0, 1) := by decide +kernel
theorem d_M_toSigned_1 : decode prog_14_method_14_code 1 = .ok (.getfield 110, 3) := by decide +kernel
theorem d_M_toSigned_4 : decode prog_14_method_14_code 4 = .ok (.iload_n 1, 1) := by decide +kernel
theorem d_M_toSigned_5 : decode prog_14_method_14_code 5 = .ok (.laload, 1) := by decide +kernel
theorem d_M_toSigned_6 : decode prog_14_method_14_code 6 = .ok (.lconst 0, 1) := by decide +kernel
theorem d_M_toSigned_7 : decode prog_14_method_14_code 7 = .ok (.lcmp, 1) := by decide +kernel
theorem d_M_toSigned_8 : decode prog_14_method_14_code 8 = .ok (.ifCond .ge 7, 3) := by decide +kernel
theorem d_M_toSigned_15 : decode prog_14_method_14_code 15 = .ok (.iconst 0, 1) := by decide +kernel
theorem d_M_toSigned_11 : decode prog_14_method_14_code 11 = .ok (.iconst 1, 1) := by decide +kernel
theorem d_M_toSigned_12 : decode prog_14_method_14_code 12 = .ok (.goto 4, 3) := by decide +kernel
abbrev y_M_toSigned : MethodName := ⟨"FilterGuardModel", "toSigned", "(I)Z"⟩
def f_M_toSigned_b109 (j0 : Nat) (x1 : Int32) (M : me_M) : Option (me_M × Int32) := b2 (f_M_isEmpty M j0 x1) (fun (M1 : me_M) (r2 : Int32) => (if r2 = 0 then some (M1, (1 : Int32)) else some (M1, (0 : Int32))))
def f_M_toSigned_b108 (j0 : Nat) (x1 : Int32) (M : me_M) (s0 : Int64) (s1 : Int32) (s2 : Nat) : Option (me_M × Int32) := gd (¬ (s1 < 0 ∨ mZ M 16 s2 ≤ s1.toNatClampNeg)) (st (wL M 16 s2 s1.toNatClampNeg s0) (fun (M7 : me_M) => f_M_toSigned_b109 j0 x1 M7))
def f_M_toSigned_b71 (j0 : Nat) (x1 : Int32) (M : me_M) (s0 : Int64) (s1 : Int32) (s2 : Nat) : Option (me_M × Int32) := gd (¬ (s1 < 0 ∨ mZ M 16 s2 ≤ s1.toNatClampNeg)) (st (wL M 16 s2 s1.toNatClampNeg s0) (fun (M9 : me_M) => bd (mR M9 1 j0 57) (fun (j10 : Nat) => bd (mR M9 1 j0 57) (fun (j12 : Nat) => gd (¬ (x1 < 0 ∨ mZ M9 16 j12 ≤ x1.toNatClampNeg)) (bd (mR M9 1 j0 55) (fun (j15 : Nat) => gd (¬ (x1 < 0 ∨ mZ M9 16 j15 ≤ x1.toNatClampNeg)) ((if (mL M9 16 j12 x1.toNatClampNeg) < (mL M9 16 j15 x1.toNatClampNeg) then bd (mR M9 1 j0 57) (fun (j22 : Nat) => gd (¬ (x1 < 0 ∨ mZ M9 16 j22 ≤ x1.toNatClampNeg)) (f_M_toSigned_b108 j0 x1 M9 (mL M9 16 j22 x1.toNatClampNeg) x1 j10)) else bd (mR M9 1 j0 55) (fun (j19 : Nat) => gd (¬ (x1 < 0 ∨ mZ M9 16 j19 ≤ x1.toNatClampNeg)) (f_M_toSigned_b108 j0 x1 M9 (mL M9 16 j19 x1.toNatClampNeg) x1 j10))))))))))
def f_M_toSigned_b32 (j0 : Nat) (x1 : Int32) (M : me_M) (s0 : Int32) (s1 : Int32) : Option (me_M × Int32) := (if s1 = s0 then bd (mR M 1 j0 56) (fun (j26 : Nat) => bd (mR M 1 j0 56) (fun (j28 : Nat) => gd (¬ (x1 < 0 ∨ mZ M 16 j28 ≤ x1.toNatClampNeg)) (bd (mR M 1 j0 54) (fun (j31 : Nat) => gd (¬ (x1 < 0 ∨ mZ M 16 j31 ≤ x1.toNatClampNeg)) ((if (mL M 16 j31 x1.toNatClampNeg) < (mL M 16 j28 x1.toNatClampNeg) then bd (mR M 1 j0 56) (fun (j38 : Nat) => gd (¬ (x1 < 0 ∨ mZ M 16 j38 ≤ x1.toNatClampNeg)) (f_M_toSigned_b71 j0 x1 M (mL M 16 j38 x1.toNatClampNeg) x1 j26)) else bd (mR M 1 j0 54) (fun (j35 : Nat) => gd (¬ (x1 < 0 ∨ mZ M 16 j35 ≤ x1.toNatClampNeg)) (f_M_toSigned_b71 j0 x1 M (mL M 16 j35 x1.toNatClampNeg) x1 j26)))))))) else f_M_toSigned_b109 j0 x1 M)
def f_M_toSigned_b16 (j0 : Nat) (x1 : Int32) (M : me_M) (s0 : Int32) : Option (me_M × Int32) := bd (mR M 1 j0 55) (fun (j41 : Nat) => gd (¬ (x1 < 0 ∨ mZ M 16 j41 ≤ x1.toNatClampNeg)) ((if (mL M 16 j41 x1.toNatClampNeg) < 0 then f_M_toSigned_b32 j0 x1 M (1 : Int32) s0 else f_M_toSigned_b32 j0 x1 M (0 : Int32) s0)))
def f_M_toSigned (M : me_M) (j0 : Nat) (x1 : Int32) : Option (me_M × Int32) := bd (mR M 1 j0 54) (fun (j45 : Nat) => gd (¬ (x1 < 0 ∨ mZ M 16 j45 ≤ x1.toNatClampNeg)) ((if (mL M 16 j45 x1.toNatClampNeg) < 0 then f_M_toSigned_b16 j0 x1 M (1 : Int32) else f_M_toSigned_b16 j0 x1 M (0 : Int32))))
def rm_M_toSigned : Room := { frames := 3, cells := 0, slots := 0, locals := 64 }
abbrev q_M_toSigned (D : va_G) (ad : Nat → Nat → Nat) (ca : Nat → ClassId) (N : Nat → Nat) (M9 : me_M) (r9 : Int32) (A : Nat → Prop) : Array Value → Jvm.State → Outcome → Jvm.State → Prop := va_Qi (fun r (_ : Unit) => r = r9 ∧ me_wf N M9 ∧ (r9 = 1 ∨ r9 = 0)) (fg_B D A (fun _ => me_W ad ca M9) (fun _ => [])) A
set_option maxHeartbeats 4000000 in
set_option maxRecDepth 100000 in
theorem c_M_toSigned (l : Launch) (D : va_G) (ad : Nat → Nat → Nat) (ca : Nat → ClassId) (N : Nat → Nat) (M M9 : me_M) (r9 : Int32) (j0 : Nat) (x1 : Int32) (h : f_M_toSigned M j0 x1 = (some (M9, r9))) (hwf : me_wf N M) (hj0 : j0 < N 1) (sz : Nat) : Met l y_M_toSigned (fg_w y_M_toSigned prog_14_method_14_code 2 (some .boolean)) rm_M_toSigned (va_Pc [.ref (ad 1 j0), .int x1] (fz_P D (me_T ca) (me_W ad ca M) sz)) (q_M_toSigned D ad ca N M9 r9 (va_A (me_W ad ca M) sz)) rm_M_toSigned.cells rm_M_toSigned.slots (va_A (me_W ad ca M) sz) := by
  refine fz_enter (fun A => q_M_toSigned D ad ca N M9 r9 A) (by decide +kernel) (Nat.le_of_ble_eq_true rfl) ?_
  intro p e s m below meth c ls A hx hb hml hown hts hr hlocks hin hP hK hD hS hA hX hl hz
  have hl : lv_has ls 2 [(0, .ref (ad 1 j0)), (1, .int x1)] := hl
  unfold f_M_toSigned at h
  have b_109 : ∀ (M : me_M) (H : Heap) (locs : List Loc) (ls : Array Slot), f_M_toSigned_b109 j0 x1 M = (some (M9, r9)) → me_wf N M → va_P D classes (me_W ad ca M) H → va_D A (me_W ad ca M) → va_S A s.heap H locs → lv_has ls 2 [(0, .ref (ad 1 j0)), (1, .int x1)] → W p l e rm_M_toSigned s m [.ref (ad 1 j0), .int x1].toArray below meth c H locs 0 0 (MQ below (q_M_toSigned D ad ca N M9 r9 A) [.ref (ad 1 j0), .int x1].toArray s rm_M_toSigned.cells rm_M_toSigned.slots A) (F0 m 109 ls []) := by
    intro M H locs ls h hwf hP hD hS hl
    unfold f_M_toSigned_b109 at h
    refine lv_aload_n hx hb d_M_toSigned_109 rfl (lv_at hl 0 rfl) ?_
    refine lv_iload_n hx hb d_M_toSigned_110 rfl (lv_at hl 1 rfl) ?_
    obtain ⟨M1, r2, eM1, h⟩ := b2_ob h
    refine me_theni0 (M1 := M1) (me_runV (C := "FilterGuardModel") (As := [.int x1]) (rest := []) ⟨hx, hb, hml, hown, hts⟩ (c_M_isEmpty l D ad ca N M M1 r2 j0 x1 eM1 hwf hj0 _) rfl (by show fg_nm y_M_isEmpty 1; decide +kernel) u_2157 u_2159 u_115 u_192 u_2160 ⟨Nat.le_of_ble_eq_true rfl, Nat.le_of_ble_eq_true rfl⟩ hX hz hK hP hD hwf hS hA hj0 (by decide) rfl rfl rfl hl.1 (Nat.le_of_ble_eq_true rfl) d_M_toSigned_111 ⟨Nat.le_of_ble_eq_true rfl, Nat.le_of_ble_eq_true rfl⟩) hP hD hK hS hA rfl rfl (fun H locs hw hP hD hS => ?_)
    obtain ⟨hwf, zr2⟩ := hw
    refine lv_if_ne (tgt := 121) hx hb d_M_toSigned_114 (by decide) (fun c3 => ?_) (fun c3 => ?_)
    · have h := if_f c3 h
      refine lv_iconst (v := 0) hx hb d_M_toSigned_121 (by decide) ?_
      have z4 : (0 : Int32) = 1 ∨ (0 : Int32) = 0 := (by decide)
      cases h
      exact fg_retz () hx hb hr hlocks (me_nz z4) ⟨rfl, ⟨hwf, z4⟩⟩ hP (hK.sub (tys' := []) [] rfl) hD hS (Nat.le_of_ble_eq_true rfl) (Nat.le_of_ble_eq_true rfl) d_M_toSigned_122
    have h := if_t c3 h
    refine lv_iconst (v := 1) hx hb d_M_toSigned_117 (by decide) ?_
    refine lv_goto (tgt := 122) hx hb d_M_toSigned_118 (by decide) ?_
    have z5 : (1 : Int32) = 1 ∨ (1 : Int32) = 0 := (by decide)
    cases h
    exact fg_retz () hx hb hr hlocks (me_nz z5) ⟨rfl, ⟨hwf, z5⟩⟩ hP (hK.sub (tys' := []) [] rfl) hD hS (Nat.le_of_ble_eq_true rfl) (Nat.le_of_ble_eq_true rfl) d_M_toSigned_122
  have b_108 : ∀ (M : me_M) (s0 : Int64) (s1 : Int32) (s2 : Nat) (H : Heap) (locs : List Loc) (ls : Array Slot), f_M_toSigned_b108 j0 x1 M s0 s1 s2 = (some (M9, r9)) → (s2 < N 16) → me_wf N M → va_P D classes (me_W ad ca M) H → va_D A (me_W ad ca M) → va_S A s.heap H locs → lv_has ls 2 [(0, .ref (ad 1 j0)), (1, .int x1)] → W p l e rm_M_toSigned s m [.ref (ad 1 j0), .int x1].toArray below meth c H locs 0 0 (MQ below (q_M_toSigned D ad ca N M9 r9 A) [.ref (ad 1 j0), .int x1].toArray s rm_M_toSigned.cells rm_M_toSigned.slots A) (F0 m 108 ls [.long s0, .int s1, .ref (ad 16 s2)]) := by
    intro M s0 s1 s2 H locs ls h hs2 hwf hP hD hS hl
    unfold f_M_toSigned_b108 at h
    obtain ⟨g6, h⟩ := gd_ob h
    obtain ⟨M7, eM7, h⟩ := st_ob h
    refine me_last eM7 hx hb hK hP hD hwf hS hs2 g6 d_M_toSigned_108 (fun H locs hP hD hwf hS => ?_)
    exact b_109 M7 _ _ _ h hwf hP hD hS (lv_sub hl [0, 1] rfl)
  have b_71 : ∀ (M : me_M) (s0 : Int64) (s1 : Int32) (s2 : Nat) (H : Heap) (locs : List Loc) (ls : Array Slot), f_M_toSigned_b71 j0 x1 M s0 s1 s2 = (some (M9, r9)) → (s2 < N 16) → me_wf N M → va_P D classes (me_W ad ca M) H → va_D A (me_W ad ca M) → va_S A s.heap H locs → lv_has ls 2 [(0, .ref (ad 1 j0)), (1, .int x1)] → W p l e rm_M_toSigned s m [.ref (ad 1 j0), .int x1].toArray below meth c H locs 0 0 (MQ below (q_M_toSigned D ad ca N M9 r9 A) [.ref (ad 1 j0), .int x1].toArray s rm_M_toSigned.cells rm_M_toSigned.slots A) (F0 m 71 ls [.long s0, .int s1, .ref (ad 16 s2)]) := by
    intro M s0 s1 s2 H locs ls h hs2 hwf hP hD hS hl
    unfold f_M_toSigned_b71 at h
    obtain ⟨g8, h⟩ := gd_ob h
    obtain ⟨M9, eM9, h⟩ := st_ob h
    refine me_last eM9 hx hb hK hP hD hwf hS hs2 g8 d_M_toSigned_71 (fun H locs hP hD hwf hS => ?_)
    refine lv_aload_n hx hb d_M_toSigned_72 rfl (lv_at hl 0 rfl) ?_
    refine g_M_57 hx hb hts hown hK hP hwf hj0 (hts _ u_1798) d_M_toSigned_73 ?_
    obtain ⟨j10, e11, h⟩ := bd_ob h
    have hj10 : j10 < N 16 := (hwf.2.1 1 j0 57 _ e11 (by decide) hj0)
    refine me_opt (j := j10) e11 ?_
    refine lv_iload_n hx hb d_M_toSigned_76 rfl (lv_at hl 1 rfl) ?_
    refine lv_aload_n hx hb d_M_toSigned_77 rfl (lv_at hl 0 rfl) ?_
    refine g_M_57 hx hb hts hown hK hP hwf hj0 (hts _ u_1798) d_M_toSigned_78 ?_
    obtain ⟨j12, e13, h⟩ := bd_ob h
    have hj12 : j12 < N 16 := (hwf.2.1 1 j0 57 _ e13 (by decide) hj0)
    refine me_opt (j := j12) e13 ?_
    refine lv_iload_n hx hb d_M_toSigned_81 rfl (lv_at hl 1 rfl) ?_
    obtain ⟨g14, h⟩ := gd_ob h
    refine me_lald hx hb hK hP hwf hj12 g14 d_M_toSigned_82 ?_
    refine lv_aload_n hx hb d_M_toSigned_83 rfl (lv_at hl 0 rfl) ?_
    refine g_M_55 hx hb hts hown hK hP hwf hj0 (hts _ u_1796) d_M_toSigned_84 ?_
    obtain ⟨j15, e16, h⟩ := bd_ob h
    have hj15 : j15 < N 16 := (hwf.2.1 1 j0 55 _ e16 (by decide) hj0)
    refine me_opt (j := j15) e16 ?_
    refine lv_iload_n hx hb d_M_toSigned_87 rfl (lv_at hl 1 rfl) ?_
    obtain ⟨g17, h⟩ := gd_ob h
    refine me_lald hx hb hK hP hwf hj15 g17 d_M_toSigned_88 ?_
    refine W.lcmp hx hb d_M_toSigned_89 ?_
    refine lv_if_ge (tgt := 102) hx hb d_M_toSigned_90 (by decide) (fun c18 => ?_) (fun c18 => ?_)
    · have h := if_f (Int64.not_lt.mpr ((lg_cmp_ge _ _).mp c18)) h
      refine lv_aload_n hx hb d_M_toSigned_102 rfl (lv_at hl 0 rfl) ?_
      refine g_M_55 hx hb hts hown hK hP hwf hj0 (hts _ u_1796) d_M_toSigned_103 ?_
      obtain ⟨j19, e20, h⟩ := bd_ob h
      have hj19 : j19 < N 16 := (hwf.2.1 1 j0 55 _ e20 (by decide) hj0)
      refine me_opt (j := j19) e20 ?_
      refine lv_iload_n hx hb d_M_toSigned_106 rfl (lv_at hl 1 rfl) ?_
      obtain ⟨g21, h⟩ := gd_ob h
      refine me_lald hx hb hK hP hwf hj19 g21 d_M_toSigned_107 ?_
      exact b_108 M9 (mL M9 16 j19 x1.toNatClampNeg) x1 j10 _ _ _ h hj10 hwf hP hD hS (lv_sub hl [0, 1] rfl)
    have h := if_t (Int64.not_le.mp (fun z => c18 ((lg_cmp_ge _ _).mpr z))) h
    refine lv_aload_n hx hb d_M_toSigned_93 rfl (lv_at hl 0 rfl) ?_
    refine g_M_57 hx hb hts hown hK hP hwf hj0 (hts _ u_1798) d_M_toSigned_94 ?_
    obtain ⟨j22, e23, h⟩ := bd_ob h
    have hj22 : j22 < N 16 := (hwf.2.1 1 j0 57 _ e23 (by decide) hj0)
    refine me_opt (j := j22) e23 ?_
    refine lv_iload_n hx hb d_M_toSigned_97 rfl (lv_at hl 1 rfl) ?_
    obtain ⟨g24, h⟩ := gd_ob h
    refine me_lald hx hb hK hP hwf hj22 g24 d_M_toSigned_98 ?_
    refine lv_goto (tgt := 108) hx hb d_M_toSigned_99 (by decide) ?_
    exact b_108 M9 (mL M9 16 j22 x1.toNatClampNeg) x1 j10 _ _ _ h hj10 hwf hP hD hS (lv_sub hl [0, 1] rfl)
  have b_32 : ∀ (M : me_M) (s0 : Int32) (s1 : Int32) (H : Heap) (locs : List Loc) (ls : Array Slot), f_M_toSigned_b32 j0 x1 M s0 s1 = (some (M9, r9)) → (s0 = 1 ∨ s0 = 0) → (s1 = 1 ∨ s1 = 0) → me_wf N M → va_P D classes (me_W ad ca M) H → va_D A (me_W ad ca M) → va_S A s.heap H locs → lv_has ls 2 [(0, .ref (ad 1 j0)), (1, .int x1)] → W p l e rm_M_toSigned s m [.ref (ad 1 j0), .int x1].toArray below meth c H locs 0 0 (MQ below (q_M_toSigned D ad ca N M9 r9 A) [.ref (ad 1 j0), .int x1].toArray s rm_M_toSigned.cells rm_M_toSigned.slots A) (F0 m 32 ls [.int s0, .int s1]) := by
    intro M s0 s1 H locs ls h zs0 zs1 hwf hP hD hS hl
    unfold f_M_toSigned_b32 at h
    refine lv_icmp_ne (tgt := 109) hx hb d_M_toSigned_32 (by decide) (fun c25 => ?_) (fun c25 => ?_)
    · have h := if_f c25 h
      exact b_109 M _ _ _ h hwf hP hD hS (lv_sub hl [0, 1] rfl)
    have h := if_t c25 h
    refine lv_aload_n hx hb d_M_toSigned_35 rfl (lv_at hl 0 rfl) ?_
    refine g_M_56 hx hb hts hown hK hP hwf hj0 (hts _ u_1797) d_M_toSigned_36 ?_
    obtain ⟨j26, e27, h⟩ := bd_ob h
    have hj26 : j26 < N 16 := (hwf.2.1 1 j0 56 _ e27 (by decide) hj0)
    refine me_opt (j := j26) e27 ?_
    refine lv_iload_n hx hb d_M_toSigned_39 rfl (lv_at hl 1 rfl) ?_
    refine lv_aload_n hx hb d_M_toSigned_40 rfl (lv_at hl 0 rfl) ?_
    refine g_M_56 hx hb hts hown hK hP hwf hj0 (hts _ u_1797) d_M_toSigned_41 ?_
    obtain ⟨j28, e29, h⟩ := bd_ob h
    have hj28 : j28 < N 16 := (hwf.2.1 1 j0 56 _ e29 (by decide) hj0)
    refine me_opt (j := j28) e29 ?_
    refine lv_iload_n hx hb d_M_toSigned_44 rfl (lv_at hl 1 rfl) ?_
    obtain ⟨g30, h⟩ := gd_ob h
    refine me_lald hx hb hK hP hwf hj28 g30 d_M_toSigned_45 ?_
    refine lv_aload_n hx hb d_M_toSigned_46 rfl (lv_at hl 0 rfl) ?_
    refine g_M_54 hx hb hts hown hK hP hwf hj0 (hts _ u_1795) d_M_toSigned_47 ?_
    obtain ⟨j31, e32, h⟩ := bd_ob h
    have hj31 : j31 < N 16 := (hwf.2.1 1 j0 54 _ e32 (by decide) hj0)
    refine me_opt (j := j31) e32 ?_
    refine lv_iload_n hx hb d_M_toSigned_50 rfl (lv_at hl 1 rfl) ?_
    obtain ⟨g33, h⟩ := gd_ob h
    refine me_lald hx hb hK hP hwf hj31 g33 d_M_toSigned_51 ?_
    refine W.lcmp hx hb d_M_toSigned_52 ?_
    refine lv_if_le (tgt := 65) hx hb d_M_toSigned_53 (by decide) (fun c34 => ?_) (fun c34 => ?_)
    · have h := if_f (Int64.not_lt.mpr ((lg_cmp_le _ _).mp c34)) h
      refine lv_aload_n hx hb d_M_toSigned_65 rfl (lv_at hl 0 rfl) ?_
      refine g_M_54 hx hb hts hown hK hP hwf hj0 (hts _ u_1795) d_M_toSigned_66 ?_
      obtain ⟨j35, e36, h⟩ := bd_ob h
      have hj35 : j35 < N 16 := (hwf.2.1 1 j0 54 _ e36 (by decide) hj0)
      refine me_opt (j := j35) e36 ?_
      refine lv_iload_n hx hb d_M_toSigned_69 rfl (lv_at hl 1 rfl) ?_
      obtain ⟨g37, h⟩ := gd_ob h
      refine me_lald hx hb hK hP hwf hj35 g37 d_M_toSigned_70 ?_
      exact b_71 M (mL M 16 j35 x1.toNatClampNeg) x1 j26 _ _ _ h hj26 hwf hP hD hS (lv_sub hl [0, 1] rfl)
    have h := if_t (Int64.not_le.mp (fun z => c34 ((lg_cmp_le _ _).mpr z))) h
    refine lv_aload_n hx hb d_M_toSigned_56 rfl (lv_at hl 0 rfl) ?_
    refine g_M_56 hx hb hts hown hK hP hwf hj0 (hts _ u_1797) d_M_toSigned_57 ?_
    obtain ⟨j38, e39, h⟩ := bd_ob h
    have hj38 : j38 < N 16 := (hwf.2.1 1 j0 56 _ e39 (by decide) hj0)
    refine me_opt (j := j38) e39 ?_
    refine lv_iload_n hx hb d_M_toSigned_60 rfl (lv_at hl 1 rfl) ?_
    obtain ⟨g40, h⟩ := gd_ob h
    refine me_lald hx hb hK hP hwf hj38 g40 d_M_toSigned_61 ?_
    refine lv_goto (tgt := 71) hx hb d_M_toSigned_62 (by decide) ?_
    exact b_71 M (mL M 16 j38 x1.toNatClampNeg) x1 j26 _ _ _ h hj26 hwf hP hD hS (lv_sub hl [0, 1] rfl)
  have b_16 : ∀ (M : me_M) (s0 : Int32) (H : Heap) (locs : List Loc) (ls : Array Slot), f_M_toSigned_b16 j0 x1 M s0 = (some (M9, r9)) → (s0 = 1 ∨ s0 = 0) → me_wf N M → va_P D classes (me_W ad ca M) H → va_D A (me_W ad ca M) → va_S A s.heap H locs → lv_has ls 2 [(0, .ref (ad 1 j0)), (1, .int x1)] → W p l e rm_M_toSigned s m [.ref (ad 1 j0), .int x1].toArray below meth c H locs 0 0 (MQ below (q_M_toSigned D ad ca N M9 r9 A) [.ref (ad 1 j0), .int x1].toArray s rm_M_toSigned.cells rm_M_toSigned.slots A) (F0 m 16 ls [.int s0]) := by
    intro M s0 H locs ls h zs0 hwf hP hD hS hl
    unfold f_M_toSigned_b16 at h
    refine lv_aload_n hx hb d_M_toSigned_16 rfl (lv_at hl 0 rfl) ?_
    refine g_M_55 hx hb hts hown hK hP hwf hj0 (hts _ u_1796) d_M_toSigned_17 ?_
    obtain ⟨j41, e42, h⟩ := bd_ob h
    have hj41 : j41 < N 16 := (hwf.2.1 1 j0 55 _ e42 (by decide) hj0)
    refine me_opt (j := j41) e42 ?_
    refine lv_iload_n hx hb d_M_toSigned_20 rfl (lv_at hl 1 rfl) ?_
    obtain ⟨g43, h⟩ := gd_ob h
    refine me_lald hx hb hK hP hwf hj41 g43 d_M_toSigned_21 ?_
    refine lv_lconst (v := 0) hx hb d_M_toSigned_22 (by decide) ?_
    refine W.lcmp hx hb d_M_toSigned_23 ?_
    refine lv_if_ge (tgt := 31) hx hb d_M_toSigned_24 (by decide) (fun c44 => ?_) (fun c44 => ?_)
    · have h := if_f (Int64.not_lt.mpr ((lg_cmp_ge _ _).mp c44)) h
      refine lv_iconst (v := 0) hx hb d_M_toSigned_31 (by decide) ?_
      exact b_32 M (0 : Int32) s0 _ _ _ h (by decide) zs0 hwf hP hD hS (lv_sub hl [0, 1] rfl)
    have h := if_t (Int64.not_le.mp (fun z => c44 ((lg_cmp_ge _ _).mpr z))) h
    refine lv_iconst (v := 1) hx hb d_M_toSigned_27 (by decide) ?_
    refine lv_goto (tgt := 32) hx hb d_M_toSigned_28 (by decide) ?_
    exact b_32 M (1 : Int32) s0 _ _ _ h (by decide) zs0 hwf hP hD hS (lv_sub hl [0, 1] rfl)
  refine lv_aload_n hx hb d_M_toSigned_0 rfl (lv_at hl 0 rfl) ?_
  refine g_M_54 hx hb hts hown hK hP hwf hj0 (hts _ u_1795) d_M_toSigned_1 ?_
  obtain ⟨j45, e46, h⟩ := bd_ob h
  have hj45 : j45 < N 16 := (hwf.2.1 1 j0 54 _ e46 (by decide) hj0)
  refine me_opt (j := j45) e46 ?_
  refine lv_iload_n hx hb d_M_toSigned_4 rfl (lv_at hl 1 rfl) ?_
  obtain ⟨g47, h⟩ := gd_ob h
  refine me_lald hx hb hK hP hwf hj45 g47 d_M_toSigned_5 ?_
  refine lv_lconst (v := 0) hx hb d_M_toSigned_6 (by decide) ?_
  refine W.lcmp hx hb d_M_toSigned_7 ?_
  refine lv_if_ge (tgt := 15) hx hb d_M_toSigned_8 (by decide) (fun c48 => ?_) (fun c48 => ?_)
  · have h := if_f (Int64.not_lt.mpr ((lg_cmp_ge _ _).mp c48)) h
    refine lv_iconst (v := 0) hx hb d_M_toSigned_15 (by decide) ?_
    exact b_16 M (0 : Int32) _ _ _ h (by decide) hwf hP hD hS (lv_sub hl [0, 1] rfl)
  have h := if_t (Int64.not_le.mp (fun z => c48 ((lg_cmp_ge _ _).mpr z))) h
  refine lv_iconst (v := 1) hx hb d_M_toSigned_11 (by decide) ?_
  refine lv_goto (tgt := 16) hx hb d_M_toSigned_12 (by decide) ?_
  exact b_16 M (1 : Int32) _ _ _ h (by decide) hwf hP hD hS (lv_sub hl [0, 1] rfl)
