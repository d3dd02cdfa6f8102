theorem d_Num_covers_0 : decode prog_8_method_11_code 0 = .ok (.aload_n 0, 1) := by decide +kernel
theorem d_Num_covers_1 : decode prog_8_method_11_code 1 = .ok (.getfield 15, 3) := by decide +kernel
theorem g_Num_1 {p : Program} {l : Launch} {e : Env} {R : Room} {s : Jvm.State} {m : MethodId} {args : Array Value} {below : List Frame} {meth : Method} {c : Code} {H : Heap} {locs : List Loc} {cells slots : Nat} {Q : Jvm.State → Prop} {cc : ByteArray} {pc : Nat} {ls : Array Slot} {rest : List Value} {D : va_G} {ad : Nat → Nat → Nat} {ca : Nat → ClassId} {M : me_M} {N : Nat → Nat} {own : String} {index j : Nat} (hexec : p.tables.exec = Jvm.exec) (hb : c.code = cc) (hts : ∀ w ∈ fg_g, w.before args s = true) (hown : s.vm.findClass own = some m.cls) (hK : va_K D classes (me_T ca) s) (hP : va_P D classes (me_W ad ca M) H) (hwf : me_wf N M) (hj : j < N 11) (hlink : (Cond.fieldLink own index "FilterGuard$Num" "mask" "J").before args s = true) (hdg : decode cc pc = .ok (.getfield index, 3)) (kk : W p l e R s m args below meth c H locs cells slots Q (F0 m (pc + 3) ls (.long (mL M 11 j 1) :: rest))) : W p l e R s m args below meth c H locs cells slots Q (F0 m pc ls (.ref (ad 11 j) :: rest)) := me_get (k := 11) (f := 1) (C := "FilterGuard$Num") (T := F_Num) (Nf := 6) hexec hb hts i_Num hown hK hP hwf hj (by decide) rfl (by decide) (by decide) hlink (fun _ h9 => h9) hdg kk
theorem d_Num_covers_4 : decode prog_8_method_11_code 4 = .ok (.ldc2_w 30, 3) := by decide +kernel
theorem u_1061 : Cond.constantLong "FilterGuard$Num" 30 (-1) ∈ fg_g := fg_in (List.mem_of_getElem? (i := 1061) (by decide +kernel)) rfl
theorem d_Num_covers_7 : decode prog_8_method_11_code 7 = .ok (.lxor, 1) := by decide +kernel
theorem d_Num_covers_8 : decode prog_8_method_11_code 8 = .ok (.aload_n 1, 1) := by decide +kernel
theorem d_Num_covers_9 : decode prog_8_method_11_code 9 = .ok (.getfield 15, 3) := by decide +kernel
theorem d_Num_covers_12 : decode prog_8_method_11_code 12 = .ok (.land, 1) := by decide +kernel
theorem d_Num_covers_13 : decode prog_8_method_11_code 13 = .ok (.lconst 0, 1) := by decide +kernel
theorem d_Num_covers_14 : decode prog_8_method_11_code 14 = .ok (.lcmp, 1) := by decide +kernel
theorem d_Num_covers_15 : decode prog_8_method_11_code 15 = .ok (.ifCond .ne 82, 3) := by decide +kernel
theorem d_Num_covers_97 : decode prog_8_method_11_code 97 = .ok (.iconst 0, 1) := by decide +kernel
theorem d_Num_covers_98 : decode prog_8_method_11_code 98 = .ok (.ireturn, 1) := by decide +kernel
theorem d_Num_covers_18 : decode prog_8_method_11_code 18 = .ok (.aload_n 0, 1) := by decide +kernel
theorem d_Num_covers_19 : decode prog_8_method_11_code 19 = .ok (.getfield 9, 3) := by decide +kernel
theorem g_Num_0 {p : Program} {l : Launch} {e : Env} {R : Room} {s : Jvm.State} {m : MethodId} {args : Array Value} {below : List Frame} {meth : Method} {c : Code} {H : Heap} {locs : List Loc} {cells slots : Nat} {Q : Jvm.State → Prop} {cc : ByteArray} {pc : Nat} {ls : Array Slot} {rest : List Value} {D : va_G} {ad : Nat → Nat → Nat} {ca : Nat → ClassId} {M : me_M} {N : Nat → Nat} {own : String} {index j : Nat} (hexec : p.tables.exec = Jvm.exec) (hb : c.code = cc) (hts : ∀ w ∈ fg_g, w.before args s = true) (hown : s.vm.findClass own = some m.cls) (hK : va_K D classes (me_T ca) s) (hP : va_P D classes (me_W ad ca M) H) (hwf : me_wf N M) (hj : j < N 11) (hlink : (Cond.fieldLink own index "FilterGuard$Num" "value" "J").before args s = true) (hdg : decode cc pc = .ok (.getfield index, 3)) (kk : W p l e R s m args below meth c H locs cells slots Q (F0 m (pc + 3) ls (.long (mL M 11 j 0) :: rest))) : W p l e R s m args below meth c H locs cells slots Q (F0 m pc ls (.ref (ad 11 j) :: rest)) := me_get (k := 11) (f := 0) (C := "FilterGuard$Num") (T := F_Num) (Nf := 6) hexec hb hts i_Num hown hK hP hwf hj (by decide) rfl (by decide) (by decide) hlink (fun _ h9 => h9) hdg kk
theorem d_Num_covers_22 : decode prog_8_method_11_code 22 = .ok (.aload_n 1, 1) := by decide +kernel
theorem d_Num_covers_23 : decode prog_8_method_11_code 23 = .ok (.getfield 9, 3) := by decide +kernel
theorem d_Num_covers_26 : decode prog_8_method_11_code 26 = .ok (.lxor, 1) := by decide +kernel
theorem d_Num_covers_27 : decode prog_8_method_11_code 27 = .ok (.aload_n 0, 1) := by decide +kernel
theorem d_Num_covers_28 : decode prog_8_method_11_code 28 = .ok (.getfield 15, 3) := by decide +kernel
theorem d_Num_covers_31 : decode prog_8_method_11_code 31 = .ok (.ldc2_w 30, 3) := by decide +kernel
theorem d_Num_covers_34 : decode prog_8_method_11_code 34 = .ok (.lxor, 1) := by decide +kernel
theorem d_Num_covers_35 : decode prog_8_method_11_code 35 = .ok (.land, 1) := by decide +kernel
theorem d_Num_covers_36 : decode prog_8_method_11_code 36 = .ok (.lconst 0, 1) := by decide +kernel
theorem d_Num_covers_37 : decode prog_8_method_11_code 37 = .ok (.lcmp, 1) := by decide +kernel
theorem d_Num_covers_38 : decode prog_8_method_11_code 38 = .ok (.ifCond .ne 59, 3) := by decide +kernel
theorem d_Num_covers_41 : decode prog_8_method_11_code 41 = .ok (.aload_n 1, 1) := by decide +kernel
theorem d_Num_covers_42 : decode prog_8_method_11_code 42 = .ok (.getfield 18, 3) := by decide +kernel
theorem g_Num_2 {p : Program} {l : Launch} {e : Env} {R : Room} {s : Jvm.State} {m : MethodId} {args : Array Value} {below : List Frame} {meth : Method} {c : Code} {H : Heap} {locs : List Loc} {cells slots : Nat} {Q : Jvm.State → Prop} {cc : ByteArray} {pc : Nat} {ls : Array Slot} {rest : List Value} {D : va_G} {ad : Nat → Nat → Nat} {ca : Nat → ClassId} {M : me_M} {N : Nat → Nat} {own : String} {index j : Nat} (hexec : p.tables.exec = Jvm.exec) (hb : c.code = cc) (hts : ∀ w ∈ fg_g, w.before args s = true) (hown : s.vm.findClass own = some m.cls) (hK : va_K D classes (me_T ca) s) (hP : va_P D classes (me_W ad ca M) H) (hwf : me_wf N M) (hj : j < N 11) (hlink : (Cond.fieldLink own index "FilterGuard$Num" "least" "J").before args s = true) (hdg : decode cc pc = .ok (.getfield index, 3)) (kk : W p l e R s m args below meth c H locs cells slots Q (F0 m (pc + 3) ls (.long (mL M 11 j 2) :: rest))) : W p l e R s m args below meth c H locs cells slots Q (F0 m pc ls (.ref (ad 11 j) :: rest)) := me_get (k := 11) (f := 2) (C := "FilterGuard$Num") (T := F_Num) (Nf := 6) hexec hb hts i_Num hown hK hP hwf hj (by decide) rfl (by decide) (by decide) hlink (fun _ h9 => h9) hdg kk
theorem d_Num_covers_45 : decode prog_8_method_11_code 45 = .ok (.aload_n 0, 1) := by decide +kernel
theorem d_Num_covers_46 : decode prog_8_method_11_code 46 = .ok (.getfield 18, 3) := by decide +kernel
theorem d_Num_covers_49 : decode prog_8_method_11_code 49 = .ok (.invokestatic 36, 3) := by decide +kernel
theorem u_1062 : Cond.methodLink "FilterGuard$Num" 36 ⟨"FilterGuard$Num", "isBelow", "(JJ)Z"⟩ ∈ fg_g := fg_in (List.mem_of_getElem? (i := 1062) (by decide +kernel)) rfl
theorem u_1064 : Cond.code ⟨"FilterGuard$Num", "isBelow", "(JJ)Z"⟩ prog_8_method_9_code 4 (some .boolean) ∈ fg_g := fg_in (List.mem_of_getElem? (i := 1064) (by decide +kernel)) rfl
theorem u_1063 : Cond.static ⟨"FilterGuard$Num", "isBelow", "(JJ)Z"⟩ ∈ fg_g := fg_in (List.mem_of_getElem? (i := 1063) (by decide +kernel)) rfl
theorem d_Num_covers_52 : decode prog_8_method_11_code 52 = .ok (.ifCond .ne 45, 3) := by decide +kernel
theorem d_Num_covers_55 : decode prog_8_method_11_code 55 = .ok (.aload_n 0, 1) := by decide +kernel
theorem d_Num_covers_56 : decode prog_8_method_11_code 56 = .ok (.getfield 21, 3) := by decide +kernel
theorem g_Num_3 {p : Program} {l : Launch} {e : Env} {R : Room} {s : Jvm.State} {m : MethodId} {args : Array Value} {below : List Frame} {meth : Method} {c : Code} {H : Heap} {locs : List Loc} {cells slots : Nat} {Q : Jvm.State → Prop} {cc : ByteArray} {pc : Nat} {ls : Array Slot} {rest : List Value} {D : va_G} {ad : Nat → Nat → Nat} {ca : Nat → ClassId} {M : me_M} {N : Nat → Nat} {own : String} {index j : Nat} (hexec : p.tables.exec = Jvm.exec) (hb : c.code = cc) (hts : ∀ w ∈ fg_g, w.before args s = true) (hown : s.vm.findClass own = some m.cls) (hK : va_K D classes (me_T ca) s) (hP : va_P D classes (me_W ad ca M) H) (hwf : me_wf N M) (hj : j < N 11) (hlink : (Cond.fieldLink own index "FilterGuard$Num" "greatest" "J").before args s = true) (hdg : decode cc pc = .ok (.getfield index, 3)) (kk : W p l e R s m args below meth c H locs cells slots Q (F0 m (pc + 3) ls (.long (mL M 11 j 3) :: rest))) : W p l e R s m args below meth c H locs cells slots Q (F0 m pc ls (.ref (ad 11 j) :: rest)) := me_get (k := 11) (f := 3) (C := "FilterGuard$Num") (T := F_Num) (Nf := 6) hexec hb hts i_Num hown hK hP hwf hj (by decide) rfl (by decide) (by decide) hlink (fun _ h9 => h9) hdg kk
theorem d_Num_covers_59 : decode prog_8_method_11_code 59 = .ok (.aload_n 1, 1) := by decide +kernel
theorem d_Num_covers_60 : decode prog_8_method_11_code 60 = .ok (.getfield 21, 3) := by decide +kernel
theorem d_Num_covers_63 : decode prog_8_method_11_code 63 = .ok (.invokestatic 36, 3) := by decide +kernel
theorem d_Num_covers_66 : decode prog_8_method_11_code 66 = .ok (.ifCond .ne 31, 3) := by decide +kernel
theorem d_Num_covers_69 : decode prog_8_method_11_code 69 = .ok (.aload_n 0, 1) := by decide +kernel
theorem d_Num_covers_70 : decode prog_8_method_11_code 70 = .ok (.getfield 24, 3) := by decide +kernel
theorem g_Num_4 {p : Program} {l : Launch} {e : Env} {R : Room} {s : Jvm.State} {m : MethodId} {args : Array Value} {below : List Frame} {meth : Method} {c : Code} {H : Heap} {locs : List Loc} {cells slots : Nat} {Q : Jvm.State → Prop} {cc : ByteArray} {pc : Nat} {ls : Array Slot} {rest : List Value} {D : va_G} {ad : Nat → Nat → Nat} {ca : Nat → ClassId} {M : me_M} {N : Nat → Nat} {own : String} {index j : Nat} (hexec : p.tables.exec = Jvm.exec) (hb : c.code = cc) (hts : ∀ w ∈ fg_g, w.before args s = true) (hown : s.vm.findClass own = some m.cls) (hK : va_K D classes (me_T ca) s) (hP : va_P D classes (me_W ad ca M) H) (hwf : me_wf N M) (hj : j < N 11) (hlink : (Cond.fieldLink own index "FilterGuard$Num" "signedLeast" "J").before args s = true) (hdg : decode cc pc = .ok (.getfield index, 3)) (kk : W p l e R s m args below meth c H locs cells slots Q (F0 m (pc + 3) ls (.long (mL M 11 j 4) :: rest))) : W p l e R s m args below meth c H locs cells slots Q (F0 m pc ls (.ref (ad 11 j) :: rest)) := me_get (k := 11) (f := 4) (C := "FilterGuard$Num") (T := F_Num) (Nf := 6) hexec hb hts i_Num hown hK hP hwf hj (by decide) rfl (by decide) (by decide) hlink (fun _ h9 => h9) hdg kk
theorem d_Num_covers_73 : decode prog_8_method_11_code 73 = .ok (.aload_n 1, 1) := by decide +kernel
theorem d_Num_covers_74 : decode prog_8_method_11_code 74 = .ok (.getfield 24, 3) := by decide +kernel
theorem d_Num_covers_77 : decode prog_8_method_11_code 77 = .ok (.lcmp, 1) := by decide +kernel
theorem d_Num_covers_78 : decode prog_8_method_11_code 78 = .ok (.ifCond .gt 19, 3) := by decide +kernel
theorem d_Num_covers_81 : decode prog_8_method_11_code 81 = .ok (.aload_n 0, 1) := by decide +kernel
theorem d_Num_covers_82 : decode prog_8_method_11_code 82 = .ok (.getfield 27, 3) := by decide +kernel
theorem g_Num_5 {p : Program} {l : Launch} {e : Env} {R : Room} {s : Jvm.State} {m : MethodId} {args : Array Value} {below : List Frame} {meth : Method} {c : Code} {H : Heap} {locs : List Loc} {cells slots : Nat} {Q : Jvm.State → Prop} {cc : ByteArray} {pc : Nat} {ls : Array Slot} {rest : List Value} {D : va_G} {ad : Nat → Nat → Nat} {ca : Nat → ClassId} {M : me_M} {N : Nat → Nat} {own : String} {index j : Nat} (hexec : p.tables.exec = Jvm.exec) (hb : c.code = cc) (hts : ∀ w ∈ fg_g, w.before args s = true) (hown : s.vm.findClass own = some m.cls) (hK : va_K D classes (me_T ca) s) (hP : va_P D classes (me_W ad ca M) H) (hwf : me_wf N M) (hj : j < N 11) (hlink : (Cond.fieldLink own index "FilterGuard$Num" "signedGreatest" "J").before args s = true) (hdg : decode cc pc = .ok (.getfield index, 3)) (kk : W p l e R s m args below meth c H locs cells slots Q (F0 m (pc + 3) ls (.long (mL M 11 j 5) :: rest))) : W p l e R s m args below meth c H locs cells slots Q (F0 m pc ls (.ref (ad 11 j) :: rest)) := me_get (k := 11) (f := 5) (C := "FilterGuard$Num") (T := F_Num) (Nf := 6) hexec hb hts i_Num hown hK hP hwf hj (by decide) rfl (by decide) (by decide) hlink (fun _ h9 => h9) hdg kk
theorem d_Num_covers_85 : decode prog_8_method_11_code 85 = .ok (.aload_n 1, 1) := by decide +kernel
theorem d_Num_covers_86 : decode prog_8_method_11_code 86 = .ok (.getfield 27, 3) := by decide +kernel
theorem d_Num_covers_89 : decode prog_8_method_11_code 89 = .ok (.lcmp, 1) := by decide +kernel
theorem d_Num_covers_90 : decode prog_8_method_11_code 90 = .ok (.ifCond .lt 7, 3) := by decide +kernel
theorem d_Num_covers_93 : decode prog_8_method_11_code 93 = .ok (.iconst 1, 1) := by decide +kernel
theorem d_Num_covers_94 : decode prog_8_method_11_code 94 = .ok (.goto 4, 3) := by decide +kernel
abbrev y_Num_covers : MethodName := ⟨"FilterGuard$Num", "covers", "(LFilterGuard$Num;)Z"⟩
def f_Num_covers (M0 : me_M) (j0 : Nat) (j1 : Nat) : Option (me_M × Int32) := (if (((mL M0 11 j0 1) ^^^ (-1)) &&& (mL M0 11 j1 1)) = 0 then (if (((mL M0 11 j0 0) ^^^ (mL M0 11 j1 0)) &&& ((mL M0 11 j0 1) ^^^ (-1))) = 0 then bd (f_Num_isBelow (mL M0 11 j1 2) (mL M0 11 j0 2)) (fun (r3 : Int32) => (if r3 = 0 then bd (f_Num_isBelow (mL M0 11 j0 3) (mL M0 11 j1 3)) (fun (r5 : Int32) => (if r5 = 0 then (if (mL M0 11 j1 4) < (mL M0 11 j0 4) then some (M0, (0 : Int32)) else (if (mL M0 11 j0 5) < (mL M0 11 j1 5) then some (M0, (0 : Int32)) else some (M0, (1 : Int32)))) else some (M0, (0 : Int32)))) else some (M0, (0 : Int32)))) else some (M0, (0 : Int32))) else some (M0, (0 : Int32)))
def rm_Num_covers : Room := { frames := 2, cells := 0, slots := 0, locals := 43 }
abbrev q_Num_covers (D : va_G) (ad : Nat → Nat → Nat) (ca : Nat → ClassId) (N : Nat → Nat) (M0 MZ : me_M) (RZ : Int32) (A : Nat → Prop) : Array Value → Jvm.State → Outcome → Jvm.State → Prop := va_Qi (fun r (_ : Unit) => r = RZ ∧ me_wf N MZ ∧ me_kp M0 MZ ∧ (RZ = 1 ∨ RZ = 0)) (fg_B D A (fun _ => me_W ad ca MZ) (fun _ => [])) A
set_option maxHeartbeats 4000000 in
set_option maxRecDepth 100000 in
theorem c_Num_covers (l : Launch) (D : va_G) (ad : Nat → Nat → Nat) (ca : Nat → ClassId) (N : Nat → Nat) (M0 MZ : me_M) (RZ : Int32) (j0 : Nat) (j1 : Nat) (h : f_Num_covers M0 j0 j1 = (some (MZ, RZ))) (hwf : me_wf N M0) (hj0 : j0 < N 11) (hj1 : j1 < N 11) (sz : Nat) : Met l y_Num_covers (fg_w y_Num_covers prog_8_method_11_code 2 (some .boolean)) rm_Num_covers (va_Pc [.ref (ad 11 j0), .ref (ad 11 j1)] (fz_P D (me_T ca) (me_W ad ca M0) sz)) (q_Num_covers D ad ca N M0 MZ RZ (va_A (me_W ad ca M0) sz)) rm_Num_covers.cells rm_Num_covers.slots (va_A (me_W ad ca M0) sz) := by
  refine fz_enter (fun A => q_Num_covers D ad ca N M0 MZ RZ A) (by decide +kernel) (Nat.le_of_ble_eq_true rfl) ?_
  intro p e s m below meth c ls A hx hb hml hown hts hr hlocks hin hP hK hD hS hA hX hl hz
  have hl : lv_has ls 2 [(0, .ref (ad 11 j0)), (1, .ref (ad 11 j1))] := hl
  unfold f_Num_covers at h
  have hkp : me_kp M0 M0 := me_kp.rf
  have hkb := hkp
  refine lv_aload_n hx hb d_Num_covers_0 rfl (lv_at hl 0 rfl) ?_
  refine g_Num_1 hx hb hts hown hK hP hwf hj0 (hts _ u_371) d_Num_covers_1 ?_
  refine lv_ldc2 hx hb hown (hts _ u_1061) d_Num_covers_4 ?_
  refine lv_lxor hx hb d_Num_covers_7 ?_
  refine lv_aload_n hx hb d_Num_covers_8 rfl (lv_at hl 1 rfl) ?_
  refine g_Num_1 hx hb hts hown hK hP hwf hj1 (hts _ u_371) d_Num_covers_9 ?_
  refine lv_land hx hb d_Num_covers_12 ?_
  refine lv_lconst (v := 0) hx hb d_Num_covers_13 (by decide) ?_
  refine W.lcmp hx hb d_Num_covers_14 ?_
  refine lv_if_ne (tgt := 97) hx hb d_Num_covers_15 (by decide) (fun c1 => ?_) (fun c1 => ?_)
  · have h := if_f (fun z => c1 ((lg_cmp_eq _ _).mpr z)) h
    refine lv_iconst (v := 0) hx hb d_Num_covers_97 (by decide) ?_
    exact me_retz (me_kp M0) h (by decide) hx hb hr hlocks hwf hkp hP hK hD hS d_Num_covers_98
  have h := if_t ((lg_cmp_eq _ _).mp c1) h
  refine lv_aload_n hx hb d_Num_covers_18 rfl (lv_at hl 0 rfl) ?_
  refine g_Num_0 hx hb hts hown hK hP hwf hj0 (hts _ u_367) d_Num_covers_19 ?_
  refine lv_aload_n hx hb d_Num_covers_22 rfl (lv_at hl 1 rfl) ?_
  refine g_Num_0 hx hb hts hown hK hP hwf hj1 (hts _ u_367) d_Num_covers_23 ?_
  refine lv_lxor hx hb d_Num_covers_26 ?_
  refine lv_aload_n hx hb d_Num_covers_27 rfl (lv_at hl 0 rfl) ?_
  refine g_Num_1 hx hb hts hown hK hP hwf hj0 (hts _ u_371) d_Num_covers_28 ?_
  refine lv_ldc2 hx hb hown (hts _ u_1061) d_Num_covers_31 ?_
  refine lv_lxor hx hb d_Num_covers_34 ?_
  refine lv_land hx hb d_Num_covers_35 ?_
  refine lv_lconst (v := 0) hx hb d_Num_covers_36 (by decide) ?_
  refine W.lcmp hx hb d_Num_covers_37 ?_
  refine lv_if_ne (tgt := 97) hx hb d_Num_covers_38 (by decide) (fun c2 => ?_) (fun c2 => ?_)
  · have h := if_f (fun z => c2 ((lg_cmp_eq _ _).mpr z)) h
    refine lv_iconst (v := 0) hx hb d_Num_covers_97 (by decide) ?_
    exact me_retz (me_kp M0) h (by decide) hx hb hr hlocks hwf hkp hP hK hD hS d_Num_covers_98
  have h := if_t ((lg_cmp_eq _ _).mp c2) h
  refine lv_aload_n hx hb d_Num_covers_41 rfl (lv_at hl 1 rfl) ?_
  refine g_Num_2 hx hb hts hown hK hP hwf hj1 (hts _ u_373) d_Num_covers_42 ?_
  refine lv_aload_n hx hb d_Num_covers_45 rfl (lv_at hl 0 rfl) ?_
  refine g_Num_2 hx hb hts hown hK hP hwf hj0 (hts _ u_373) d_Num_covers_46 ?_
  obtain ⟨r3, er3, h⟩ := bd_ob h
  refine me_pani' (r0 := r3) (fg_runS (wc := []) (tc := []) (A2 := A) (As := [.long (mL M0 11 j1 2), .long (mL M0 11 j0 2)]) (rest := []) ⟨hx, hb, hml, hown, hts⟩ (c_Num_isBelow l D r3 (mL M0 11 j1 2) (mL M0 11 j0 2) er3 _) (by show fg_nm y_Num_isBelow 2; decide +kernel) u_1062 u_1063 u_187 u_1064 ⟨Nat.le_of_ble_eq_true rfl, Nat.le_of_ble_eq_true rfl⟩ hX me_P0 (hK.sub (tys' := []) [] rfl) me_D0 rfl hl.1 (Nat.le_of_ble_eq_true rfl) d_Num_covers_49 ⟨Nat.le_of_ble_eq_true rfl, Nat.le_of_ble_eq_true rfl⟩) hP hD hK hS hA rfl rfl (fun H locs hw hP hD hS => ?_)
  have zr3 := hw
  refine lv_if_ne (tgt := 97) hx hb d_Num_covers_52 (by decide) (fun c4 => ?_) (fun c4 => ?_)
  · have h := if_f c4 h
    refine lv_iconst (v := 0) hx hb d_Num_covers_97 (by decide) ?_
    exact me_retz (me_kp M0) h (by decide) hx hb hr hlocks hwf hkp hP hK hD hS d_Num_covers_98
  have h := if_t c4 h
  refine lv_aload_n hx hb d_Num_covers_55 rfl (lv_at hl 0 rfl) ?_
  refine g_Num_3 hx hb hts hown hK hP hwf hj0 (hts _ u_376) d_Num_covers_56 ?_
  refine lv_aload_n hx hb d_Num_covers_59 rfl (lv_at hl 1 rfl) ?_
  refine g_Num_3 hx hb hts hown hK hP hwf hj1 (hts _ u_376) d_Num_covers_60 ?_
  obtain ⟨r5, er5, h⟩ := bd_ob h
  refine me_pani' (r0 := r5) (fg_runS (wc := []) (tc := []) (A2 := A) (As := [.long (mL M0 11 j0 3), .long (mL M0 11 j1 3)]) (rest := []) ⟨hx, hb, hml, hown, hts⟩ (c_Num_isBelow l D r5 (mL M0 11 j0 3) (mL M0 11 j1 3) er5 _) (by show fg_nm y_Num_isBelow 2; decide +kernel) u_1062 u_1063 u_187 u_1064 ⟨Nat.le_of_ble_eq_true rfl, Nat.le_of_ble_eq_true rfl⟩ hX me_P0 (hK.sub (tys' := []) [] rfl) me_D0 rfl hl.1 (Nat.le_of_ble_eq_true rfl) d_Num_covers_63 ⟨Nat.le_of_ble_eq_true rfl, Nat.le_of_ble_eq_true rfl⟩) hP hD hK hS hA rfl rfl (fun H locs hw hP hD hS => ?_)
  have zr5 := hw
  refine lv_if_ne (tgt := 97) hx hb d_Num_covers_66 (by decide) (fun c6 => ?_) (fun c6 => ?_)
  · have h := if_f c6 h
    refine lv_iconst (v := 0) hx hb d_Num_covers_97 (by decide) ?_
    exact me_retz (me_kp M0) h (by decide) hx hb hr hlocks hwf hkp hP hK hD hS d_Num_covers_98
  have h := if_t c6 h
  refine lv_aload_n hx hb d_Num_covers_69 rfl (lv_at hl 0 rfl) ?_
  refine g_Num_4 hx hb hts hown hK hP hwf hj0 (hts _ u_379) d_Num_covers_70 ?_
  refine lv_aload_n hx hb d_Num_covers_73 rfl (lv_at hl 1 rfl) ?_
  refine g_Num_4 hx hb hts hown hK hP hwf hj1 (hts _ u_379) d_Num_covers_74 ?_
  refine W.lcmp hx hb d_Num_covers_77 ?_
  refine lv_if_gt (tgt := 97) hx hb d_Num_covers_78 (by decide) (fun c7 => ?_) (fun c7 => ?_)
  · have h := if_t ((lg_cmp_gt _ _).mp c7) h
    refine lv_iconst (v := 0) hx hb d_Num_covers_97 (by decide) ?_
    exact me_retz (me_kp M0) h (by decide) hx hb hr hlocks hwf hkp hP hK hD hS d_Num_covers_98
  have h := if_f (fun z => c7 ((lg_cmp_gt _ _).mpr z)) h
  refine lv_aload_n hx hb d_Num_covers_81 rfl (lv_at hl 0 rfl) ?_
  refine g_Num_5 hx hb hts hown hK hP hwf hj0 (hts _ u_381) d_Num_covers_82 ?_
  refine lv_aload_n hx hb d_Num_covers_85 rfl (lv_at hl 1 rfl) ?_
  refine g_Num_5 hx hb hts hown hK hP hwf hj1 (hts _ u_381) d_Num_covers_86 ?_
  refine W.lcmp hx hb d_Num_covers_89 ?_
  refine lv_if_lt (tgt := 97) hx hb d_Num_covers_90 (by decide) (fun c8 => ?_) (fun c8 => ?_)
  · have h := if_t ((lg_cmp_lt _ _).mp c8) h
    refine lv_iconst (v := 0) hx hb d_Num_covers_97 (by decide) ?_
    exact me_retz (me_kp M0) h (by decide) hx hb hr hlocks hwf hkp hP hK hD hS d_Num_covers_98
  have h := if_f (fun z => c8 ((lg_cmp_lt _ _).mpr z)) h
  refine lv_iconst (v := 1) hx hb d_Num_covers_93 (by decide) ?_
  refine lv_goto (tgt := 98) hx hb d_Num_covers_94 (by decide) ?_
  exact me_retz (me_kp M0) h (by decide) hx hb hr hlocks hwf hkp hP hK hD hS d_Num_covers_98
theorem d_Cell_isAround_33 : decode prog_2_method_14_code 33 = .ok (.istore_n 2, 1) := by decide +kernel
theorem d_Cell_isAround_34 : decode prog_2_method_14_code 34 = .ok (.aload_n 0, 1) := by decide +kernel
theorem d_Cell_isAround_35 : decode prog_2_method_14_code 35 = .ok (.getfield 22, 3) := by decide +kernel
theorem g_Cell_5 {p : Program} {l : Launch} {e : Env} {R : Room} {s : Jvm.State} {m : MethodId} {args : Array Value} {below : List Frame} {meth : Method} {c : Code} {H : Heap} {locs : List Loc} {cells slots : Nat} {Q : Jvm.State → Prop} {cc : ByteArray} {pc : Nat} {ls : Array Slot} {rest : List Value} {D : va_G} {ad : Nat → Nat → Nat} {ca : Nat → ClassId} {M : me_M} {N : Nat → Nat} {own : String} {index j : Nat} (hexec : p.tables.exec = Jvm.exec) (hb : c.code = cc) (hts : ∀ w ∈ fg_g, w.before args s = true) (hown : s.vm.findClass own = some m.cls) (hK : va_K D classes (me_T ca) s) (hP : va_P D classes (me_W ad ca M) H) (hwf : me_wf N M) (hj : j < N 10) (hlink : (Cond.fieldLink own index "FilterGuard$Cell" "written" "I").before args s = true) (hdg : decode cc pc = .ok (.getfield index, 3)) (kk : W p l e R s m args below meth c H locs cells slots Q (F0 m (pc + 3) ls (.int (mI M 10 j 5) :: rest))) : W p l e R s m args below meth c H locs cells slots Q (F0 m pc ls (.ref (ad 10 j) :: rest)) := me_get (k := 10) (f := 5) (C := "FilterGuard$Cell") (T := F_Cell) (Nf := 7) hexec hb hts i_Cell hown hK hP hwf hj (by decide) rfl (by decide) (by decide) hlink (fun _ h9 => h9) hdg kk
theorem d_Cell_isAround_38 : decode prog_2_method_14_code 38 = .ok (.ifCond .eq 15, 3) := by decide +kernel
theorem d_Cell_isAround_53 : decode prog_2_method_14_code 53 = .ok (.iconst 1, 1) := by decide +kernel
theorem d_Cell_isAround_54 : decode prog_2_method_14_code 54 = .ok (.goto 4, 3) := by decide +kernel
theorem d_Cell_isAround_58 : decode prog_2_method_14_code 58 = .ok (.ireturn, 1) := by decide +kernel
theorem d_Cell_isAround_41 : decode prog_2_method_14_code 41 = .ok (.iload_n 2, 1) := by decide +kernel
theorem d_Cell_isAround_42 : decode prog_2_method_14_code 42 = .ok (.ifCond .ne 11, 3) := by decide +kernel
theorem d_Cell_isAround_45 : decode prog_2_method_14_code 45 = .ok (.aload_n 1, 1) := by decide +kernel
theorem d_Cell_isAround_46 : decode prog_2_method_14_code 46 = .ok (.getfield 18, 3) := by decide +kernel
theorem g_Cell_0 {p : Program} {l : Launch} {e : Env} {R : Room} {s : Jvm.State} {m : MethodId} {args : Array Value} {below : List Frame} {meth : Method} {c : Code} {H : Heap} {locs : List Loc} {cells slots : Nat} {Q : Jvm.State → Prop} {cc : ByteArray} {pc : Nat} {ls : Array Slot} {rest : List Value} {D : va_G} {ad : Nat → Nat → Nat} {ca : Nat → ClassId} {M : me_M} {N : Nat → Nat} {own : String} {index j : Nat} (hexec : p.tables.exec = Jvm.exec) (hb : c.code = cc) (hts : ∀ w ∈ fg_g, w.before args s = true) (hown : s.vm.findClass own = some m.cls) (hK : va_K D classes (me_T ca) s) (hP : va_P D classes (me_W ad ca M) H) (hwf : me_wf N M) (hj : j < N 10) (hlink : (Cond.fieldLink own index "FilterGuard$Cell" "kind" "I").before args s = true) (hdg : decode cc pc = .ok (.getfield index, 3)) (kk : W p l e R s m args below meth c H locs cells slots Q (F0 m (pc + 3) ls (.int (mI M 10 j 0) :: rest))) : W p l e R s m args below meth c H locs cells slots Q (F0 m pc ls (.ref (ad 10 j) :: rest)) := me_get (k := 10) (f := 0) (C := "FilterGuard$Cell") (T := F_Cell) (Nf := 7) hexec hb hts i_Cell hown hK hP hwf hj (by decide) rfl (by decide) (by decide) hlink (fun _ h9 => h9) hdg kk
theorem d_Cell_isAround_49 : decode prog_2_method_14_code 49 = .ok (.iconst 1, 1) := by decide +kernel
theorem d_Cell_isAround_50 : decode prog_2_method_14_code 50 = .ok (.if_icmp .ne 7, 3) := by decide +kernel
theorem d_Cell_isAround_57 : decode prog_2_method_14_code 57 = .ok (.iconst 0, 1) := by decide +kernel
theorem d_Cell_isAround_32 : decode prog_2_method_14_code 32 = .ok (.iconst 0, 1) := by decide +kernel
theorem d_Cell_isAround_0 : decode prog_2_method_14_code 0 = .ok (.aload_n 0, 1) := by decide +kernel
theorem d_Cell_isAround_1 : decode prog_2_method_14_code 1 = .ok (.getfield 18, 3) := by decide +kernel
theorem d_Cell_isAround_4 : decode prog_2_method_14_code 4 = .ok (.ifCond .ne 55, 3) := by decide +kernel
theorem d_Cell_isAround_59 : decode prog_2_method_14_code 59 = .ok (.aload_n 0, 1) := by decide +kernel
theorem d_Cell_isAround_60 : decode prog_2_method_14_code 60 = .ok (.getfield 18, 3) := by decide +kernel
theorem d_Cell_isAround_63 : decode prog_2_method_14_code 63 = .ok (.aload_n 1, 1) := by decide +kernel
theorem d_Cell_isAround_64 : decode prog_2_method_14_code 64 = .ok (.getfield 18, 3) := by decide +kernel
theorem d_Cell_isAround_67 : decode prog_2_method_14_code 67 = .ok (.if_icmp .eq 5, 3) := by decide +kernel
theorem d_Cell_isAround_72 : decode prog_2_method_14_code 72 = .ok (.aload_n 0, 1) := by decide +kernel
theorem d_Cell_isAround_73 : decode prog_2_method_14_code 73 = .ok (.getfield 18, 3) := by decide +kernel
theorem d_Cell_isAround_76 : decode prog_2_method_14_code 76 = .ok (.tableswitch 178 1 8 #[48, 60, 60, 77, 178, 161, 119, 161], 48) := by decide +kernel
theorem d_Cell_isAround_124 : decode prog_2_method_14_code 124 = .ok (.aload_n 0, 1) := by decide +kernel
theorem d_Cell_isAround_125 : decode prog_2_method_14_code 125 = .ok (.getfield 12, 3) := by decide +kernel
theorem d_Cell_isAround_128 : decode prog_2_method_14_code 128 = .ok (.aload_n 1, 1) := by decide +kernel
theorem d_Cell_isAround_129 : decode prog_2_method_14_code 129 = .ok (.getfield 12, 3) := by decide +kernel
theorem d_Cell_isAround_132 : decode prog_2_method_14_code 132 = .ok (.invokevirtual 60, 3) := by decide +kernel
theorem u_1057 : Cond.methodLink "FilterGuard$Cell" 60 ⟨"FilterGuard$Num", "covers", "(LFilterGuard$Num;)Z"⟩ ∈ fg_g := fg_in (List.mem_of_getElem? (i := 1057) (by decide +kernel)) rfl
theorem u_1060 : Cond.code ⟨"FilterGuard$Num", "covers", "(LFilterGuard$Num;)Z"⟩ prog_8_method_11_code 2 (some .boolean) ∈ fg_g := fg_in (List.mem_of_getElem? (i := 1060) (by decide +kernel)) rfl
theorem u_1058 : Cond.instanceMethod ⟨"FilterGuard$Num", "covers", "(LFilterGuard$Num;)Z"⟩ ∈ fg_g := fg_in (List.mem_of_getElem? (i := 1058) (by decide +kernel)) rfl
theorem u_1059 : Cond.selects "FilterGuard$Num" ⟨"FilterGuard$Num", "covers", "(LFilterGuard$Num;)Z"⟩ ⟨"FilterGuard$Num", "covers", "(LFilterGuard$Num;)Z"⟩ ∈ fg_g := fg_in (List.mem_of_getElem? (i := 1059) (by decide +kernel)) rfl
theorem d_Cell_isAround_135 : decode prog_2_method_14_code 135 = .ok (.ireturn, 1) := by decide +kernel
theorem d_Cell_isAround_136 : decode prog_2_method_14_code 136 = .ok (.aload_n 0, 1) := by decide +kernel
theorem d_Cell_isAround_137 : decode prog_2_method_14_code 137 = .ok (.getfield 25, 3) := by decide +kernel
theorem g_Cell_1 {p : Program} {l : Launch} {e : Env} {R : Room} {s : Jvm.State} {m : MethodId} {args : Array Value} {below : List Frame} {meth : Method} {c : Code} {H : Heap} {locs : List Loc} {cells slots : Nat} {Q : Jvm.State → Prop} {cc : ByteArray} {pc : Nat} {ls : Array Slot} {rest : List Value} {D : va_G} {ad : Nat → Nat → Nat} {ca : Nat → ClassId} {M : me_M} {N : Nat → Nat} {own : String} {index j : Nat} (hexec : p.tables.exec = Jvm.exec) (hb : c.code = cc) (hts : ∀ w ∈ fg_g, w.before args s = true) (hown : s.vm.findClass own = some m.cls) (hK : va_K D classes (me_T ca) s) (hP : va_P D classes (me_W ad ca M) H) (hwf : me_wf N M) (hj : j < N 10) (hlink : (Cond.fieldLink own index "FilterGuard$Cell" "place" "I").before args s = true) (hdg : decode cc pc = .ok (.getfield index, 3)) (kk : W p l e R s m args below meth c H locs cells slots Q (F0 m (pc + 3) ls (.int (mI M 10 j 1) :: rest))) : W p l e R s m args below meth c H locs cells slots Q (F0 m pc ls (.ref (ad 10 j) :: rest)) := me_get (k := 10) (f := 1) (C := "FilterGuard$Cell") (T := F_Cell) (Nf := 7) hexec hb hts i_Cell hown hK hP hwf hj (by decide) rfl (by decide) (by decide) hlink (fun _ h9 => h9) hdg kk
theorem d_Cell_isAround_140 : decode prog_2_method_14_code 140 = .ok (.aload_n 1, 1) := by decide +kernel
theorem d_Cell_isAround_141 : decode prog_2_method_14_code 141 = .ok (.getfield 25, 3) := by decide +kernel
theorem d_Cell_isAround_144 : decode prog_2_method_14_code 144 = .ok (.if_icmp .ne 7, 3) := by decide +kernel
theorem d_Cell_isAround_151 : decode prog_2_method_14_code 151 = .ok (.iconst 0, 1) := by decide +kernel
theorem d_Cell_isAround_152 : decode prog_2_method_14_code 152 = .ok (.ireturn, 1) := by decide +kernel
theorem d_Cell_isAround_147 : decode prog_2_method_14_code 147 = .ok (.iconst 1, 1) := by decide +kernel
theorem d_Cell_isAround_148 : decode prog_2_method_14_code 148 = .ok (.goto 4, 3) := by decide +kernel
theorem d_Cell_isAround_153 : decode prog_2_method_14_code 153 = .ok (.aload_n 0, 1) := by decide +kernel
theorem d_Cell_isAround_154 : decode prog_2_method_14_code 154 = .ok (.getfield 25, 3) := by decide +kernel
theorem d_Cell_isAround_157 : decode prog_2_method_14_code 157 = .ok (.aload_n 1, 1) := by decide +kernel
theorem d_Cell_isAround_158 : decode prog_2_method_14_code 158 = .ok (.getfield 25, 3) := by decide +kernel
theorem d_Cell_isAround_161 : decode prog_2_method_14_code 161 = .ok (.if_icmp .ne 32, 3) := by decide +kernel
theorem d_Cell_isAround_193 : decode prog_2_method_14_code 193 = .ok (.iconst 0, 1) := by decide +kernel
theorem d_Cell_isAround_194 : decode prog_2_method_14_code 194 = .ok (.ireturn, 1) := by decide +kernel
theorem d_Cell_isAround_164 : decode prog_2_method_14_code 164 = .ok (.aload_n 0, 1) := by decide +kernel
theorem d_Cell_isAround_165 : decode prog_2_method_14_code 165 = .ok (.getfield 34, 3) := by decide +kernel
theorem g_Cell_4 {p : Program} {l : Launch} {e : Env} {R : Room} {s : Jvm.State} {m : MethodId} {args : Array Value} {below : List Frame} {meth : Method} {c : Code} {H : Heap} {locs : List Loc} {cells slots : Nat} {Q : Jvm.State → Prop} {cc : ByteArray} {pc : Nat} {ls : Array Slot} {rest : List Value} {D : va_G} {ad : Nat → Nat → Nat} {ca : Nat → ClassId} {M : me_M} {N : Nat → Nat} {own : String} {index j : Nat} (hexec : p.tables.exec = Jvm.exec) (hb : c.code = cc) (hts : ∀ w ∈ fg_g, w.before args s = true) (hown : s.vm.findClass own = some m.cls) (hK : va_K D classes (me_T ca) s) (hP : va_P D classes (me_W ad ca M) H) (hwf : me_wf N M) (hj : j < N 10) (hlink : (Cond.fieldLink own index "FilterGuard$Cell" "room" "I").before args s = true) (hdg : decode cc pc = .ok (.getfield index, 3)) (kk : W p l e R s m args below meth c H locs cells slots Q (F0 m (pc + 3) ls (.int (mI M 10 j 4) :: rest))) : W p l e R s m args below meth c H locs cells slots Q (F0 m pc ls (.ref (ad 10 j) :: rest)) := me_get (k := 10) (f := 4) (C := "FilterGuard$Cell") (T := F_Cell) (Nf := 7) hexec hb hts i_Cell hown hK hP hwf hj (by decide) rfl (by decide) (by decide) hlink (fun _ h9 => h9) hdg kk
theorem d_Cell_isAround_168 : decode prog_2_method_14_code 168 = .ok (.aload_n 1, 1) := by decide +kernel
theorem d_Cell_isAround_169 : decode prog_2_method_14_code 169 = .ok (.getfield 34, 3) := by decide +kernel
theorem d_Cell_isAround_172 : decode prog_2_method_14_code 172 = .ok (.if_icmp .gt 21, 3) := by decide +kernel
theorem d_Cell_isAround_175 : decode prog_2_method_14_code 175 = .ok (.aload_n 0, 1) := by decide +kernel
theorem d_Cell_isAround_176 : decode prog_2_method_14_code 176 = .ok (.getfield 12, 3) := by decide +kernel
theorem d_Cell_isAround_179 : decode prog_2_method_14_code 179 = .ok (.aload_n 1, 1) := by decide +kernel
theorem d_Cell_isAround_180 : decode prog_2_method_14_code 180 = .ok (.getfield 12, 3) := by decide +kernel
theorem d_Cell_isAround_183 : decode prog_2_method_14_code 183 = .ok (.invokevirtual 60, 3) := by decide +kernel
theorem d_Cell_isAround_186 : decode prog_2_method_14_code 186 = .ok (.ifCond .eq 7, 3) := by decide +kernel
theorem d_Cell_isAround_189 : decode prog_2_method_14_code 189 = .ok (.iconst 1, 1) := by decide +kernel
theorem d_Cell_isAround_190 : decode prog_2_method_14_code 190 = .ok (.goto 4, 3) := by decide +kernel
theorem d_Cell_isAround_254 : decode prog_2_method_14_code 254 = .ok (.iconst 1, 1) := by decide +kernel
theorem d_Cell_isAround_255 : decode prog_2_method_14_code 255 = .ok (.ireturn, 1) := by decide +kernel
theorem d_Cell_isAround_237 : decode prog_2_method_14_code 237 = .ok (.aload_n 0, 1) := by decide +kernel
theorem d_Cell_isAround_238 : decode prog_2_method_14_code 238 = .ok (.getfield 28, 3) := by decide +kernel
theorem g_Cell_2 {p : Program} {l : Launch} {e : Env} {R : Room} {s : Jvm.State} {m : MethodId} {args : Array Value} {below : List Frame} {meth : Method} {c : Code} {H : Heap} {locs : List Loc} {cells slots : Nat} {Q : Jvm.State → Prop} {cc : ByteArray} {pc : Nat} {ls : Array Slot} {rest : List Value} {D : va_G} {ad : Nat → Nat → Nat} {ca : Nat → ClassId} {M : me_M} {N : Nat → Nat} {own : String} {index j : Nat} (hexec : p.tables.exec = Jvm.exec) (hb : c.code = cc) (hts : ∀ w ∈ fg_g, w.before args s = true) (hown : s.vm.findClass own = some m.cls) (hK : va_K D classes (me_T ca) s) (hP : va_P D classes (me_W ad ca M) H) (hwf : me_wf N M) (hj : j < N 10) (hlink : (Cond.fieldLink own index "FilterGuard$Cell" "mapNumber" "I").before args s = true) (hdg : decode cc pc = .ok (.getfield index, 3)) (kk : W p l e R s m args below meth c H locs cells slots Q (F0 m (pc + 3) ls (.int (mI M 10 j 2) :: rest))) : W p l e R s m args below meth c H locs cells slots Q (F0 m pc ls (.ref (ad 10 j) :: rest)) := me_get (k := 10) (f := 2) (C := "FilterGuard$Cell") (T := F_Cell) (Nf := 7) hexec hb hts i_Cell hown hK hP hwf hj (by decide) rfl (by decide) (by decide) hlink (fun _ h9 => h9) hdg kk
theorem d_Cell_isAround_241 : decode prog_2_method_14_code 241 = .ok (.aload_n 1, 1) := by decide +kernel
theorem d_Cell_isAround_242 : decode prog_2_method_14_code 242 = .ok (.getfield 28, 3) := by decide +kernel
theorem d_Cell_isAround_245 : decode prog_2_method_14_code 245 = .ok (.if_icmp .ne 7, 3) := by decide +kernel
theorem d_Cell_isAround_252 : decode prog_2_method_14_code 252 = .ok (.iconst 0, 1) := by decide +kernel
theorem d_Cell_isAround_253 : decode prog_2_method_14_code 253 = .ok (.ireturn, 1) := by decide +kernel
theorem d_Cell_isAround_248 : decode prog_2_method_14_code 248 = .ok (.iconst 1, 1) := by decide +kernel
theorem d_Cell_isAround_249 : decode prog_2_method_14_code 249 = .ok (.goto 4, 3) := by decide +kernel
theorem d_Cell_isAround_195 : decode prog_2_method_14_code 195 = .ok (.aload_n 0, 1) := by decide +kernel
theorem d_Cell_isAround_196 : decode prog_2_method_14_code 196 = .ok (.getfield 25, 3) := by decide +kernel
theorem d_Cell_isAround_199 : decode prog_2_method_14_code 199 = .ok (.aload_n 1, 1) := by decide +kernel
theorem d_Cell_isAround_200 : decode prog_2_method_14_code 200 = .ok (.getfield 25, 3) := by decide +kernel
theorem d_Cell_isAround_203 : decode prog_2_method_14_code 203 = .ok (.if_icmp .ne 32, 3) := by decide +kernel
theorem d_Cell_isAround_235 : decode prog_2_method_14_code 235 = .ok (.iconst 0, 1) := by decide +kernel
theorem d_Cell_isAround_236 : decode prog_2_method_14_code 236 = .ok (.ireturn, 1) := by decide +kernel
theorem d_Cell_isAround_206 : decode prog_2_method_14_code 206 = .ok (.aload_n 0, 1) := by decide +kernel
theorem d_Cell_isAround_207 : decode prog_2_method_14_code 207 = .ok (.getfield 28, 3) := by decide +kernel
theorem d_Cell_isAround_210 : decode prog_2_method_14_code 210 = .ok (.aload_n 1, 1) := by decide +kernel
theorem d_Cell_isAround_211 : decode prog_2_method_14_code 211 = .ok (.getfield 28, 3) := by decide +kernel
theorem d_Cell_isAround_214 : decode prog_2_method_14_code 214 = .ok (.if_icmp .ne 21, 3) := by decide +kernel
theorem d_Cell_isAround_217 : decode prog_2_method_14_code 217 = .ok (.aload_n 0, 1) := by decide +kernel
theorem d_Cell_isAround_218 : decode prog_2_method_14_code 218 = .ok (.getfield 12, 3) := by decide +kernel
theorem d_Cell_isAround_221 : decode prog_2_method_14_code 221 = .ok (.aload_n 1, 1) := by decide +kernel
theorem d_Cell_isAround_222 : decode prog_2_method_14_code 222 = .ok (.getfield 12, 3) := by decide +kernel
theorem d_Cell_isAround_225 : decode prog_2_method_14_code 225 = .ok (.invokevirtual 60, 3) := by decide +kernel
theorem d_Cell_isAround_228 : decode prog_2_method_14_code 228 = .ok (.ifCond .eq 7, 3) := by decide +kernel
theorem d_Cell_isAround_231 : decode prog_2_method_14_code 231 = .ok (.iconst 1, 1) := by decide +kernel
theorem d_Cell_isAround_232 : decode prog_2_method_14_code 232 = .ok (.goto 4, 3) := by decide +kernel
theorem d_Cell_isAround_70 : decode prog_2_method_14_code 70 = .ok (.iconst 0, 1) := by decide +kernel
theorem d_Cell_isAround_71 : decode prog_2_method_14_code 71 = .ok (.ireturn, 1) := by decide +kernel
theorem d_Cell_isAround_7 : decode prog_2_method_14_code 7 = .ok (.aload_n 1, 1) := by decide +kernel
theorem d_Cell_isAround_8 : decode prog_2_method_14_code 8 = .ok (.getfield 18, 3) := by decide +kernel
theorem d_Cell_isAround_11 : decode prog_2_method_14_code 11 = .ok (.ifCond .ne 21, 3) := by decide +kernel
theorem d_Cell_isAround_14 : decode prog_2_method_14_code 14 = .ok (.aload_n 0, 1) := by decide +kernel
theorem d_Cell_isAround_15 : decode prog_2_method_14_code 15 = .ok (.getfield 22, 3) := by decide +kernel
theorem d_Cell_isAround_18 : decode prog_2_method_14_code 18 = .ok (.aload_n 1, 1) := by decide +kernel
theorem d_Cell_isAround_19 : decode prog_2_method_14_code 19 = .ok (.getfield 22, 3) := by decide +kernel
theorem d_Cell_isAround_22 : decode prog_2_method_14_code 22 = .ok (.iconst (-1), 1) := by decide +kernel
theorem d_Cell_isAround_23 : decode prog_2_method_14_code 23 = .ok (.ixor, 1) := by decide +kernel
theorem d_Cell_isAround_24 : decode prog_2_method_14_code 24 = .ok (.iand, 1) := by decide +kernel
theorem d_Cell_isAround_25 : decode prog_2_method_14_code 25 = .ok (.ifCond .ne 7, 3) := by decide +kernel
theorem d_Cell_isAround_28 : decode prog_2_method_14_code 28 = .ok (.iconst 1, 1) := by decide +kernel
theorem d_Cell_isAround_29 : decode prog_2_method_14_code 29 = .ok (.goto 4, 3) := by decide +kernel
abbrev y_Cell_isAround : MethodName := ⟨"FilterGuard$Cell", "isAround", "(LFilterGuard$Cell;)Z"⟩
def f_Cell_isAround_b33 (j0 : Nat) (j1 : Nat) (M : me_M) (s0 : Int32) : Option (me_M × Int32) := (if (mI M 10 j0 5) = 0 then some (M, (1 : Int32)) else (if s0 = 0 then (if (mI M 10 j1 0) = 1 then some (M, (1 : Int32)) else some (M, (0 : Int32))) else some (M, (1 : Int32))))
def f_Cell_isAround_b32 (j0 : Nat) (j1 : Nat) (M : me_M) : Option (me_M × Int32) := f_Cell_isAround_b33 j0 j1 M (0 : Int32)
def f_Cell_isAround (M0 : me_M) (j0 : Nat) (j1 : Nat) : Option (me_M × Int32) := (if (mI M0 10 j0 0) = 0 then (if (mI M0 10 j1 0) = 0 then (if ((mI M0 10 j0 5) &&& ((mI M0 10 j1 5) ^^^ (-1))) = 0 then f_Cell_isAround_b33 j0 j1 M0 (1 : Int32) else f_Cell_isAround_b32 j0 j1 M0) else f_Cell_isAround_b32 j0 j1 M0) else (if (mI M0 10 j0 0) = (mI M0 10 j1 0) then (if (mI M0 10 j0 0) = 1 then bd (mR M0 10 j0 6) (fun (j8 : Nat) => bd (mR M0 10 j1 6) (fun (j10 : Nat) => b2 (f_Num_covers M0 j8 j10) (fun (M12 : me_M) (r13 : Int32) => some (M12, r13)))) else (if (mI M0 10 j0 0) = 2 then (if (mI M0 10 j0 1) = (mI M0 10 j1 1) then some (M0, (1 : Int32)) else some (M0, (0 : Int32))) else (if (mI M0 10 j0 0) = 3 then (if (mI M0 10 j0 1) = (mI M0 10 j1 1) then some (M0, (1 : Int32)) else some (M0, (0 : Int32))) else (if (mI M0 10 j0 0) = 4 then (if (mI M0 10 j0 1) = (mI M0 10 j1 1) then (if (mI M0 10 j1 4) < (mI M0 10 j0 4) then some (M0, (0 : Int32)) else bd (mR M0 10 j0 6) (fun (j21 : Nat) => bd (mR M0 10 j1 6) (fun (j23 : Nat) => b2 (f_Num_covers M0 j21 j23) (fun (M25 : me_M) (r26 : Int32) => (if r26 = 0 then some (M25, (0 : Int32)) else some (M25, (1 : Int32))))))) else some (M0, (0 : Int32))) else (if (mI M0 10 j0 0) = 5 then some (M0, (1 : Int32)) else (if (mI M0 10 j0 0) = 6 then (if (mI M0 10 j0 2) = (mI M0 10 j1 2) then some (M0, (1 : Int32)) else some (M0, (0 : Int32))) else (if (mI M0 10 j0 0) = 7 then (if (mI M0 10 j0 1) = (mI M0 10 j1 1) then (if (mI M0 10 j0 2) = (mI M0 10 j1 2) then bd (mR M0 10 j0 6) (fun (j34 : Nat) => bd (mR M0 10 j1 6) (fun (j36 : Nat) => b2 (f_Num_covers M0 j34 j36) (fun (M38 : me_M) (r39 : Int32) => (if r39 = 0 then some (M38, (0 : Int32)) else some (M38, (1 : Int32)))))) else some (M0, (0 : Int32))) else some (M0, (0 : Int32))) else (if (mI M0 10 j0 0) = 8 then (if (mI M0 10 j0 2) = (mI M0 10 j1 2) then some (M0, (1 : Int32)) else some (M0, (0 : Int32))) else some (M0, (1 : Int32)))))))))) else some (M0, (0 : Int32))))
def rm_Cell_isAround : Room := { frames := 3, cells := 0, slots := 0, locals := 64 }
abbrev q_Cell_isAround (D : va_G) (ad : Nat → Nat → Nat) (ca : Nat → ClassId) (N : Nat → Nat) (M0 MZ : me_M) (RZ : Int32) (A : Nat → Prop) : Array Value → Jvm.State → Outcome → Jvm.State → Prop := va_Qi (fun r (_ : Unit) => r = RZ ∧ me_wf N MZ ∧ me_kp M0 MZ ∧ (RZ = 1 ∨ RZ = 0)) (fg_B D A (fun _ => me_W ad ca MZ) (fun _ => [])) A
set_option maxHeartbeats 4000000 in
set_option maxRecDepth 100000 in
theorem c_Cell_isAround (l : Launch) (D : va_G) (ad : Nat → Nat → Nat) (ca : Nat → ClassId) (N : Nat → Nat) (M0 MZ : me_M) (RZ : Int32) (j0 : Nat) (j1 : Nat) (h : f_Cell_isAround M0 j0 j1 = (some (MZ, RZ))) (hwf : me_wf N M0) (hj0 : j0 < N 10) (hj1 : j1 < N 10) (sz : Nat) : Met l y_Cell_isAround (fg_w y_Cell_isAround prog_2_method_14_code 3 (some .boolean)) rm_Cell_isAround (va_Pc [.ref (ad 10 j0), .ref (ad 10 j1)] (fz_P D (me_T ca) (me_W ad ca M0) sz)) (q_Cell_isAround D ad ca N M0 MZ RZ (va_A (me_W ad ca M0) sz)) rm_Cell_isAround.cells rm_Cell_isAround.slots (va_A (me_W ad ca M0) sz) := by
  refine fz_enter (fun A => q_Cell_isAround D ad ca N M0 MZ RZ A) (by decide +kernel) (Nat.le_of_ble_eq_true rfl) ?_
  intro p e s m below meth c ls A hx hb hml hown hts hr hlocks hin hP hK hD hS hA hX hl hz
  have hl : lv_has ls 3 [(0, .ref (ad 10 j0)), (1, .ref (ad 10 j1))] := hl
  unfold f_Cell_isAround at h
  have hkp : me_kp M0 M0 := me_kp.rf
  have hkb := hkp
  have b_33 : ∀ (M : me_M) (s0 : Int32) (H : Heap) (locs : List Loc) (ls : Array Slot), f_Cell_isAround_b33 j0 j1 M s0 = (some (MZ, RZ)) → (s0 = 1 ∨ s0 = 0) → me_wf N M → me_kp M0 M → va_P D classes (me_W ad ca M) H → va_D A (me_W ad ca M) → va_S A s.heap H locs → lv_has ls 3 [(0, .ref (ad 10 j0)), (1, .ref (ad 10 j1))] → W p l e rm_Cell_isAround s m [.ref (ad 10 j0), .ref (ad 10 j1)].toArray below meth c H locs 0 0 (MQ below (q_Cell_isAround D ad ca N M0 MZ RZ A) [.ref (ad 10 j0), .ref (ad 10 j1)].toArray s rm_Cell_isAround.cells rm_Cell_isAround.slots A) (F0 m 33 ls [.int s0]) := by
    intro M s0 H locs ls h zs0 hwf hkp hP hD hS hl
    unfold f_Cell_isAround_b33 at h
    have hkb := hkp
    refine lv_istore_n (lv' := [(2, .int s0), (0, .ref (ad 10 j0)), (1, .ref (ad 10 j1))]) hx hb d_Cell_isAround_33 rfl hl (by decide) rfl (fun ls hl => ?_)
    refine lv_aload_n hx hb d_Cell_isAround_34 rfl (lv_at hl 1 rfl) ?_
    refine g_Cell_5 hx hb hts hown hK hP hwf hj0 (hts _ u_433) d_Cell_isAround_35 ?_
    refine lv_if_eq (tgt := 53) hx hb d_Cell_isAround_38 (by decide) (fun c1 => ?_) (fun c1 => ?_)
    · have h := if_t c1 h
      refine lv_iconst (v := 1) hx hb d_Cell_isAround_53 (by decide) ?_
      refine lv_goto (tgt := 58) hx hb d_Cell_isAround_54 (by decide) ?_
      exact me_retz (me_kp M0) h (by decide) hx hb hr hlocks hwf hkp hP hK hD hS d_Cell_isAround_58
    have h := if_f c1 h
    refine lv_iload_n hx hb d_Cell_isAround_41 rfl (lv_at hl 0 rfl) ?_
    refine lv_if_ne (tgt := 53) hx hb d_Cell_isAround_42 (by decide) (fun c2 => ?_) (fun c2 => ?_)
    · have h := if_f c2 h
      refine lv_iconst (v := 1) hx hb d_Cell_isAround_53 (by decide) ?_
      refine lv_goto (tgt := 58) hx hb d_Cell_isAround_54 (by decide) ?_
      exact me_retz (me_kp M0) h (by decide) hx hb hr hlocks hwf hkp hP hK hD hS d_Cell_isAround_58
    have h := if_t c2 h
    refine lv_aload_n hx hb d_Cell_isAround_45 rfl (lv_at hl 2 rfl) ?_
    refine g_Cell_0 hx hb hts hown hK hP hwf hj1 (hts _ u_420) d_Cell_isAround_46 ?_
    refine lv_iconst (v := 1) hx hb d_Cell_isAround_49 (by decide) ?_
    refine lv_icmp_ne (tgt := 57) hx hb d_Cell_isAround_50 (by decide) (fun c3 => ?_) (fun c3 => ?_)
    · have h := if_f c3 h
      refine lv_iconst (v := 0) hx hb d_Cell_isAround_57 (by decide) ?_
      exact me_retz (me_kp M0) h (by decide) hx hb hr hlocks hwf hkp hP hK hD hS d_Cell_isAround_58
    have h := if_t c3 h
    refine lv_iconst (v := 1) hx hb d_Cell_isAround_53 (by decide) ?_
    refine lv_goto (tgt := 58) hx hb d_Cell_isAround_54 (by decide) ?_
    exact me_retz (me_kp M0) h (by decide) hx hb hr hlocks hwf hkp hP hK hD hS d_Cell_isAround_58
  have b_32 : ∀ (M : me_M) (H : Heap) (locs : List Loc) (ls : Array Slot), f_Cell_isAround_b32 j0 j1 M = (some (MZ, RZ)) → me_wf N M → me_kp M0 M → va_P D classes (me_W ad ca M) H → va_D A (me_W ad ca M) → va_S A s.heap H locs → lv_has ls 3 [(0, .ref (ad 10 j0)), (1, .ref (ad 10 j1))] → W p l e rm_Cell_isAround s m [.ref (ad 10 j0), .ref (ad 10 j1)].toArray below meth c H locs 0 0 (MQ below (q_Cell_isAround D ad ca N M0 MZ RZ A) [.ref (ad 10 j0), .ref (ad 10 j1)].toArray s rm_Cell_isAround.cells rm_Cell_isAround.slots A) (F0 m 32 ls []) := by
    intro M H locs ls h hwf hkp hP hD hS hl
    unfold f_Cell_isAround_b32 at h
    have hkb := hkp
    refine lv_iconst (v := 0) hx hb d_Cell_isAround_32 (by decide) ?_
    exact b_33 M (0 : Int32) _ _ _ h (by decide) hwf hkp hP hD hS (lv_sub hl [0, 1] rfl)
  refine lv_aload_n hx hb d_Cell_isAround_0 rfl (lv_at hl 0 rfl) ?_
  refine g_Cell_0 hx hb hts hown hK hP hwf hj0 (hts _ u_420) d_Cell_isAround_1 ?_
  refine lv_if_ne (tgt := 59) hx hb d_Cell_isAround_4 (by decide) (fun c4 => ?_) (fun c4 => ?_)
  · have h := if_f c4 h
    refine lv_aload_n hx hb d_Cell_isAround_59 rfl (lv_at hl 0 rfl) ?_
    refine g_Cell_0 hx hb hts hown hK hP hwf hj0 (hts _ u_420) d_Cell_isAround_60 ?_
    refine lv_aload_n hx hb d_Cell_isAround_63 rfl (lv_at hl 1 rfl) ?_
    refine g_Cell_0 hx hb hts hown hK hP hwf hj1 (hts _ u_420) d_Cell_isAround_64 ?_
    refine lv_icmp_eq (tgt := 72) hx hb d_Cell_isAround_67 (by decide) (fun c5 => ?_) (fun c5 => ?_)
    · have h := if_t c5 h
      refine lv_aload_n hx hb d_Cell_isAround_72 rfl (lv_at hl 0 rfl) ?_
      refine g_Cell_0 hx hb hts hown hK hP hwf hj0 (hts _ u_420) d_Cell_isAround_73 ?_
      refine lv_topi (fun w6 ew6 => ?_)
      by_cases n7 : w6 = 1
      · have h := if_t (ew6.symm.trans n7) h
        subst n7
        refine lv_tableIn (off := 48) (tgt := 124) hx hb d_Cell_isAround_76 (by decide) (by decide) (by decide) (by decide) ?_
        refine lv_aload_n hx hb d_Cell_isAround_124 rfl (lv_at hl 0 rfl) ?_
        refine g_Cell_6 hx hb hts hown hK hP hwf hj0 (hts _ u_435) d_Cell_isAround_125 ?_
        obtain ⟨j8, e9, h⟩ := bd_ob h
        have hj8 : j8 < N 11 := (hwf.2.1 10 j0 6 _ e9 (by decide) hj0)
        refine me_opt (j := j8) e9 ?_
        refine lv_aload_n hx hb d_Cell_isAround_128 rfl (lv_at hl 1 rfl) ?_
        refine g_Cell_6 hx hb hts hown hK hP hwf hj1 (hts _ u_435) d_Cell_isAround_129 ?_
        obtain ⟨j10, e11, h⟩ := bd_ob h
        have hj10 : j10 < N 11 := (hwf.2.1 10 j1 6 _ e11 (by decide) hj1)
        refine me_opt (j := j10) e11 ?_
        obtain ⟨M12, r13, eM12, h⟩ := b2_ob h
        refine me_theni0 (M1 := M12) (me_runV (C := "FilterGuard$Num") (As := [.ref (ad 11 j10)]) (rest := []) ⟨hx, hb, hml, hown, hts⟩ (c_Num_covers l D ad ca N M0 M12 r13 j8 j10 eM12 hwf hj8 hj10 _) rfl (by show fg_nm y_Num_covers 1; decide +kernel) u_1057 u_1058 u_1059 u_187 u_1060 ⟨Nat.le_of_ble_eq_true rfl, Nat.le_of_ble_eq_true rfl⟩ hX hz hK hP hD hwf hS hA hj8 (by decide) rfl rfl rfl hl.1 (Nat.le_of_ble_eq_true rfl) d_Cell_isAround_132 ⟨Nat.le_of_ble_eq_true rfl, Nat.le_of_ble_eq_true rfl⟩) hP hD hK hS hA rfl rfl (fun H locs hw hP hD hS => ?_)
        obtain ⟨hwf, hk9, zr13⟩ := hw
        have hkp := hkp.tr hk9
        exact me_retz (me_kp M0) h zr13 hx hb hr hlocks hwf hkp hP hK hD hS d_Cell_isAround_135
      have h := if_f (fun z => n7 (ew6.trans z)) h
      by_cases n14 : w6 = 2
      · have h := if_t (ew6.symm.trans n14) h
        subst n14
        refine lv_tableIn (off := 60) (tgt := 136) hx hb d_Cell_isAround_76 (by decide) (by decide) (by decide) (by decide) ?_
        refine lv_aload_n hx hb d_Cell_isAround_136 rfl (lv_at hl 0 rfl) ?_
        refine g_Cell_1 hx hb hts hown hK hP hwf hj0 (hts _ u_424) d_Cell_isAround_137 ?_
        refine lv_aload_n hx hb d_Cell_isAround_140 rfl (lv_at hl 1 rfl) ?_
        refine g_Cell_1 hx hb hts hown hK hP hwf hj1 (hts _ u_424) d_Cell_isAround_141 ?_
        refine lv_icmp_ne (tgt := 151) hx hb d_Cell_isAround_144 (by decide) (fun c15 => ?_) (fun c15 => ?_)
        · have h := if_f c15 h
          refine lv_iconst (v := 0) hx hb d_Cell_isAround_151 (by decide) ?_
          exact me_retz (me_kp M0) h (by decide) hx hb hr hlocks hwf hkp hP hK hD hS d_Cell_isAround_152
        have h := if_t c15 h
        refine lv_iconst (v := 1) hx hb d_Cell_isAround_147 (by decide) ?_
        refine lv_goto (tgt := 152) hx hb d_Cell_isAround_148 (by decide) ?_
        exact me_retz (me_kp M0) h (by decide) hx hb hr hlocks hwf hkp hP hK hD hS d_Cell_isAround_152
      have h := if_f (fun z => n14 (ew6.trans z)) h
      by_cases n16 : w6 = 3
      · have h := if_t (ew6.symm.trans n16) h
        subst n16
        refine lv_tableIn (off := 60) (tgt := 136) hx hb d_Cell_isAround_76 (by decide) (by decide) (by decide) (by decide) ?_
        refine lv_aload_n hx hb d_Cell_isAround_136 rfl (lv_at hl 0 rfl) ?_
        refine g_Cell_1 hx hb hts hown hK hP hwf hj0 (hts _ u_424) d_Cell_isAround_137 ?_
        refine lv_aload_n hx hb d_Cell_isAround_140 rfl (lv_at hl 1 rfl) ?_
        refine g_Cell_1 hx hb hts hown hK hP hwf hj1 (hts _ u_424) d_Cell_isAround_141 ?_
        refine lv_icmp_ne (tgt := 151) hx hb d_Cell_isAround_144 (by decide) (fun c17 => ?_) (fun c17 => ?_)
        · have h := if_f c17 h
          refine lv_iconst (v := 0) hx hb d_Cell_isAround_151 (by decide) ?_
          exact me_retz (me_kp M0) h (by decide) hx hb hr hlocks hwf hkp hP hK hD hS d_Cell_isAround_152
        have h := if_t c17 h
        refine lv_iconst (v := 1) hx hb d_Cell_isAround_147 (by decide) ?_
        refine lv_goto (tgt := 152) hx hb d_Cell_isAround_148 (by decide) ?_
        exact me_retz (me_kp M0) h (by decide) hx hb hr hlocks hwf hkp hP hK hD hS d_Cell_isAround_152
      have h := if_f (fun z => n16 (ew6.trans z)) h
      by_cases n18 : w6 = 4
      · have h := if_t (ew6.symm.trans n18) h
        subst n18
        refine lv_tableIn (off := 77) (tgt := 153) hx hb d_Cell_isAround_76 (by decide) (by decide) (by decide) (by decide) ?_
        refine lv_aload_n hx hb d_Cell_isAround_153 rfl (lv_at hl 0 rfl) ?_
        refine g_Cell_1 hx hb hts hown hK hP hwf hj0 (hts _ u_424) d_Cell_isAround_154 ?_
        refine lv_aload_n hx hb d_Cell_isAround_157 rfl (lv_at hl 1 rfl) ?_
        refine g_Cell_1 hx hb hts hown hK hP hwf hj1 (hts _ u_424) d_Cell_isAround_158 ?_
        refine lv_icmp_ne (tgt := 193) hx hb d_Cell_isAround_161 (by decide) (fun c19 => ?_) (fun c19 => ?_)
        · have h := if_f c19 h
          refine lv_iconst (v := 0) hx hb d_Cell_isAround_193 (by decide) ?_
          exact me_retz (me_kp M0) h (by decide) hx hb hr hlocks hwf hkp hP hK hD hS d_Cell_isAround_194
        have h := if_t c19 h
        refine lv_aload_n hx hb d_Cell_isAround_164 rfl (lv_at hl 0 rfl) ?_
        refine g_Cell_4 hx hb hts hown hK hP hwf hj0 (hts _ u_431) d_Cell_isAround_165 ?_
        refine lv_aload_n hx hb d_Cell_isAround_168 rfl (lv_at hl 1 rfl) ?_
        refine g_Cell_4 hx hb hts hown hK hP hwf hj1 (hts _ u_431) d_Cell_isAround_169 ?_
        refine lv_icmp_gt (tgt := 193) hx hb d_Cell_isAround_172 (by decide) (fun c20 => ?_) (fun c20 => ?_)
        · have h := if_t c20 h
          refine lv_iconst (v := 0) hx hb d_Cell_isAround_193 (by decide) ?_
          exact me_retz (me_kp M0) h (by decide) hx hb hr hlocks hwf hkp hP hK hD hS d_Cell_isAround_194
        have h := if_f c20 h
        refine lv_aload_n hx hb d_Cell_isAround_175 rfl (lv_at hl 0 rfl) ?_
        refine g_Cell_6 hx hb hts hown hK hP hwf hj0 (hts _ u_435) d_Cell_isAround_176 ?_
        obtain ⟨j21, e22, h⟩ := bd_ob h
        have hj21 : j21 < N 11 := (hwf.2.1 10 j0 6 _ e22 (by decide) hj0)
        refine me_opt (j := j21) e22 ?_
        refine lv_aload_n hx hb d_Cell_isAround_179 rfl (lv_at hl 1 rfl) ?_
        refine g_Cell_6 hx hb hts hown hK hP hwf hj1 (hts _ u_435) d_Cell_isAround_180 ?_
        obtain ⟨j23, e24, h⟩ := bd_ob h
        have hj23 : j23 < N 11 := (hwf.2.1 10 j1 6 _ e24 (by decide) hj1)
        refine me_opt (j := j23) e24 ?_
        obtain ⟨M25, r26, eM25, h⟩ := b2_ob h
        refine me_theni0 (M1 := M25) (me_runV (C := "FilterGuard$Num") (As := [.ref (ad 11 j23)]) (rest := []) ⟨hx, hb, hml, hown, hts⟩ (c_Num_covers l D ad ca N M0 M25 r26 j21 j23 eM25 hwf hj21 hj23 _) rfl (by show fg_nm y_Num_covers 1; decide +kernel) u_1057 u_1058 u_1059 u_187 u_1060 ⟨Nat.le_of_ble_eq_true rfl, Nat.le_of_ble_eq_true rfl⟩ hX hz hK hP hD hwf hS hA hj21 (by decide) rfl rfl rfl hl.1 (Nat.le_of_ble_eq_true rfl) d_Cell_isAround_183 ⟨Nat.le_of_ble_eq_true rfl, Nat.le_of_ble_eq_true rfl⟩) hP hD hK hS hA rfl rfl (fun H locs hw hP hD hS => ?_)
        obtain ⟨hwf, hk9, zr26⟩ := hw
        have hkp := hkp.tr hk9
        refine lv_if_eq (tgt := 193) hx hb d_Cell_isAround_186 (by decide) (fun c27 => ?_) (fun c27 => ?_)
        · have h := if_t c27 h
          refine lv_iconst (v := 0) hx hb d_Cell_isAround_193 (by decide) ?_
          exact me_retz (me_kp M0) h (by decide) hx hb hr hlocks hwf hkp hP hK hD hS d_Cell_isAround_194
        have h := if_f c27 h
        refine lv_iconst (v := 1) hx hb d_Cell_isAround_189 (by decide) ?_
        refine lv_goto (tgt := 194) hx hb d_Cell_isAround_190 (by decide) ?_
        exact me_retz (me_kp M0) h (by decide) hx hb hr hlocks hwf hkp hP hK hD hS d_Cell_isAround_194
      have h := if_f (fun z => n18 (ew6.trans z)) h
      by_cases n28 : w6 = 5
      · have h := if_t (ew6.symm.trans n28) h
        subst n28
        refine lv_tableIn (off := 178) (tgt := 254) hx hb d_Cell_isAround_76 (by decide) (by decide) (by decide) (by decide) ?_
        refine lv_iconst (v := 1) hx hb d_Cell_isAround_254 (by decide) ?_
        exact me_retz (me_kp M0) h (by decide) hx hb hr hlocks hwf hkp hP hK hD hS d_Cell_isAround_255
      have h := if_f (fun z => n28 (ew6.trans z)) h
      by_cases n29 : w6 = 6
      · have h := if_t (ew6.symm.trans n29) h
        subst n29
        refine lv_tableIn (off := 161) (tgt := 237) hx hb d_Cell_isAround_76 (by decide) (by decide) (by decide) (by decide) ?_
        refine lv_aload_n hx hb d_Cell_isAround_237 rfl (lv_at hl 0 rfl) ?_
        refine g_Cell_2 hx hb hts hown hK hP hwf hj0 (hts _ u_426) d_Cell_isAround_238 ?_
        refine lv_aload_n hx hb d_Cell_isAround_241 rfl (lv_at hl 1 rfl) ?_
        refine g_Cell_2 hx hb hts hown hK hP hwf hj1 (hts _ u_426) d_Cell_isAround_242 ?_
        refine lv_icmp_ne (tgt := 252) hx hb d_Cell_isAround_245 (by decide) (fun c30 => ?_) (fun c30 => ?_)
        · have h := if_f c30 h
          refine lv_iconst (v := 0) hx hb d_Cell_isAround_252 (by decide) ?_
          exact me_retz (me_kp M0) h (by decide) hx hb hr hlocks hwf hkp hP hK hD hS d_Cell_isAround_253
        have h := if_t c30 h
        refine lv_iconst (v := 1) hx hb d_Cell_isAround_248 (by decide) ?_
        refine lv_goto (tgt := 253) hx hb d_Cell_isAround_249 (by decide) ?_
        exact me_retz (me_kp M0) h (by decide) hx hb hr hlocks hwf hkp hP hK hD hS d_Cell_isAround_253
      have h := if_f (fun z => n29 (ew6.trans z)) h
      by_cases n31 : w6 = 7
      · have h := if_t (ew6.symm.trans n31) h
        subst n31
        refine lv_tableIn (off := 119) (tgt := 195) hx hb d_Cell_isAround_76 (by decide) (by decide) (by decide) (by decide) ?_
        refine lv_aload_n hx hb d_Cell_isAround_195 rfl (lv_at hl 0 rfl) ?_
        refine g_Cell_1 hx hb hts hown hK hP hwf hj0 (hts _ u_424) d_Cell_isAround_196 ?_
        refine lv_aload_n hx hb d_Cell_isAround_199 rfl (lv_at hl 1 rfl) ?_
        refine g_Cell_1 hx hb hts hown hK hP hwf hj1 (hts _ u_424) d_Cell_isAround_200 ?_
        refine lv_icmp_ne (tgt := 235) hx hb d_Cell_isAround_203 (by decide) (fun c32 => ?_) (fun c32 => ?_)
        · have h := if_f c32 h
          refine lv_iconst (v := 0) hx hb d_Cell_isAround_235 (by decide) ?_
          exact me_retz (me_kp M0) h (by decide) hx hb hr hlocks hwf hkp hP hK hD hS d_Cell_isAround_236
        have h := if_t c32 h
        refine lv_aload_n hx hb d_Cell_isAround_206 rfl (lv_at hl 0 rfl) ?_
        refine g_Cell_2 hx hb hts hown hK hP hwf hj0 (hts _ u_426) d_Cell_isAround_207 ?_
        refine lv_aload_n hx hb d_Cell_isAround_210 rfl (lv_at hl 1 rfl) ?_
        refine g_Cell_2 hx hb hts hown hK hP hwf hj1 (hts _ u_426) d_Cell_isAround_211 ?_
        refine lv_icmp_ne (tgt := 235) hx hb d_Cell_isAround_214 (by decide) (fun c33 => ?_) (fun c33 => ?_)
        · have h := if_f c33 h
          refine lv_iconst (v := 0) hx hb d_Cell_isAround_235 (by decide) ?_
          exact me_retz (me_kp M0) h (by decide) hx hb hr hlocks hwf hkp hP hK hD hS d_Cell_isAround_236
        have h := if_t c33 h
        refine lv_aload_n hx hb d_Cell_isAround_217 rfl (lv_at hl 0 rfl) ?_
        refine g_Cell_6 hx hb hts hown hK hP hwf hj0 (hts _ u_435) d_Cell_isAround_218 ?_
        obtain ⟨j34, e35, h⟩ := bd_ob h
        have hj34 : j34 < N 11 := (hwf.2.1 10 j0 6 _ e35 (by decide) hj0)
        refine me_opt (j := j34) e35 ?_
        refine lv_aload_n hx hb d_Cell_isAround_221 rfl (lv_at hl 1 rfl) ?_
        refine g_Cell_6 hx hb hts hown hK hP hwf hj1 (hts _ u_435) d_Cell_isAround_222 ?_
        obtain ⟨j36, e37, h⟩ := bd_ob h
        have hj36 : j36 < N 11 := (hwf.2.1 10 j1 6 _ e37 (by decide) hj1)
        refine me_opt (j := j36) e37 ?_
        obtain ⟨M38, r39, eM38, h⟩ := b2_ob h
        refine me_theni0 (M1 := M38) (me_runV (C := "FilterGuard$Num") (As := [.ref (ad 11 j36)]) (rest := []) ⟨hx, hb, hml, hown, hts⟩ (c_Num_covers l D ad ca N M0 M38 r39 j34 j36 eM38 hwf hj34 hj36 _) rfl (by show fg_nm y_Num_covers 1; decide +kernel) u_1057 u_1058 u_1059 u_187 u_1060 ⟨Nat.le_of_ble_eq_true rfl, Nat.le_of_ble_eq_true rfl⟩ hX hz hK hP hD hwf hS hA hj34 (by decide) rfl rfl rfl hl.1 (Nat.le_of_ble_eq_true rfl) d_Cell_isAround_225 ⟨Nat.le_of_ble_eq_true rfl, Nat.le_of_ble_eq_true rfl⟩) hP hD hK hS hA rfl rfl (fun H locs hw hP hD hS => ?_)
        obtain ⟨hwf, hk9, zr39⟩ := hw
        have hkp := hkp.tr hk9
        refine lv_if_eq (tgt := 235) hx hb d_Cell_isAround_228 (by decide) (fun c40 => ?_) (fun c40 => ?_)
        · have h := if_t c40 h
          refine lv_iconst (v := 0) hx hb d_Cell_isAround_235 (by decide) ?_
          exact me_retz (me_kp M0) h (by decide) hx hb hr hlocks hwf hkp hP hK hD hS d_Cell_isAround_236
        have h := if_f c40 h
        refine lv_iconst (v := 1) hx hb d_Cell_isAround_231 (by decide) ?_
        refine lv_goto (tgt := 236) hx hb d_Cell_isAround_232 (by decide) ?_
        exact me_retz (me_kp M0) h (by decide) hx hb hr hlocks hwf hkp hP hK hD hS d_Cell_isAround_236
      have h := if_f (fun z => n31 (ew6.trans z)) h
      by_cases n41 : w6 = 8
      · have h := if_t (ew6.symm.trans n41) h
        subst n41
        refine lv_tableIn (off := 161) (tgt := 237) hx hb d_Cell_isAround_76 (by decide) (by decide) (by decide) (by decide) ?_
        refine lv_aload_n hx hb d_Cell_isAround_237 rfl (lv_at hl 0 rfl) ?_
        refine g_Cell_2 hx hb hts hown hK hP hwf hj0 (hts _ u_426) d_Cell_isAround_238 ?_
        refine lv_aload_n hx hb d_Cell_isAround_241 rfl (lv_at hl 1 rfl) ?_
        refine g_Cell_2 hx hb hts hown hK hP hwf hj1 (hts _ u_426) d_Cell_isAround_242 ?_
        refine lv_icmp_ne (tgt := 252) hx hb d_Cell_isAround_245 (by decide) (fun c42 => ?_) (fun c42 => ?_)
        · have h := if_f c42 h
          refine lv_iconst (v := 0) hx hb d_Cell_isAround_252 (by decide) ?_
          exact me_retz (me_kp M0) h (by decide) hx hb hr hlocks hwf hkp hP hK hD hS d_Cell_isAround_253
        have h := if_t c42 h
        refine lv_iconst (v := 1) hx hb d_Cell_isAround_248 (by decide) ?_
        refine lv_goto (tgt := 253) hx hb d_Cell_isAround_249 (by decide) ?_
        exact me_retz (me_kp M0) h (by decide) hx hb hr hlocks hwf hkp hP hK hD hS d_Cell_isAround_253
      have h := if_f (fun z => n41 (ew6.trans z)) h
      have in7 := lv_neT n7 (show (1 : Int32).toInt = 1 from rfl)
      have in14 := lv_neT n14 (show (2 : Int32).toInt = 2 from rfl)
      have in16 := lv_neT n16 (show (3 : Int32).toInt = 3 from rfl)
      have in18 := lv_neT n18 (show (4 : Int32).toInt = 4 from rfl)
      have in28 := lv_neT n28 (show (5 : Int32).toInt = 5 from rfl)
      have in29 := lv_neT n29 (show (6 : Int32).toInt = 6 from rfl)
      have in31 := lv_neT n31 (show (7 : Int32).toInt = 7 from rfl)
      have in41 := lv_neT n41 (show (8 : Int32).toInt = 8 from rfl)
      refine lv_tableOut (tgt := 254) hx hb d_Cell_isAround_76 (by omega) (by decide) ?_
      refine lv_iconst (v := 1) hx hb d_Cell_isAround_254 (by decide) ?_
      exact me_retz (me_kp M0) h (by decide) hx hb hr hlocks hwf hkp hP hK hD hS d_Cell_isAround_255
    have h := if_f c5 h
    refine lv_iconst (v := 0) hx hb d_Cell_isAround_70 (by decide) ?_
    exact me_retz (me_kp M0) h (by decide) hx hb hr hlocks hwf hkp hP hK hD hS d_Cell_isAround_71
  have h := if_t c4 h
  refine lv_aload_n hx hb d_Cell_isAround_7 rfl (lv_at hl 1 rfl) ?_
  refine g_Cell_0 hx hb hts hown hK hP hwf hj1 (hts _ u_420) d_Cell_isAround_8 ?_
  refine lv_if_ne (tgt := 32) hx hb d_Cell_isAround_11 (by decide) (fun c43 => ?_) (fun c43 => ?_)
  · have h := if_f c43 h
    exact b_32 M0 _ _ _ h hwf hkp hP hD hS (lv_sub hl [0, 1] rfl)
  have h := if_t c43 h
  refine lv_aload_n hx hb d_Cell_isAround_14 rfl (lv_at hl 0 rfl) ?_
  refine g_Cell_5 hx hb hts hown hK hP hwf hj0 (hts _ u_433) d_Cell_isAround_15 ?_
  refine lv_aload_n hx hb d_Cell_isAround_18 rfl (lv_at hl 1 rfl) ?_
  refine g_Cell_5 hx hb hts hown hK hP hwf hj1 (hts _ u_433) d_Cell_isAround_19 ?_
  refine lv_iconst (v := (-1)) hx hb d_Cell_isAround_22 (by decide) ?_
  refine lv_ixor hx hb d_Cell_isAround_23 ?_
  refine lv_iand hx hb d_Cell_isAround_24 ?_
  refine lv_if_ne (tgt := 32) hx hb d_Cell_isAround_25 (by decide) (fun c44 => ?_) (fun c44 => ?_)
  · have h := if_f c44 h
    exact b_32 M0 _ _ _ h hwf hkp hP hD hS (lv_sub hl [0, 1] rfl)
  have h := if_t c44 h
  refine lv_iconst (v := 1) hx hb d_Cell_isAround_28 (by decide) ?_
  refine lv_goto (tgt := 33) hx hb d_Cell_isAround_29 (by decide) ?_
  exact b_33 M0 (1 : Int32) _ _ _ h (by decide) hwf hkp hP hD hS (lv_sub hl [0, 1] rfl)
theorem d_Cell_hasIdentity_0 : decode prog_2_method_13_code 0 = .ok (.aload_n 0, 1) := by decide +kernel
theorem d_Cell_hasIdentity_1 : decode prog_2_method_13_code 1 = .ok (.getfield 18, 3) := by decide +kernel
theorem d_Cell_hasIdentity_4 : decode prog_2_method_13_code 4 = .ok (.iconst 4, 1) := by decide +kernel
theorem d_Cell_hasIdentity_5 : decode prog_2_method_13_code 5 = .ok (.if_icmp .eq 12, 3) := by decide +kernel
theorem d_Cell_hasIdentity_17 : decode prog_2_method_13_code 17 = .ok (.iconst 1, 1) := by decide +kernel
theorem d_Cell_hasIdentity_18 : decode prog_2_method_13_code 18 = .ok (.goto 4, 3) := by decide +kernel
theorem d_Cell_hasIdentity_22 : decode prog_2_method_13_code 22 = .ok (.ireturn, 1) := by decide +kernel
theorem d_Cell_hasIdentity_8 : decode prog_2_method_13_code 8 = .ok (.aload_n 0, 1) := by decide +kernel
theorem d_Cell_hasIdentity_9 : decode prog_2_method_13_code 9 = .ok (.getfield 18, 3) := by decide +kernel
theorem d_Cell_hasIdentity_12 : decode prog_2_method_13_code 12 = .ok (.bipush 8, 2) := by decide +kernel
theorem d_Cell_hasIdentity_14 : decode prog_2_method_13_code 14 = .ok (.if_icmp .ne 7, 3) := by decide +kernel
theorem d_Cell_hasIdentity_21 : decode prog_2_method_13_code 21 = .ok (.iconst 0, 1) := by decide +kernel
abbrev y_Cell_hasIdentity : MethodName := ⟨"FilterGuard$Cell", "hasIdentity", "()Z"⟩
def f_Cell_hasIdentity (M0 : me_M) (j0 : Nat) : Option (me_M × Int32) := (if (mI M0 10 j0 0) = 4 then some (M0, (1 : Int32)) else (if (mI M0 10 j0 0) = 8 then some (M0, (1 : Int32)) else some (M0, (0 : Int32))))
def rm_Cell_hasIdentity : Room := { frames := 1, cells := 0, slots := 0, locals := 20 }
abbrev q_Cell_hasIdentity (D : va_G) (ad : Nat → Nat → Nat) (ca : Nat → ClassId) (N : Nat → Nat) (M0 MZ : me_M) (RZ : Int32) (A : Nat → Prop) : Array Value → Jvm.State → Outcome → Jvm.State → Prop := va_Qi (fun r (_ : Unit) => r = RZ ∧ me_wf N MZ ∧ me_kp M0 MZ ∧ (RZ = 1 ∨ RZ = 0)) (fg_B D A (fun _ => me_W ad ca MZ) (fun _ => [])) A
set_option maxHeartbeats 4000000 in
set_option maxRecDepth 100000 in
theorem c_Cell_hasIdentity (l : Launch) (D : va_G) (ad : Nat → Nat → Nat) (ca : Nat → ClassId) (N : Nat → Nat) (M0 MZ : me_M) (RZ : Int32) (j0 : Nat) (h : f_Cell_hasIdentity M0 j0 = (some (MZ, RZ))) (hwf : me_wf N M0) (hj0 : j0 < N 10) (sz : Nat) : Met l y_Cell_hasIdentity (fg_w y_Cell_hasIdentity prog_2_method_13_code 1 (some .boolean)) rm_Cell_hasIdentity (va_Pc [.ref (ad 10 j0)] (fz_P D (me_T ca) (me_W ad ca M0) sz)) (q_Cell_hasIdentity D ad ca N M0 MZ RZ (va_A (me_W ad ca M0) sz)) rm_Cell_hasIdentity.cells rm_Cell_hasIdentity.slots (va_A (me_W ad ca M0) sz) := by
  refine fz_enter (fun A => q_Cell_hasIdentity D ad ca N M0 MZ RZ A) (by decide +kernel) (Nat.le_of_ble_eq_true rfl) ?_
  intro p e s m below meth c ls A hx hb hml hown hts hr hlocks hin hP hK hD hS hA hX hl hz
  have hl : lv_has ls 1 [(0, .ref (ad 10 j0))] := hl
  unfold f_Cell_hasIdentity at h
  have hkp : me_kp M0 M0 := me_kp.rf
  have hkb := hkp
  refine lv_aload_n hx hb d_Cell_hasIdentity_0 rfl (lv_at hl 0 rfl) ?_
  refine g_Cell_0 hx hb hts hown hK hP hwf hj0 (hts _ u_420) d_Cell_hasIdentity_1 ?_
  refine lv_iconst (v := 4) hx hb d_Cell_hasIdentity_4 (by decide) ?_
  refine lv_icmp_eq (tgt := 17) hx hb d_Cell_hasIdentity_5 (by decide) (fun c1 => ?_) (fun c1 => ?_)
  · have h := if_t c1 h
    refine lv_iconst (v := 1) hx hb d_Cell_hasIdentity_17 (by decide) ?_
    refine lv_goto (tgt := 22) hx hb d_Cell_hasIdentity_18 (by decide) ?_
    exact me_retz (me_kp M0) h (by decide) hx hb hr hlocks hwf hkp hP hK hD hS d_Cell_hasIdentity_22
  have h := if_f c1 h
  refine lv_aload_n hx hb d_Cell_hasIdentity_8 rfl (lv_at hl 0 rfl) ?_
  refine g_Cell_0 hx hb hts hown hK hP hwf hj0 (hts _ u_420) d_Cell_hasIdentity_9 ?_
  refine lv_bipush (v := 8) hx hb d_Cell_hasIdentity_12 (by decide) ?_
  refine lv_icmp_ne (tgt := 21) hx hb d_Cell_hasIdentity_14 (by decide) (fun c2 => ?_) (fun c2 => ?_)
  · have h := if_f c2 h
    refine lv_iconst (v := 0) hx hb d_Cell_hasIdentity_21 (by decide) ?_
    exact me_retz (me_kp M0) h (by decide) hx hb hr hlocks hwf hkp hP hK hD hS d_Cell_hasIdentity_22
  have h := if_t c2 h
  refine lv_iconst (v := 1) hx hb d_Cell_hasIdentity_17 (by decide) ?_
  refine lv_goto (tgt := 22) hx hb d_Cell_hasIdentity_18 (by decide) ?_
  exact me_retz (me_kp M0) h (by decide) hx hb hr hlocks hwf hkp hP hK hD hS d_Cell_hasIdentity_22
theorem d_Explorer_isPaired_30 : decode prog_5_method_7_code 30 = .ok (.aload_n 0, 1) := by decide +kernel
theorem d_Explorer_isPaired_31 : decode prog_5_method_7_code 31 = .ok (.getfield 20, 3) := by decide +kernel
theorem g_Explorer_5 {p : Program} {l : Launch} {e : Env} {R : Room} {s : Jvm.State} {m : MethodId} {args : Array Value} {below : List Frame} {meth : Method} {c : Code} {H : Heap} {locs : List Loc} {cells slots : Nat} {Q : Jvm.State → Prop} {cc : ByteArray} {pc : Nat} {ls : Array Slot} {rest : List Value} {D : va_G} {ad : Nat → Nat → Nat} {ca : Nat → ClassId} {M : me_M} {N : Nat → Nat} {own : String} {index j : Nat} (hexec : p.tables.exec = Jvm.exec) (hb : c.code = cc) (hts : ∀ w ∈ fg_g, w.before args s = true) (hown : s.vm.findClass own = some m.cls) (hK : va_K D classes (me_T ca) s) (hP : va_P D classes (me_W ad ca M) H) (hwf : me_wf N M) (hj : j < N 4) (hlink : (Cond.fieldLink own index "FilterGuard$Explorer" "keptIdentities" "[I").before args s = true) (hdg : decode cc pc = .ok (.getfield index, 3)) (kk : W p l e R s m args below meth c H locs cells slots Q (F0 m (pc + 3) ls (va_rf ((mR M 4 j 5).map (ad 13)) :: rest))) : W p l e R s m args below meth c H locs cells slots Q (F0 m pc ls (.ref (ad 4 j) :: rest)) := me_get (k := 4) (f := 5) (C := "FilterGuard$Explorer") (T := F_Explorer) (Nf := 15) hexec hb hts i_Explorer hown hK hP hwf hj (by decide) rfl (by decide) (by decide) hlink (fun _ h9 => h9) hdg kk
theorem d_Explorer_isPaired_34 : decode prog_5_method_7_code 34 = .ok (.iload_n 3, 1) := by decide +kernel
theorem d_Explorer_isPaired_35 : decode prog_5_method_7_code 35 = .ok (.iaload, 1) := by decide +kernel
theorem d_Explorer_isPaired_36 : decode prog_5_method_7_code 36 = .ok (.iload_n 1, 1) := by decide +kernel
theorem d_Explorer_isPaired_37 : decode prog_5_method_7_code 37 = .ok (.if_icmp .ne 17, 3) := by decide +kernel
theorem d_Explorer_isPaired_54 : decode prog_5_method_7_code 54 = .ok (.iconst 0, 1) := by decide +kernel
theorem d_Explorer_isPaired_55 : decode prog_5_method_7_code 55 = .ok (.ireturn, 1) := by decide +kernel
theorem d_Explorer_isPaired_40 : decode prog_5_method_7_code 40 = .ok (.aload_n 0, 1) := by decide +kernel
theorem d_Explorer_isPaired_41 : decode prog_5_method_7_code 41 = .ok (.getfield 24, 3) := by decide +kernel
theorem g_Explorer_6 {p : Program} {l : Launch} {e : Env} {R : Room} {s : Jvm.State} {m : MethodId} {args : Array Value} {below : List Frame} {meth : Method} {c : Code} {H : Heap} {locs : List Loc} {cells slots : Nat} {Q : Jvm.State → Prop} {cc : ByteArray} {pc : Nat} {ls : Array Slot} {rest : List Value} {D : va_G} {ad : Nat → Nat → Nat} {ca : Nat → ClassId} {M : me_M} {N : Nat → Nat} {own : String} {index j : Nat} (hexec : p.tables.exec = Jvm.exec) (hb : c.code = cc) (hts : ∀ w ∈ fg_g, w.before args s = true) (hown : s.vm.findClass own = some m.cls) (hK : va_K D classes (me_T ca) s) (hP : va_P D classes (me_W ad ca M) H) (hwf : me_wf N M) (hj : j < N 4) (hlink : (Cond.fieldLink own index "FilterGuard$Explorer" "itsIdentities" "[I").before args s = true) (hdg : decode cc pc = .ok (.getfield index, 3)) (kk : W p l e R s m args below meth c H locs cells slots Q (F0 m (pc + 3) ls (va_rf ((mR M 4 j 6).map (ad 13)) :: rest))) : W p l e R s m args below meth c H locs cells slots Q (F0 m pc ls (.ref (ad 4 j) :: rest)) := me_get (k := 4) (f := 6) (C := "FilterGuard$Explorer") (T := F_Explorer) (Nf := 15) hexec hb hts i_Explorer hown hK hP hwf hj (by decide) rfl (by decide) (by decide) hlink (fun _ h9 => h9) hdg kk
theorem d_Explorer_isPaired_44 : decode prog_5_method_7_code 44 = .ok (.iload_n 3, 1) := by decide +kernel
theorem d_Explorer_isPaired_45 : decode prog_5_method_7_code 45 = .ok (.iaload, 1) := by decide +kernel
theorem d_Explorer_isPaired_46 : decode prog_5_method_7_code 46 = .ok (.iload_n 2, 1) := by decide +kernel
theorem d_Explorer_isPaired_47 : decode prog_5_method_7_code 47 = .ok (.if_icmp .ne 7, 3) := by decide +kernel
theorem d_Explorer_isPaired_50 : decode prog_5_method_7_code 50 = .ok (.iconst 1, 1) := by decide +kernel
theorem d_Explorer_isPaired_51 : decode prog_5_method_7_code 51 = .ok (.goto 4, 3) := by decide +kernel
theorem d_Explorer_isPaired_2 : decode prog_5_method_7_code 2 = .ok (.iload_n 3, 1) := by decide +kernel
theorem d_Explorer_isPaired_3 : decode prog_5_method_7_code 3 = .ok (.aload_n 0, 1) := by decide +kernel
theorem d_Explorer_isPaired_4 : decode prog_5_method_7_code 4 = .ok (.getfield 124, 3) := by decide +kernel
theorem u_553 : Cond.fieldLink "FilterGuard$Explorer" 124 "FilterGuard$Explorer" "pairs" "I" ∈ fg_g := fg_in (List.mem_of_getElem? (i := 553) (by decide +kernel)) rfl
theorem g_Explorer_7 {p : Program} {l : Launch} {e : Env} {R : Room} {s : Jvm.State} {m : MethodId} {args : Array Value} {below : List Frame} {meth : Method} {c : Code} {H : Heap} {locs : List Loc} {cells slots : Nat} {Q : Jvm.State → Prop} {cc : ByteArray} {pc : Nat} {ls : Array Slot} {rest : List Value} {D : va_G} {ad : Nat → Nat → Nat} {ca : Nat → ClassId} {M : me_M} {N : Nat → Nat} {own : String} {index j : Nat} (hexec : p.tables.exec = Jvm.exec) (hb : c.code = cc) (hts : ∀ w ∈ fg_g, w.before args s = true) (hown : s.vm.findClass own = some m.cls) (hK : va_K D classes (me_T ca) s) (hP : va_P D classes (me_W ad ca M) H) (hwf : me_wf N M) (hj : j < N 4) (hlink : (Cond.fieldLink own index "FilterGuard$Explorer" "pairs" "I").before args s = true) (hdg : decode cc pc = .ok (.getfield index, 3)) (kk : W p l e R s m args below meth c H locs cells slots Q (F0 m (pc + 3) ls (.int (mI M 4 j 7) :: rest))) : W p l e R s m args below meth c H locs cells slots Q (F0 m pc ls (.ref (ad 4 j) :: rest)) := me_get (k := 4) (f := 7) (C := "FilterGuard$Explorer") (T := F_Explorer) (Nf := 15) hexec hb hts i_Explorer hown hK hP hwf hj (by decide) rfl (by decide) (by decide) hlink (fun _ h9 => h9) hdg kk
theorem d_Explorer_isPaired_7 : decode prog_5_method_7_code 7 = .ok (.if_icmp .ge 55, 3) := by decide +kernel
theorem d_Explorer_isPaired_62 : decode prog_5_method_7_code 62 = .ok (.aload_n 0, 1) := by decide +kernel
theorem d_Explorer_isPaired_63 : decode prog_5_method_7_code 63 = .ok (.getfield 20, 3) := by decide +kernel
theorem d_Explorer_isPaired_66 : decode prog_5_method_7_code 66 = .ok (.aload_n 0, 1) := by decide +kernel
theorem d_Explorer_isPaired_67 : decode prog_5_method_7_code 67 = .ok (.getfield 124, 3) := by decide +kernel
theorem d_Explorer_isPaired_70 : decode prog_5_method_7_code 70 = .ok (.iload_n 1, 1) := by decide +kernel
theorem d_Explorer_isPaired_71 : decode prog_5_method_7_code 71 = .ok (.iastore, 1) := by decide +kernel
theorem d_Explorer_isPaired_72 : decode prog_5_method_7_code 72 = .ok (.aload_n 0, 1) := by decide +kernel
theorem d_Explorer_isPaired_73 : decode prog_5_method_7_code 73 = .ok (.getfield 24, 3) := by decide +kernel
theorem d_Explorer_isPaired_76 : decode prog_5_method_7_code 76 = .ok (.aload_n 0, 1) := by decide +kernel
theorem d_Explorer_isPaired_77 : decode prog_5_method_7_code 77 = .ok (.getfield 124, 3) := by decide +kernel
theorem d_Explorer_isPaired_80 : decode prog_5_method_7_code 80 = .ok (.iload_n 2, 1) := by decide +kernel
theorem d_Explorer_isPaired_81 : decode prog_5_method_7_code 81 = .ok (.iastore, 1) := by decide +kernel
theorem d_Explorer_isPaired_82 : decode prog_5_method_7_code 82 = .ok (.aload_n 0, 1) := by decide +kernel
theorem d_Explorer_isPaired_83 : decode prog_5_method_7_code 83 = .ok (.dup, 1) := by decide +kernel
theorem d_Explorer_isPaired_84 : decode prog_5_method_7_code 84 = .ok (.getfield 124, 3) := by decide +kernel
theorem d_Explorer_isPaired_87 : decode prog_5_method_7_code 87 = .ok (.iconst 1, 1) := by decide +kernel
theorem d_Explorer_isPaired_88 : decode prog_5_method_7_code 88 = .ok (.iadd, 1) := by decide +kernel
theorem d_Explorer_isPaired_89 : decode prog_5_method_7_code 89 = .ok (.putfield 124, 3) := by decide +kernel
theorem p_Explorer_7 {p : Program} {l : Launch} {e : Env} {R : Room} {s : Jvm.State} {m : MethodId} {args : Array Value} {below : List Frame} {meth : Method} {c : Code} {H : Heap} {locs : List Loc} {cells slots : Nat} {Q : Jvm.State → Prop} {cc : ByteArray} {pc : Nat} {ls : Array Slot} {rest : List Value} {D : va_G} {A : Nat → Prop} {H0 : Heap} {ad : Nat → Nat → Nat} {ca : Nat → ClassId} {M M1 : me_M} {N : Nat → Nat} {own : String} {index j : Nat} {v : Int32} (he : M1 = wI M 4 j 7 v) (hexec : p.tables.exec = Jvm.exec) (hb : c.code = cc) (hts : ∀ w ∈ fg_g, w.before args s = true) (hown : s.vm.findClass own = some m.cls) (hK : va_K D classes (me_T ca) s) (hP : va_P D classes (me_W ad ca M) H) (hD : va_D A (me_W ad ca M)) (hwf : me_wf N M) (hS : va_S A H0 H locs) (hj : j < N 4) (hlink : (Cond.fieldLink own index "FilterGuard$Explorer" "pairs" "I").before args s = true) (hdg : decode cc pc = .ok (.putfield index, 3)) (kk : ∀ (H1 : Heap) (locs1 : List Loc), va_P D classes (me_W ad ca M1) H1 → va_D A (me_W ad ca M1) → me_wf N M1 → va_S A H0 H1 locs1 → W p l e R s m args below meth c H1 locs1 cells slots Q (F0 m (pc + 3) ls rest)) : W p l e R s m args below meth c H locs cells slots Q (F0 m pc ls (.int v :: .ref (ad 4 j) :: rest)) := by
  subst he
  exact me_put (M1 := wI M 4 j 7 v) (k := 4) (f := 7) (C := "FilterGuard$Explorer") (T := F_Explorer) (Nf := 15) hexec hb hts i_Explorer t_Explorer t_Explorer_ok n_Explorer hown hK hP hD hwf hS hj (by decide) rfl (by decide) (by decide) hlink (fun _ h9 => h9) rfl rfl rfl rfl (fun a b h => me_wIE h) (me_fIw (by decide) (by decide)) hdg (fun H1 locs1 a1 a2 a3 => kk H1 locs1 a1 a2 (me_wfI hwf (fun z => absurd z (by decide)) (fun z => absurd z (by decide))) a3)
theorem d_Explorer_isPaired_92 : decode prog_5_method_7_code 92 = .ok (.iconst 1, 1) := by decide +kernel
theorem d_Explorer_isPaired_93 : decode prog_5_method_7_code 93 = .ok (.ireturn, 1) := by decide +kernel
theorem d_Explorer_isPaired_10 : decode prog_5_method_7_code 10 = .ok (.aload_n 0, 1) := by decide +kernel
theorem d_Explorer_isPaired_11 : decode prog_5_method_7_code 11 = .ok (.getfield 20, 3) := by decide +kernel
theorem d_Explorer_isPaired_14 : decode prog_5_method_7_code 14 = .ok (.iload_n 3, 1) := by decide +kernel
theorem d_Explorer_isPaired_15 : decode prog_5_method_7_code 15 = .ok (.iaload, 1) := by decide +kernel
theorem d_Explorer_isPaired_16 : decode prog_5_method_7_code 16 = .ok (.iload_n 1, 1) := by decide +kernel
theorem d_Explorer_isPaired_17 : decode prog_5_method_7_code 17 = .ok (.if_icmp .eq 13, 3) := by decide +kernel
theorem d_Explorer_isPaired_20 : decode prog_5_method_7_code 20 = .ok (.aload_n 0, 1) := by decide +kernel
theorem d_Explorer_isPaired_21 : decode prog_5_method_7_code 21 = .ok (.getfield 24, 3) := by decide +kernel
theorem d_Explorer_isPaired_24 : decode prog_5_method_7_code 24 = .ok (.iload_n 3, 1) := by decide +kernel
theorem d_Explorer_isPaired_25 : decode prog_5_method_7_code 25 = .ok (.iaload, 1) := by decide +kernel
theorem d_Explorer_isPaired_26 : decode prog_5_method_7_code 26 = .ok (.iload_n 2, 1) := by decide +kernel
theorem d_Explorer_isPaired_27 : decode prog_5_method_7_code 27 = .ok (.if_icmp .ne 29, 3) := by decide +kernel
theorem d_Explorer_isPaired_56 : decode prog_5_method_7_code 56 = .ok (.iinc 3 1, 3) := by decide +kernel
theorem d_Explorer_isPaired_59 : decode prog_5_method_7_code 59 = .ok (.goto (-57), 3) := by decide +kernel
theorem d_Explorer_isPaired_0 : decode prog_5_method_7_code 0 = .ok (.iconst 0, 1) := by decide +kernel
theorem d_Explorer_isPaired_1 : decode prog_5_method_7_code 1 = .ok (.istore_n 3, 1) := by decide +kernel
abbrev y_Explorer_isPaired : MethodName := ⟨"FilterGuard$Explorer", "isPaired", "(II)Z"⟩
def f_Explorer_isPaired_b30 (j0 : Nat) (x1 : Int32) (x2 : Int32) (M : me_M) (y3 : Int32) : Option (me_M × Int32) := bd (mR M 4 j0 5) (fun (j1 : Nat) => gd (¬ (y3 < 0 ∨ mZ M 13 j1 ≤ y3.toNatClampNeg)) ((if (mI M 13 j1 y3.toNatClampNeg) = x1 then bd (mR M 4 j0 6) (fun (j5 : Nat) => gd (¬ (y3 < 0 ∨ mZ M 13 j5 ≤ y3.toNatClampNeg)) ((if (mI M 13 j5 y3.toNatClampNeg) = x2 then some (M, (1 : Int32)) else some (M, (0 : Int32))))) else some (M, (0 : Int32)))))
def f_Explorer_isPaired_l2 (j0 : Nat) (x1 : Int32) (x2 : Int32) : Nat → me_M → Int32 → Option (me_M × Int32)
  | 0, _, _ => none
  | fu + 1, M, y3 => (if (mI M 4 j0 7) ≤ y3 then bd (mR M 4 j0 5) (fun (j10 : Nat) => gd (¬ ((mI M 4 j0 7) < 0 ∨ mZ M 13 j10 ≤ (mI M 4 j0 7).toNatClampNeg)) (st (wI M 13 j10 (mI M 4 j0 7).toNatClampNeg x1) (fun (M13 : me_M) => bd (mR M 4 j0 6) (fun (j14 : Nat) => gd (¬ ((mI M13 4 j0 7) < 0 ∨ mZ M 13 j14 ≤ (mI M13 4 j0 7).toNatClampNeg)) (st (wI M13 13 j14 (mI M13 4 j0 7).toNatClampNeg x2) (fun (M17 : me_M) => st (wI M17 4 j0 7 ((mI M17 4 j0 7) + 1)) (fun (M18 : me_M) => some (M18, (1 : Int32))))))))) else bd (mR M 4 j0 5) (fun (j19 : Nat) => gd (¬ (y3 < 0 ∨ mZ M 13 j19 ≤ y3.toNatClampNeg)) ((if (mI M 13 j19 y3.toNatClampNeg) = x1 then f_Explorer_isPaired_b30 j0 x1 x2 M y3 else bd (mR M 4 j0 6) (fun (j23 : Nat) => gd (¬ (y3 < 0 ∨ mZ M 13 j23 ≤ y3.toNatClampNeg)) ((if (mI M 13 j23 y3.toNatClampNeg) = x2 then f_Explorer_isPaired_b30 j0 x1 x2 M y3 else f_Explorer_isPaired_l2 j0 x1 x2 fu M (y3 + 1))))))))
def f_Explorer_isPaired (M0 : me_M) (j0 : Nat) (x1 : Int32) (x2 : Int32) : Option (me_M × Int32) := f_Explorer_isPaired_l2 j0 x1 x2 fuel M0 (0 : Int32)
def rm_Explorer_isPaired : Room := { frames := 1, cells := 0, slots := 0, locals := 20 }
abbrev q_Explorer_isPaired (D : va_G) (ad : Nat → Nat → Nat) (ca : Nat → ClassId) (N : Nat → Nat) (M0 MZ : me_M) (RZ : Int32) (A : Nat → Prop) : Array Value → Jvm.State → Outcome → Jvm.State → Prop := va_Qi (fun r (_ : Unit) => r = RZ ∧ me_wf N MZ ∧ me_kp M0 MZ ∧ (RZ = 1 ∨ RZ = 0)) (fg_B D A (fun _ => me_W ad ca MZ) (fun _ => [])) A
set_option maxHeartbeats 4000000 in
set_option maxRecDepth 100000 in
theorem c_Explorer_isPaired (l : Launch) (D : va_G) (ad : Nat → Nat → Nat) (ca : Nat → ClassId) (N : Nat → Nat) (M0 MZ : me_M) (RZ : Int32) (j0 : Nat) (x1 : Int32) (x2 : Int32) (h : f_Explorer_isPaired M0 j0 x1 x2 = (some (MZ, RZ))) (hwf : me_wf N M0) (hj0 : j0 < N 4) (sz : Nat) : Met l y_Explorer_isPaired (fg_w y_Explorer_isPaired prog_5_method_7_code 4 (some .boolean)) rm_Explorer_isPaired (va_Pc [.ref (ad 4 j0), .int x1, .int x2] (fz_P D (me_T ca) (me_W ad ca M0) sz)) (q_Explorer_isPaired D ad ca N M0 MZ RZ (va_A (me_W ad ca M0) sz)) rm_Explorer_isPaired.cells rm_Explorer_isPaired.slots (va_A (me_W ad ca M0) sz) := by
  refine fz_enter (fun A => q_Explorer_isPaired D ad ca N M0 MZ RZ A) (by decide +kernel) (Nat.le_of_ble_eq_true rfl) ?_
  intro p e s m below meth c ls A hx hb hml hown hts hr hlocks hin hP hK hD hS hA hX hl hz
  have hl : lv_has ls 4 [(0, .ref (ad 4 j0)), (1, .int x1), (2, .int x2)] := hl
  unfold f_Explorer_isPaired at h
  have hkp : me_kp M0 M0 := me_kp.rf
  have hkb := hkp
  have b_30 : ∀ (M : me_M) (y3 : Int32) (H : Heap) (locs : List Loc) (ls : Array Slot), f_Explorer_isPaired_b30 j0 x1 x2 M y3 = (some (MZ, RZ)) → me_wf N M → me_kp M0 M → va_P D classes (me_W ad ca M) H → va_D A (me_W ad ca M) → va_S A s.heap H locs → lv_has ls 4 [(0, .ref (ad 4 j0)), (1, .int x1), (2, .int x2), (3, .int y3)] → W p l e rm_Explorer_isPaired s m [.ref (ad 4 j0), .int x1, .int x2].toArray below meth c H locs 0 0 (MQ below (q_Explorer_isPaired D ad ca N M0 MZ RZ A) [.ref (ad 4 j0), .int x1, .int x2].toArray s rm_Explorer_isPaired.cells rm_Explorer_isPaired.slots A) (F0 m 30 ls []) := by
    intro M y3 H locs ls h hwf hkp hP hD hS hl
    unfold f_Explorer_isPaired_b30 at h
    have hkb := hkp
    refine lv_aload_n hx hb d_Explorer_isPaired_30 rfl (lv_at hl 0 rfl) ?_
    refine g_Explorer_5 hx hb hts hown hK hP hwf hj0 (hts _ u_551) d_Explorer_isPaired_31 ?_
    obtain ⟨j1, e2, h⟩ := bd_ob h
    have hj1 : j1 < N 13 := (hwf.2.1 4 j0 5 _ e2 (by decide) hj0)
    refine me_opt (j := j1) e2 ?_
    refine lv_iload_n hx hb d_Explorer_isPaired_34 rfl (lv_at hl 3 rfl) ?_
    obtain ⟨g3, h⟩ := gd_ob h
    refine me_iald hx hb hK hP hwf hj1 g3 d_Explorer_isPaired_35 ?_
    refine lv_iload_n hx hb d_Explorer_isPaired_36 rfl (lv_at hl 1 rfl) ?_
    refine lv_icmp_ne (tgt := 54) hx hb d_Explorer_isPaired_37 (by decide) (fun c4 => ?_) (fun c4 => ?_)
    · have h := if_f c4 h
      refine lv_iconst (v := 0) hx hb d_Explorer_isPaired_54 (by decide) ?_
      exact me_retz (me_kp M0) h (by decide) hx hb hr hlocks hwf hkp hP hK hD hS d_Explorer_isPaired_55
    have h := if_t c4 h
    refine lv_aload_n hx hb d_Explorer_isPaired_40 rfl (lv_at hl 0 rfl) ?_
    refine g_Explorer_6 hx hb hts hown hK hP hwf hj0 (hts _ u_552) d_Explorer_isPaired_41 ?_
    obtain ⟨j5, e6, h⟩ := bd_ob h
    have hj5 : j5 < N 13 := (hwf.2.1 4 j0 6 _ e6 (by decide) hj0)
    refine me_opt (j := j5) e6 ?_
    refine lv_iload_n hx hb d_Explorer_isPaired_44 rfl (lv_at hl 3 rfl) ?_
    obtain ⟨g7, h⟩ := gd_ob h
    refine me_iald hx hb hK hP hwf hj5 g7 d_Explorer_isPaired_45 ?_
    refine lv_iload_n hx hb d_Explorer_isPaired_46 rfl (lv_at hl 2 rfl) ?_
    refine lv_icmp_ne (tgt := 54) hx hb d_Explorer_isPaired_47 (by decide) (fun c8 => ?_) (fun c8 => ?_)
    · have h := if_f c8 h
      refine lv_iconst (v := 0) hx hb d_Explorer_isPaired_54 (by decide) ?_
      exact me_retz (me_kp M0) h (by decide) hx hb hr hlocks hwf hkp hP hK hD hS d_Explorer_isPaired_55
    have h := if_t c8 h
    refine lv_iconst (v := 1) hx hb d_Explorer_isPaired_50 (by decide) ?_
    refine lv_goto (tgt := 55) hx hb d_Explorer_isPaired_51 (by decide) ?_
    exact me_retz (me_kp M0) h (by decide) hx hb hr hlocks hwf hkp hP hK hD hS d_Explorer_isPaired_55
  have b_2 : ∀ (fu : Nat), ∀ (M : me_M) (y3 : Int32) (H : Heap) (locs : List Loc) (ls : Array Slot), f_Explorer_isPaired_l2 j0 x1 x2 fu M y3 = (some (MZ, RZ)) → me_wf N M → me_kp M0 M → va_P D classes (me_W ad ca M) H → va_D A (me_W ad ca M) → va_S A s.heap H locs → lv_has ls 4 [(0, .ref (ad 4 j0)), (1, .int x1), (2, .int x2), (3, .int y3)] → W p l e rm_Explorer_isPaired s m [.ref (ad 4 j0), .int x1, .int x2].toArray below meth c H locs 0 0 (MQ below (q_Explorer_isPaired D ad ca N M0 MZ RZ A) [.ref (ad 4 j0), .int x1, .int x2].toArray s rm_Explorer_isPaired.cells rm_Explorer_isPaired.slots A) (F0 m 2 ls []) := by
    intro fu
    induction fu with
    | zero =>
      intro M y3 H locs ls h hwf hkp hP hD hS hl
      cases h
    | succ fu ih =>
      intro M y3 H locs ls h hwf hkp hP hD hS hl
      unfold f_Explorer_isPaired_l2 at h
      have hkb := hkp
      refine lv_iload_n hx hb d_Explorer_isPaired_2 rfl (lv_at hl 3 rfl) ?_
      refine lv_aload_n hx hb d_Explorer_isPaired_3 rfl (lv_at hl 0 rfl) ?_
      refine g_Explorer_7 hx hb hts hown hK hP hwf hj0 (hts _ u_553) d_Explorer_isPaired_4 ?_
      refine lv_icmp_ge (tgt := 62) hx hb d_Explorer_isPaired_7 (by decide) (fun c9 => ?_) (fun c9 => ?_)
      · have h := if_t c9 h
        refine lv_aload_n hx hb d_Explorer_isPaired_62 rfl (lv_at hl 0 rfl) ?_
        refine g_Explorer_5 hx hb hts hown hK hP hwf hj0 (hts _ u_551) d_Explorer_isPaired_63 ?_
        obtain ⟨j10, e11, h⟩ := bd_ob h
        have hj10 : j10 < N 13 := (hwf.2.1 4 j0 5 _ e11 (by decide) hj0)
        refine me_opt (j := j10) e11 ?_
        refine lv_aload_n hx hb d_Explorer_isPaired_66 rfl (lv_at hl 0 rfl) ?_
        refine g_Explorer_7 hx hb hts hown hK hP hwf hj0 (hts _ u_553) d_Explorer_isPaired_67 ?_
        refine lv_iload_n hx hb d_Explorer_isPaired_70 rfl (lv_at hl 1 rfl) ?_
        obtain ⟨g12, h⟩ := gd_ob h
        obtain ⟨M13, eM13, h⟩ := st_ob h
        refine me_iast eM13 hx hb hK hP hD hwf hS hj10 g12 d_Explorer_isPaired_71 (fun H locs hP hD hwf hS => ?_)
        have hkp := kp_I eM13 hkp
        refine lv_aload_n hx hb d_Explorer_isPaired_72 rfl (lv_at hl 0 rfl) ?_
        refine g_Explorer_6 hx hb hts hown hK hP hwf hj0 (hts _ u_552) d_Explorer_isPaired_73 ?_
        obtain ⟨j14, e15, h⟩ := bd_ob h
        have hj14 : j14 < N 13 := (hwf.2.1 4 j0 6 _ (kp_r hkb hkp e15) (by decide) hj0)
        refine me_opt (j := j14) (kp_r hkb hkp e15) ?_
        refine lv_aload_n hx hb d_Explorer_isPaired_76 rfl (lv_at hl 0 rfl) ?_
        refine g_Explorer_7 hx hb hts hown hK hP hwf hj0 (hts _ u_553) d_Explorer_isPaired_77 ?_
        refine lv_iload_n hx hb d_Explorer_isPaired_80 rfl (lv_at hl 2 rfl) ?_
        obtain ⟨g16, h⟩ := gd_ob h
        obtain ⟨M17, eM17, h⟩ := st_ob h
        refine me_iast eM17 hx hb hK hP hD hwf hS hj14 (kp_z hkb.z hkp.z g16) d_Explorer_isPaired_81 (fun H locs hP hD hwf hS => ?_)
        have hkp := kp_I eM17 hkp
        refine lv_aload_n hx hb d_Explorer_isPaired_82 rfl (lv_at hl 0 rfl) ?_
        refine lv_dup hx hb d_Explorer_isPaired_83 rfl ?_
        refine g_Explorer_7 hx hb hts hown hK hP hwf hj0 (hts _ u_553) d_Explorer_isPaired_84 ?_
        refine lv_iconst (v := 1) hx hb d_Explorer_isPaired_87 (by decide) ?_
        refine lv_iadd hx hb d_Explorer_isPaired_88 ?_
        obtain ⟨M18, eM18, h⟩ := st_ob h
        refine p_Explorer_7 eM18 hx hb hts hown hK hP hD hwf hS hj0 (hts _ u_553) d_Explorer_isPaired_89 (fun H locs hP hD hwf hS => ?_)
        have hkp := kp_I eM18 hkp
        refine lv_iconst (v := 1) hx hb d_Explorer_isPaired_92 (by decide) ?_
        exact me_retz (me_kp M0) h (by decide) hx hb hr hlocks hwf hkp hP hK hD hS d_Explorer_isPaired_93
      have h := if_f c9 h
      refine lv_aload_n hx hb d_Explorer_isPaired_10 rfl (lv_at hl 0 rfl) ?_
      refine g_Explorer_5 hx hb hts hown hK hP hwf hj0 (hts _ u_551) d_Explorer_isPaired_11 ?_
      obtain ⟨j19, e20, h⟩ := bd_ob h
      have hj19 : j19 < N 13 := (hwf.2.1 4 j0 5 _ e20 (by decide) hj0)
      refine me_opt (j := j19) e20 ?_
      refine lv_iload_n hx hb d_Explorer_isPaired_14 rfl (lv_at hl 3 rfl) ?_
      obtain ⟨g21, h⟩ := gd_ob h
      refine me_iald hx hb hK hP hwf hj19 g21 d_Explorer_isPaired_15 ?_
      refine lv_iload_n hx hb d_Explorer_isPaired_16 rfl (lv_at hl 1 rfl) ?_
      refine lv_icmp_eq (tgt := 30) hx hb d_Explorer_isPaired_17 (by decide) (fun c22 => ?_) (fun c22 => ?_)
      · have h := if_t c22 h
        exact b_30 M y3 _ _ _ h hwf hkp hP hD hS (lv_sub hl [0, 1, 2, 3] rfl)
      have h := if_f c22 h
      refine lv_aload_n hx hb d_Explorer_isPaired_20 rfl (lv_at hl 0 rfl) ?_
      refine g_Explorer_6 hx hb hts hown hK hP hwf hj0 (hts _ u_552) d_Explorer_isPaired_21 ?_
      obtain ⟨j23, e24, h⟩ := bd_ob h
      have hj23 : j23 < N 13 := (hwf.2.1 4 j0 6 _ e24 (by decide) hj0)
      refine me_opt (j := j23) e24 ?_
      refine lv_iload_n hx hb d_Explorer_isPaired_24 rfl (lv_at hl 3 rfl) ?_
      obtain ⟨g25, h⟩ := gd_ob h
      refine me_iald hx hb hK hP hwf hj23 g25 d_Explorer_isPaired_25 ?_
      refine lv_iload_n hx hb d_Explorer_isPaired_26 rfl (lv_at hl 2 rfl) ?_
      refine lv_icmp_ne (tgt := 56) hx hb d_Explorer_isPaired_27 (by decide) (fun c26 => ?_) (fun c26 => ?_)
      · have h := if_f c26 h
        refine lv_iinc (v := y3 + 1) (lv' := [(3, .int (y3 + 1)), (0, .ref (ad 4 j0)), (1, .int x1), (2, .int x2)]) hx hb d_Explorer_isPaired_56 hl (k := 3) rfl (by rfl) (by decide) rfl (fun ls hl => ?_)
        refine lv_goto (tgt := 2) hx hb d_Explorer_isPaired_59 (by decide) ?_
        exact ih M (y3 + 1) _ _ _ h hwf hkp hP hD hS (lv_sub hl [1, 2, 3, 0] rfl)
      have h := if_t c26 h
      exact b_30 M y3 _ _ _ h hwf hkp hP hD hS (lv_sub hl [0, 1, 2, 3] rfl)
  refine lv_iconst (v := 0) hx hb d_Explorer_isPaired_0 (by decide) ?_
  refine lv_istore_n (lv' := [(3, .int 0), (0, .ref (ad 4 j0)), (1, .int x1), (2, .int x2)]) hx hb d_Explorer_isPaired_1 rfl hl (by decide) rfl (fun ls hl => ?_)
  exact b_2 _ M0 (0 : Int32) _ _ _ h hwf hkp hP hD hS (lv_sub hl [1, 2, 3, 0] rfl)
