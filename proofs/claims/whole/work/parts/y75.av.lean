theorem d_M_areBytesWithin_0 : decode prog_14_method_96_code 0 = .ok (.aload_n 0, 1) := by decide +kernel
theorem d_M_areBytesWithin_1 : decode prog_14_method_96_code 1 = .ok (.getfield 122, 3) := by decide +kernel
theorem d_M_areBytesWithin_4 : decode prog_14_method_96_code 4 = .ok (.bipush 64, 2) := by decide +kernel
theorem d_M_areBytesWithin_6 : decode prog_14_method_96_code 6 = .ok (.iload_n 2, 1) := by decide +kernel
theorem d_M_areBytesWithin_7 : decode prog_14_method_96_code 7 = .ok (.imul, 1) := by decide +kernel
theorem d_M_areBytesWithin_8 : decode prog_14_method_96_code 8 = .ok (.iload_n 1, 1) := by decide +kernel
theorem d_M_areBytesWithin_9 : decode prog_14_method_96_code 9 = .ok (.iadd, 1) := by decide +kernel
theorem d_M_areBytesWithin_10 : decode prog_14_method_96_code 10 = .ok (.iaload, 1) := by decide +kernel
theorem d_M_areBytesWithin_11 : decode prog_14_method_96_code 11 = .ok (.istore_n 3, 1) := by decide +kernel
theorem d_M_areBytesWithin_12 : decode prog_14_method_96_code 12 = .ok (.iload_n 3, 1) := by decide +kernel
theorem d_M_areBytesWithin_13 : decode prog_14_method_96_code 13 = .ok (.ifCond .eq 41, 3) := by decide +kernel
theorem d_M_areBytesWithin_54 : decode prog_14_method_96_code 54 = .ok (.iconst 1, 1) := by decide +kernel
theorem d_M_areBytesWithin_55 : decode prog_14_method_96_code 55 = .ok (.goto 4, 3) := by decide +kernel
theorem d_M_areBytesWithin_59 : decode prog_14_method_96_code 59 = .ok (.ireturn, 1) := by decide +kernel
theorem d_M_areBytesWithin_16 : decode prog_14_method_96_code 16 = .ok (.aload_n 0, 1) := by decide +kernel
theorem d_M_areBytesWithin_17 : decode prog_14_method_96_code 17 = .ok (.getfield 89, 3) := by decide +kernel
theorem d_M_areBytesWithin_20 : decode prog_14_method_96_code 20 = .ok (.bipush 11, 2) := by decide +kernel
theorem d_M_areBytesWithin_22 : decode prog_14_method_96_code 22 = .ok (.iload_n 1, 1) := by decide +kernel
theorem d_M_areBytesWithin_23 : decode prog_14_method_96_code 23 = .ok (.iadd, 1) := by decide +kernel
theorem d_M_areBytesWithin_24 : decode prog_14_method_96_code 24 = .ok (.baload, 1) := by decide +kernel
theorem d_M_areBytesWithin_25 : decode prog_14_method_96_code 25 = .ok (.iconst 1, 1) := by decide +kernel
theorem d_M_areBytesWithin_26 : decode prog_14_method_96_code 26 = .ok (.if_icmp .eq 28, 3) := by decide +kernel
theorem d_M_areBytesWithin_29 : decode prog_14_method_96_code 29 = .ok (.aload_n 0, 1) := by decide +kernel
theorem d_M_areBytesWithin_30 : decode prog_14_method_96_code 30 = .ok (.getfield 89, 3) := by decide +kernel
theorem d_M_areBytesWithin_33 : decode prog_14_method_96_code 33 = .ok (.bipush 11, 2) := by decide +kernel
theorem d_M_areBytesWithin_35 : decode prog_14_method_96_code 35 = .ok (.iload_n 1, 1) := by decide +kernel
theorem d_M_areBytesWithin_36 : decode prog_14_method_96_code 36 = .ok (.iadd, 1) := by decide +kernel
theorem d_M_areBytesWithin_37 : decode prog_14_method_96_code 37 = .ok (.baload, 1) := by decide +kernel
theorem d_M_areBytesWithin_38 : decode prog_14_method_96_code 38 = .ok (.ifCond .ne 20, 3) := by decide +kernel
theorem d_M_areBytesWithin_58 : decode prog_14_method_96_code 58 = .ok (.iconst 0, 1) := by decide +kernel
theorem d_M_areBytesWithin_41 : decode prog_14_method_96_code 41 = .ok (.iload_n 3, 1) := by decide +kernel
theorem d_M_areBytesWithin_42 : decode prog_14_method_96_code 42 = .ok (.aload_n 0, 1) := by decide +kernel
theorem d_M_areBytesWithin_43 : decode prog_14_method_96_code 43 = .ok (.getfield 122, 3) := by decide +kernel
theorem d_M_areBytesWithin_46 : decode prog_14_method_96_code 46 = .ok (.iload_n 1, 1) := by decide +kernel
theorem d_M_areBytesWithin_47 : decode prog_14_method_96_code 47 = .ok (.iaload, 1) := by decide +kernel
theorem d_M_areBytesWithin_48 : decode prog_14_method_96_code 48 = .ok (.iconst (-1), 1) := by decide +kernel
theorem d_M_areBytesWithin_49 : decode prog_14_method_96_code 49 = .ok (.ixor, 1) := by decide +kernel
theorem d_M_areBytesWithin_50 : decode prog_14_method_96_code 50 = .ok (.iand, 1) := by decide +kernel
theorem d_M_areBytesWithin_51 : decode prog_14_method_96_code 51 = .ok (.ifCond .ne 7, 3) := by decide +kernel
abbrev y_M_areBytesWithin : MethodName := ⟨"FilterGuardModel", "areBytesWithin", "(II)Z"⟩
def rm_M_areBytesWithin : Room := { frames := 1, cells := 0, slots := 0, locals := 20 }
abbrev q_M_areBytesWithin (D : va_G) (ad : Nat → Nat → Nat) (ca : Nat → ClassId) (N : Nat → Nat) (M0 MZ : me_M) (RZ : Int32) (A : Nat → Prop) : Array Value → Jvm.State → Outcome → Jvm.State → Prop := va_Qi (fun r (_ : Unit) => r = RZ ∧ me_wf N MZ ∧ me_kp M0 MZ ∧ (RZ = 1 ∨ RZ = 0)) (fg_B D A (fun _ => me_W ad ca MZ) (fun _ => [])) A
set_option maxHeartbeats 4000000 in
set_option maxRecDepth 100000 in
theorem c_M_areBytesWithin (l : Launch) (D : va_G) (ad : Nat → Nat → Nat) (ca : Nat → ClassId) (N : Nat → Nat) (M0 MZ : me_M) (RZ : Int32) (j0 : Nat) (x1 : Int32) (x2 : Int32) (h : f_M_areBytesWithin M0 j0 x1 x2 = (some (MZ, RZ))) (hwf : me_wf N M0) (hj0 : j0 < N 1) (sz : Nat) : Met l y_M_areBytesWithin (fg_w y_M_areBytesWithin prog_14_method_96_code 4 (some .boolean)) rm_M_areBytesWithin (va_Pc [.ref (ad 1 j0), .int x1, .int x2] (fz_P D (me_T ca) (me_W ad ca M0) sz)) (q_M_areBytesWithin D ad ca N M0 MZ RZ (va_A (me_W ad ca M0) sz)) rm_M_areBytesWithin.cells rm_M_areBytesWithin.slots (va_A (me_W ad ca M0) sz) := by
  refine fz_enter (fun A => q_M_areBytesWithin D ad ca N M0 MZ RZ A) (by decide +kernel) (Nat.le_of_ble_eq_true rfl) ?_
  intro p e s m below meth c ls A hx hb hml hown hts hr hlocks hin hP hK hD hS hA hX hl hz
  have hl : lv_has ls 4 [(0, .ref (ad 1 j0)), (1, .int x1), (2, .int x2)] := hl
  unfold f_M_areBytesWithin at h
  have hkp : me_kp M0 M0 := me_kp.rf
  have hkb := hkp
  refine lv_aload_n hx hb d_M_areBytesWithin_0 rfl (lv_at hl 0 rfl) ?_
  refine g_M_58 hx hb hts hown hK hP hwf hj0 (hts _ u_1799) d_M_areBytesWithin_1 ?_
  obtain ⟨j1, e2, h⟩ := bd_ob h
  have hj1 : j1 < N 13 := (hwf.2.1 1 j0 58 _ e2 (by decide) hj0)
  refine me_opt (j := j1) e2 ?_
  refine lv_bipush (v := 64) hx hb d_M_areBytesWithin_4 (by decide) ?_
  refine lv_iload_n hx hb d_M_areBytesWithin_6 rfl (lv_at hl 2 rfl) ?_
  refine lv_imul hx hb d_M_areBytesWithin_7 ?_
  refine lv_iload_n hx hb d_M_areBytesWithin_8 rfl (lv_at hl 1 rfl) ?_
  refine lv_iadd hx hb d_M_areBytesWithin_9 ?_
  obtain ⟨g3, h⟩ := gd_ob h
  refine me_iald hx hb hK hP hwf hj1 g3 d_M_areBytesWithin_10 ?_
  obtain ⟨v4, ev4, h⟩ := st_ob h
  refine fg_topi (y := v4) ev4.symm ?_
  refine lv_istore_n (lv' := [(3, .int v4), (0, .ref (ad 1 j0)), (1, .int x1), (2, .int x2)]) hx hb d_M_areBytesWithin_11 rfl hl (by decide) rfl (fun ls hl => ?_)
  refine lv_iload_n hx hb d_M_areBytesWithin_12 rfl (lv_at hl 0 rfl) ?_
  refine lv_if_eq (tgt := 54) hx hb d_M_areBytesWithin_13 (by decide) (fun c5 => ?_) (fun c5 => ?_)
  · have h := if_t c5 h
    refine lv_iconst (v := 1) hx hb d_M_areBytesWithin_54 (by decide) ?_
    refine lv_goto (tgt := 59) hx hb d_M_areBytesWithin_55 (by decide) ?_
    exact me_retz (me_kp M0) h (by decide) hx hb hr hlocks hwf hkp hP hK hD hS d_M_areBytesWithin_59
  have h := if_f c5 h
  refine lv_aload_n hx hb d_M_areBytesWithin_16 rfl (lv_at hl 1 rfl) ?_
  refine g_M_47 hx hb hts hown hK hP hwf hj0 (hts _ u_1788) d_M_areBytesWithin_17 ?_
  obtain ⟨j6, e7, h⟩ := bd_ob h
  have hj6 : j6 < N 14 := (hwf.2.1 1 j0 47 _ e7 (by decide) hj0)
  refine me_opt (j := j6) e7 ?_
  refine lv_bipush (v := 11) hx hb d_M_areBytesWithin_20 (by decide) ?_
  refine lv_iload_n hx hb d_M_areBytesWithin_22 rfl (lv_at hl 2 rfl) ?_
  refine lv_iadd hx hb d_M_areBytesWithin_23 ?_
  obtain ⟨g8, h⟩ := gd_ob h
  refine me_bald hx hb hK hP hwf hj6 g8 d_M_areBytesWithin_24 ?_
  refine lv_iconst (v := 1) hx hb d_M_areBytesWithin_25 (by decide) ?_
  refine lv_icmp_eq (tgt := 54) hx hb d_M_areBytesWithin_26 (by decide) (fun c9 => ?_) (fun c9 => ?_)
  · have h := if_t c9 h
    refine lv_iconst (v := 1) hx hb d_M_areBytesWithin_54 (by decide) ?_
    refine lv_goto (tgt := 59) hx hb d_M_areBytesWithin_55 (by decide) ?_
    exact me_retz (me_kp M0) h (by decide) hx hb hr hlocks hwf hkp hP hK hD hS d_M_areBytesWithin_59
  have h := if_f c9 h
  refine lv_aload_n hx hb d_M_areBytesWithin_29 rfl (lv_at hl 1 rfl) ?_
  refine g_M_47 hx hb hts hown hK hP hwf hj0 (hts _ u_1788) d_M_areBytesWithin_30 ?_
  refine me_opt (j := j6) e7 ?_
  refine lv_bipush (v := 11) hx hb d_M_areBytesWithin_33 (by decide) ?_
  refine lv_iload_n hx hb d_M_areBytesWithin_35 rfl (lv_at hl 2 rfl) ?_
  refine lv_iadd hx hb d_M_areBytesWithin_36 ?_
  refine me_bald hx hb hK hP hwf hj6 g8 d_M_areBytesWithin_37 ?_
  refine lv_if_ne (tgt := 58) hx hb d_M_areBytesWithin_38 (by decide) (fun c10 => ?_) (fun c10 => ?_)
  · have h := if_f c10 h
    refine lv_iconst (v := 0) hx hb d_M_areBytesWithin_58 (by decide) ?_
    exact me_retz (me_kp M0) h (by decide) hx hb hr hlocks hwf hkp hP hK hD hS d_M_areBytesWithin_59
  have h := if_t c10 h
  refine lv_iload_n hx hb d_M_areBytesWithin_41 rfl (lv_at hl 0 rfl) ?_
  refine lv_aload_n hx hb d_M_areBytesWithin_42 rfl (lv_at hl 1 rfl) ?_
  refine g_M_58 hx hb hts hown hK hP hwf hj0 (hts _ u_1799) d_M_areBytesWithin_43 ?_
  refine me_opt (j := j1) e2 ?_
  refine lv_iload_n hx hb d_M_areBytesWithin_46 rfl (lv_at hl 2 rfl) ?_
  obtain ⟨g11, h⟩ := gd_ob h
  refine me_iald hx hb hK hP hwf hj1 g11 d_M_areBytesWithin_47 ?_
  refine lv_iconst (v := (-1)) hx hb d_M_areBytesWithin_48 (by decide) ?_
  refine lv_ixor hx hb d_M_areBytesWithin_49 ?_
  refine lv_iand hx hb d_M_areBytesWithin_50 ?_
  refine lv_if_ne (tgt := 58) hx hb d_M_areBytesWithin_51 (by decide) (fun c12 => ?_) (fun c12 => ?_)
  · have h := if_f c12 h
    refine lv_iconst (v := 0) hx hb d_M_areBytesWithin_58 (by decide) ?_
    exact me_retz (me_kp M0) h (by decide) hx hb hr hlocks hwf hkp hP hK hD hS d_M_areBytesWithin_59
  have h := if_t c12 h
  refine lv_iconst (v := 1) hx hb d_M_areBytesWithin_54 (by decide) ?_
  refine lv_goto (tgt := 59) hx hb d_M_areBytesWithin_55 (by decide) ?_
  exact me_retz (me_kp M0) h (by decide) hx hb hr hlocks hwf hkp hP hK hD hS d_M_areBytesWithin_59
theorem d_M_pairs_65 : decode prog_14_method_97_code 65 = .ok (.if_icmp .eq 5, 3) := by decide +kernel
theorem d_M_pairs_70 : decode prog_14_method_97_code 70 = .ok (.iload_n 3, 1) := by decide +kernel
theorem d_M_pairs_71 : decode prog_14_method_97_code 71 = .ok (.ifCond .ne 14, 3) := by decide +kernel
theorem d_M_pairs_85 : decode prog_14_method_97_code 85 = .ok (.iconst 1, 1) := by decide +kernel
theorem d_M_pairs_86 : decode prog_14_method_97_code 86 = .ok (.goto 4, 3) := by decide +kernel
theorem d_M_pairs_90 : decode prog_14_method_97_code 90 = .ok (.istore_n 3, 1) := by decide +kernel
theorem d_M_pairs_91 : decode prog_14_method_97_code 91 = .ok (.iinc 4 1, 3) := by decide +kernel
theorem d_M_pairs_94 : decode prog_14_method_97_code 94 = .ok (.goto (-70), 3) := by decide +kernel
theorem d_M_pairs_74 : decode prog_14_method_97_code 74 = .ok (.aload_n 0, 1) := by decide +kernel
theorem d_M_pairs_75 : decode prog_14_method_97_code 75 = .ok (.getfield 137, 3) := by decide +kernel
theorem g_M_66 {p : Program} {l : Launch} {e : Env} {R : Room} {s : Jvm.State} {m : MethodId} {args : Array Value} {below : List Frame} {meth : Method} {c : Code} {H : Heap} {locs : List Loc} {cells slots : Nat} {Q : Jvm.State → Prop} {cc : ByteArray} {pc : Nat} {ls : Array Slot} {rest : List Value} {D : va_G} {ad : Nat → Nat → Nat} {ca : Nat → ClassId} {M : me_M} {N : Nat → Nat} {own : String} {index j : Nat} (hexec : p.tables.exec = Jvm.exec) (hb : c.code = cc) (hts : ∀ w ∈ fg_g, w.before args s = true) (hown : s.vm.findClass own = some m.cls) (hK : va_K D classes (me_T ca) s) (hP : va_P D classes (me_W ad ca M) H) (hwf : me_wf N M) (hj : j < N 1) (hlink : (Cond.fieldLink own index "FilterGuardModel" "pairs" "[I").before args s = true) (hdg : decode cc pc = .ok (.getfield index, 3)) (kk : W p l e R s m args below meth c H locs cells slots Q (F0 m (pc + 3) ls (va_rf ((mR M 1 j 66).map (ad 13)) :: rest))) : W p l e R s m args below meth c H locs cells slots Q (F0 m pc ls (.ref (ad 1 j) :: rest)) := me_get (k := 1) (f := 66) (C := "FilterGuardModel") (T := F_M) (Nf := 75) hexec hb hts i_M hown hK hP hwf hj (by decide) rfl (by decide) (by decide) hlink (fun _ h9 => h9) hdg kk
theorem d_M_pairs_78 : decode prog_14_method_97_code 78 = .ok (.iload 4, 2) := by decide +kernel
theorem d_M_pairs_80 : decode prog_14_method_97_code 80 = .ok (.iaload, 1) := by decide +kernel
theorem d_M_pairs_81 : decode prog_14_method_97_code 81 = .ok (.iload_n 1, 1) := by decide +kernel
theorem d_M_pairs_82 : decode prog_14_method_97_code 82 = .ok (.if_icmp .ne 7, 3) := by decide +kernel
theorem d_M_pairs_89 : decode prog_14_method_97_code 89 = .ok (.iconst 0, 1) := by decide +kernel
theorem d_M_pairs_68 : decode prog_14_method_97_code 68 = .ok (.iconst 0, 1) := by decide +kernel
theorem d_M_pairs_69 : decode prog_14_method_97_code 69 = .ok (.ireturn, 1) := by decide +kernel
theorem d_M_pairs_49 : decode prog_14_method_97_code 49 = .ok (.aload_n 0, 1) := by decide +kernel
theorem d_M_pairs_50 : decode prog_14_method_97_code 50 = .ok (.getfield 140, 3) := by decide +kernel
theorem g_M_67 {p : Program} {l : Launch} {e : Env} {R : Room} {s : Jvm.State} {m : MethodId} {args : Array Value} {below : List Frame} {meth : Method} {c : Code} {H : Heap} {locs : List Loc} {cells slots : Nat} {Q : Jvm.State → Prop} {cc : ByteArray} {pc : Nat} {ls : Array Slot} {rest : List Value} {D : va_G} {ad : Nat → Nat → Nat} {ca : Nat → ClassId} {M : me_M} {N : Nat → Nat} {own : String} {index j : Nat} (hexec : p.tables.exec = Jvm.exec) (hb : c.code = cc) (hts : ∀ w ∈ fg_g, w.before args s = true) (hown : s.vm.findClass own = some m.cls) (hK : va_K D classes (me_T ca) s) (hP : va_P D classes (me_W ad ca M) H) (hwf : me_wf N M) (hj : j < N 1) (hlink : (Cond.fieldLink own index "FilterGuardModel" "pairOf" "[I").before args s = true) (hdg : decode cc pc = .ok (.getfield index, 3)) (kk : W p l e R s m args below meth c H locs cells slots Q (F0 m (pc + 3) ls (va_rf ((mR M 1 j 67).map (ad 13)) :: rest))) : W p l e R s m args below meth c H locs cells slots Q (F0 m pc ls (.ref (ad 1 j) :: rest)) := me_get (k := 1) (f := 67) (C := "FilterGuardModel") (T := F_M) (Nf := 75) hexec hb hts i_M hown hK hP hwf hj (by decide) rfl (by decide) (by decide) hlink (fun _ h9 => h9) hdg kk
theorem d_M_pairs_53 : decode prog_14_method_97_code 53 = .ok (.iload 4, 2) := by decide +kernel
theorem d_M_pairs_55 : decode prog_14_method_97_code 55 = .ok (.iaload, 1) := by decide +kernel
theorem d_M_pairs_56 : decode prog_14_method_97_code 56 = .ok (.iload_n 2, 1) := by decide +kernel
theorem d_M_pairs_57 : decode prog_14_method_97_code 57 = .ok (.if_icmp .ne 7, 3) := by decide +kernel
theorem d_M_pairs_64 : decode prog_14_method_97_code 64 = .ok (.iconst 0, 1) := by decide +kernel
theorem d_M_pairs_60 : decode prog_14_method_97_code 60 = .ok (.iconst 1, 1) := by decide +kernel
theorem d_M_pairs_61 : decode prog_14_method_97_code 61 = .ok (.goto 4, 3) := by decide +kernel
theorem d_M_pairs_24 : decode prog_14_method_97_code 24 = .ok (.iload 4, 2) := by decide +kernel
theorem d_M_pairs_26 : decode prog_14_method_97_code 26 = .ok (.aload_n 0, 1) := by decide +kernel
theorem d_M_pairs_27 : decode prog_14_method_97_code 27 = .ok (.getfield 493, 3) := by decide +kernel
theorem u_1810 : Cond.fieldLink "FilterGuardModel" 493 "FilterGuardModel" "paired" "I" ∈ fg_g := fg_in (List.mem_of_getElem? (i := 1810) (by decide +kernel)) rfl
theorem g_M_69 {p : Program} {l : Launch} {e : Env} {R : Room} {s : Jvm.State} {m : MethodId} {args : Array Value} {below : List Frame} {meth : Method} {c : Code} {H : Heap} {locs : List Loc} {cells slots : Nat} {Q : Jvm.State → Prop} {cc : ByteArray} {pc : Nat} {ls : Array Slot} {rest : List Value} {D : va_G} {ad : Nat → Nat → Nat} {ca : Nat → ClassId} {M : me_M} {N : Nat → Nat} {own : String} {index j : Nat} (hexec : p.tables.exec = Jvm.exec) (hb : c.code = cc) (hts : ∀ w ∈ fg_g, w.before args s = true) (hown : s.vm.findClass own = some m.cls) (hK : va_K D classes (me_T ca) s) (hP : va_P D classes (me_W ad ca M) H) (hwf : me_wf N M) (hj : j < N 1) (hlink : (Cond.fieldLink own index "FilterGuardModel" "paired" "I").before args s = true) (hdg : decode cc pc = .ok (.getfield index, 3)) (kk : W p l e R s m args below meth c H locs cells slots Q (F0 m (pc + 3) ls (.int (mI M 1 j 69) :: rest))) : W p l e R s m args below meth c H locs cells slots Q (F0 m pc ls (.ref (ad 1 j) :: rest)) := me_get (k := 1) (f := 69) (C := "FilterGuardModel") (T := F_M) (Nf := 75) hexec hb hts i_M hown hK hP hwf hj (by decide) rfl (by decide) (by decide) hlink (fun _ h9 => h9) hdg kk
theorem d_M_pairs_30 : decode prog_14_method_97_code 30 = .ok (.if_icmp .ge 67, 3) := by decide +kernel
theorem d_M_pairs_97 : decode prog_14_method_97_code 97 = .ok (.iload_n 3, 1) := by decide +kernel
theorem d_M_pairs_98 : decode prog_14_method_97_code 98 = .ok (.ifCond .ne 33, 3) := by decide +kernel
theorem d_M_pairs_131 : decode prog_14_method_97_code 131 = .ok (.iconst 1, 1) := by decide +kernel
theorem d_M_pairs_132 : decode prog_14_method_97_code 132 = .ok (.ireturn, 1) := by decide +kernel
theorem d_M_pairs_101 : decode prog_14_method_97_code 101 = .ok (.aload_n 0, 1) := by decide +kernel
theorem d_M_pairs_102 : decode prog_14_method_97_code 102 = .ok (.getfield 137, 3) := by decide +kernel
theorem d_M_pairs_105 : decode prog_14_method_97_code 105 = .ok (.aload_n 0, 1) := by decide +kernel
theorem d_M_pairs_106 : decode prog_14_method_97_code 106 = .ok (.getfield 493, 3) := by decide +kernel
theorem d_M_pairs_109 : decode prog_14_method_97_code 109 = .ok (.iload_n 1, 1) := by decide +kernel
theorem d_M_pairs_110 : decode prog_14_method_97_code 110 = .ok (.iastore, 1) := by decide +kernel
theorem d_M_pairs_111 : decode prog_14_method_97_code 111 = .ok (.aload_n 0, 1) := by decide +kernel
theorem d_M_pairs_112 : decode prog_14_method_97_code 112 = .ok (.getfield 140, 3) := by decide +kernel
theorem d_M_pairs_115 : decode prog_14_method_97_code 115 = .ok (.aload_n 0, 1) := by decide +kernel
theorem d_M_pairs_116 : decode prog_14_method_97_code 116 = .ok (.getfield 493, 3) := by decide +kernel
theorem d_M_pairs_119 : decode prog_14_method_97_code 119 = .ok (.iload_n 2, 1) := by decide +kernel
theorem d_M_pairs_120 : decode prog_14_method_97_code 120 = .ok (.iastore, 1) := by decide +kernel
theorem d_M_pairs_121 : decode prog_14_method_97_code 121 = .ok (.aload_n 0, 1) := by decide +kernel
theorem d_M_pairs_122 : decode prog_14_method_97_code 122 = .ok (.dup, 1) := by decide +kernel
theorem d_M_pairs_123 : decode prog_14_method_97_code 123 = .ok (.getfield 493, 3) := by decide +kernel
theorem d_M_pairs_126 : decode prog_14_method_97_code 126 = .ok (.iconst 1, 1) := by decide +kernel
theorem d_M_pairs_127 : decode prog_14_method_97_code 127 = .ok (.iadd, 1) := by decide +kernel
theorem d_M_pairs_128 : decode prog_14_method_97_code 128 = .ok (.putfield 493, 3) := by decide +kernel
theorem p_M_69 {p : Program} {l : Launch} {e : Env} {R : Room} {s : Jvm.State} {m : MethodId} {args : Array Value} {below : List Frame} {meth : Method} {c : Code} {H : Heap} {locs : List Loc} {cells slots : Nat} {Q : Jvm.State → Prop} {cc : ByteArray} {pc : Nat} {ls : Array Slot} {rest : List Value} {D : va_G} {A : Nat → Prop} {H0 : Heap} {ad : Nat → Nat → Nat} {ca : Nat → ClassId} {M M1 : me_M} {N : Nat → Nat} {own : String} {index j : Nat} {v : Int32} (he : M1 = wI M 1 j 69 v) (hexec : p.tables.exec = Jvm.exec) (hb : c.code = cc) (hts : ∀ w ∈ fg_g, w.before args s = true) (hown : s.vm.findClass own = some m.cls) (hK : va_K D classes (me_T ca) s) (hP : va_P D classes (me_W ad ca M) H) (hD : va_D A (me_W ad ca M)) (hwf : me_wf N M) (hS : va_S A H0 H locs) (hj : j < N 1) (hlink : (Cond.fieldLink own index "FilterGuardModel" "paired" "I").before args s = true) (hdg : decode cc pc = .ok (.putfield index, 3)) (kk : ∀ (H1 : Heap) (locs1 : List Loc), va_P D classes (me_W ad ca M1) H1 → va_D A (me_W ad ca M1) → me_wf N M1 → va_S A H0 H1 locs1 → W p l e R s m args below meth c H1 locs1 cells slots Q (F0 m (pc + 3) ls rest)) : W p l e R s m args below meth c H locs cells slots Q (F0 m pc ls (.int v :: .ref (ad 1 j) :: rest)) := by
  subst he
  exact me_put (M1 := wI M 1 j 69 v) (k := 1) (f := 69) (C := "FilterGuardModel") (T := F_M) (Nf := 75) hexec hb hts i_M t_M t_M_ok n_M hown hK hP hD hwf hS hj (by decide) rfl (by decide) (by decide) hlink (fun _ h9 => h9) rfl rfl rfl rfl (fun a b h => me_wIE h) (me_fIw (by decide) (by decide)) hdg (fun H1 locs1 a1 a2 a3 => kk H1 locs1 a1 a2 (me_wfI hwf (fun z => absurd z (by decide)) (fun z => absurd z (by decide))) a3)
theorem d_M_pairs_33 : decode prog_14_method_97_code 33 = .ok (.aload_n 0, 1) := by decide +kernel
theorem d_M_pairs_34 : decode prog_14_method_97_code 34 = .ok (.getfield 137, 3) := by decide +kernel
theorem d_M_pairs_37 : decode prog_14_method_97_code 37 = .ok (.iload 4, 2) := by decide +kernel
theorem d_M_pairs_39 : decode prog_14_method_97_code 39 = .ok (.iaload, 1) := by decide +kernel
theorem d_M_pairs_40 : decode prog_14_method_97_code 40 = .ok (.iload_n 1, 1) := by decide +kernel
theorem d_M_pairs_41 : decode prog_14_method_97_code 41 = .ok (.if_icmp .ne 7, 3) := by decide +kernel
theorem d_M_pairs_48 : decode prog_14_method_97_code 48 = .ok (.iconst 0, 1) := by decide +kernel
theorem d_M_pairs_44 : decode prog_14_method_97_code 44 = .ok (.iconst 1, 1) := by decide +kernel
theorem d_M_pairs_45 : decode prog_14_method_97_code 45 = .ok (.goto 4, 3) := by decide +kernel
theorem d_M_pairs_0 : decode prog_14_method_97_code 0 = .ok (.iload_n 1, 1) := by decide +kernel
theorem d_M_pairs_1 : decode prog_14_method_97_code 1 = .ok (.ifCond .eq 7, 3) := by decide +kernel
theorem d_M_pairs_8 : decode prog_14_method_97_code 8 = .ok (.iload_n 1, 1) := by decide +kernel
theorem d_M_pairs_9 : decode prog_14_method_97_code 9 = .ok (.iload_n 2, 1) := by decide +kernel
theorem d_M_pairs_10 : decode prog_14_method_97_code 10 = .ok (.if_icmp .ne 7, 3) := by decide +kernel
theorem d_M_pairs_17 : decode prog_14_method_97_code 17 = .ok (.iconst 0, 1) := by decide +kernel
theorem d_M_pairs_18 : decode prog_14_method_97_code 18 = .ok (.ireturn, 1) := by decide +kernel
theorem d_M_pairs_13 : decode prog_14_method_97_code 13 = .ok (.iconst 1, 1) := by decide +kernel
theorem d_M_pairs_14 : decode prog_14_method_97_code 14 = .ok (.goto 4, 3) := by decide +kernel
theorem d_M_pairs_4 : decode prog_14_method_97_code 4 = .ok (.iload_n 2, 1) := by decide +kernel
theorem d_M_pairs_5 : decode prog_14_method_97_code 5 = .ok (.ifCond .ne 14, 3) := by decide +kernel
theorem d_M_pairs_19 : decode prog_14_method_97_code 19 = .ok (.iconst 0, 1) := by decide +kernel
theorem d_M_pairs_20 : decode prog_14_method_97_code 20 = .ok (.istore_n 3, 1) := by decide +kernel
theorem d_M_pairs_21 : decode prog_14_method_97_code 21 = .ok (.iconst 0, 1) := by decide +kernel
theorem d_M_pairs_22 : decode prog_14_method_97_code 22 = .ok (.istore 4, 2) := by decide +kernel
abbrev y_M_pairs : MethodName := ⟨"FilterGuardModel", "pairs", "(II)Z"⟩
def rm_M_pairs : Room := { frames := 1, cells := 0, slots := 0, locals := 20 }
abbrev q_M_pairs (D : va_G) (ad : Nat → Nat → Nat) (ca : Nat → ClassId) (N : Nat → Nat) (M0 MZ : me_M) (RZ : Int32) (A : Nat → Prop) : Array Value → Jvm.State → Outcome → Jvm.State → Prop := va_Qi (fun r (_ : Unit) => r = RZ ∧ me_wf N MZ ∧ me_kp M0 MZ ∧ (RZ = 1 ∨ RZ = 0)) (fg_B D A (fun _ => me_W ad ca MZ) (fun _ => [])) A
set_option maxHeartbeats 4000000 in
set_option maxRecDepth 100000 in
theorem c_M_pairs (l : Launch) (D : va_G) (ad : Nat → Nat → Nat) (ca : Nat → ClassId) (N : Nat → Nat) (M0 MZ : me_M) (RZ : Int32) (j0 : Nat) (x1 : Int32) (x2 : Int32) (h : f_M_pairs M0 j0 x1 x2 = (some (MZ, RZ))) (hwf : me_wf N M0) (hj0 : j0 < N 1) (sz : Nat) : Met l y_M_pairs (fg_w y_M_pairs prog_14_method_97_code 5 (some .boolean)) rm_M_pairs (va_Pc [.ref (ad 1 j0), .int x1, .int x2] (fz_P D (me_T ca) (me_W ad ca M0) sz)) (q_M_pairs D ad ca N M0 MZ RZ (va_A (me_W ad ca M0) sz)) rm_M_pairs.cells rm_M_pairs.slots (va_A (me_W ad ca M0) sz) := by
  refine fz_enter (fun A => q_M_pairs D ad ca N M0 MZ RZ A) (by decide +kernel) (Nat.le_of_ble_eq_true rfl) ?_
  intro p e s m below meth c ls A hx hb hml hown hts hr hlocks hin hP hK hD hS hA hX hl hz
  have hl : lv_has ls 5 [(0, .ref (ad 1 j0)), (1, .int x1), (2, .int x2)] := hl
  unfold f_M_pairs at h
  have hkp : me_kp M0 M0 := me_kp.rf
  have hkb := hkp
  have b_65 : ∀ (k24 : me_M → Int32 → Int32 → Option (me_M × Int32)) (hk24 : ∀ (M : me_M) (y3 : Int32) (y4 : Int32) (H : Heap) (locs : List Loc) (ls : Array Slot), k24 M y3 y4 = (some (MZ, RZ)) → (y3 = 1 ∨ y3 = 0) → me_wf N M → me_kp M0 M → va_P D classes (me_W ad ca M) H → va_D A (me_W ad ca M) → va_S A s.heap H locs → lv_has ls 5 [(0, .ref (ad 1 j0)), (1, .int x1), (2, .int x2), (3, .int y3), (4, .int y4)] → W p l e rm_M_pairs s m [.ref (ad 1 j0), .int x1, .int x2].toArray below meth c H locs 0 0 (MQ below (q_M_pairs D ad ca N M0 MZ RZ A) [.ref (ad 1 j0), .int x1, .int x2].toArray s rm_M_pairs.cells rm_M_pairs.slots A) (F0 m 24 ls [])), ∀ (M : me_M) (y3 : Int32) (y4 : Int32) (s0 : Int32) (s1 : Int32) (H : Heap) (locs : List Loc) (ls : Array Slot), f_M_pairs_b65 k24 j0 x1 x2 M y3 y4 s0 s1 = (some (MZ, RZ)) → (y3 = 1 ∨ y3 = 0) → (s0 = 1 ∨ s0 = 0) → (s1 = 1 ∨ s1 = 0) → me_wf N M → me_kp M0 M → va_P D classes (me_W ad ca M) H → va_D A (me_W ad ca M) → va_S A s.heap H locs → lv_has ls 5 [(0, .ref (ad 1 j0)), (1, .int x1), (2, .int x2), (3, .int y3), (4, .int y4)] → W p l e rm_M_pairs s m [.ref (ad 1 j0), .int x1, .int x2].toArray below meth c H locs 0 0 (MQ below (q_M_pairs D ad ca N M0 MZ RZ A) [.ref (ad 1 j0), .int x1, .int x2].toArray s rm_M_pairs.cells rm_M_pairs.slots A) (F0 m 65 ls [.int s0, .int s1]) := by
    intro k24 hk24 M y3 y4 s0 s1 H locs ls h zy3 zs0 zs1 hwf hkp hP hD hS hl
    unfold f_M_pairs_b65 at h
    have hkb := hkp
    refine lv_icmp_eq (tgt := 70) hx hb d_M_pairs_65 (by decide) (fun c1 => ?_) (fun c1 => ?_)
    · have h := if_t c1 h
      refine lv_iload_n hx hb d_M_pairs_70 rfl (lv_at hl 3 rfl) ?_
      refine lv_if_ne (tgt := 85) hx hb d_M_pairs_71 (by decide) (fun c2 => ?_) (fun c2 => ?_)
      · have h := if_f c2 h
        refine lv_iconst (v := 1) hx hb d_M_pairs_85 (by decide) ?_
        refine lv_goto (tgt := 90) hx hb d_M_pairs_86 (by decide) ?_
        refine lv_istore_n (lv' := [(3, .int 1), (0, .ref (ad 1 j0)), (1, .int x1), (2, .int x2), (4, .int y4)]) hx hb d_M_pairs_90 rfl hl (by decide) rfl (fun ls hl => ?_)
        refine lv_iinc (v := y4 + 1) (lv' := [(4, .int (y4 + 1)), (3, .int 1), (0, .ref (ad 1 j0)), (1, .int x1), (2, .int x2)]) hx hb d_M_pairs_91 hl (k := 4) rfl (by rfl) (by decide) rfl (fun ls hl => ?_)
        refine lv_goto (tgt := 24) hx hb d_M_pairs_94 (by decide) ?_
        exact hk24 M (1 : Int32) (y4 + 1) _ _ _ h (by decide) hwf hkp hP hD hS (lv_sub hl [2, 3, 4, 1, 0] rfl)
      have h := if_t c2 h
      refine lv_aload_n hx hb d_M_pairs_74 rfl (lv_at hl 0 rfl) ?_
      refine g_M_66 hx hb hts hown hK hP hwf hj0 (hts _ u_1807) d_M_pairs_75 ?_
      obtain ⟨j3, e4, h⟩ := bd_ob h
      have hj3 : j3 < N 13 := (hwf.2.1 1 j0 66 _ e4 (by decide) hj0)
      refine me_opt (j := j3) e4 ?_
      refine lv_iload hx hb d_M_pairs_78 (lv_at hl 4 rfl) ?_
      obtain ⟨g5, h⟩ := gd_ob h
      refine me_iald hx hb hK hP hwf hj3 g5 d_M_pairs_80 ?_
      refine lv_iload_n hx hb d_M_pairs_81 rfl (lv_at hl 1 rfl) ?_
      refine lv_icmp_ne (tgt := 89) hx hb d_M_pairs_82 (by decide) (fun c6 => ?_) (fun c6 => ?_)
      · have h := if_f c6 h
        refine lv_iconst (v := 0) hx hb d_M_pairs_89 (by decide) ?_
        refine lv_istore_n (lv' := [(3, .int 0), (0, .ref (ad 1 j0)), (1, .int x1), (2, .int x2), (4, .int y4)]) hx hb d_M_pairs_90 rfl hl (by decide) rfl (fun ls hl => ?_)
        refine lv_iinc (v := y4 + 1) (lv' := [(4, .int (y4 + 1)), (3, .int 0), (0, .ref (ad 1 j0)), (1, .int x1), (2, .int x2)]) hx hb d_M_pairs_91 hl (k := 4) rfl (by rfl) (by decide) rfl (fun ls hl => ?_)
        refine lv_goto (tgt := 24) hx hb d_M_pairs_94 (by decide) ?_
        exact hk24 M (0 : Int32) (y4 + 1) _ _ _ h (by decide) hwf hkp hP hD hS (lv_sub hl [2, 3, 4, 1, 0] rfl)
      have h := if_t c6 h
      refine lv_iconst (v := 1) hx hb d_M_pairs_85 (by decide) ?_
      refine lv_goto (tgt := 90) hx hb d_M_pairs_86 (by decide) ?_
      refine lv_istore_n (lv' := [(3, .int 1), (0, .ref (ad 1 j0)), (1, .int x1), (2, .int x2), (4, .int y4)]) hx hb d_M_pairs_90 rfl hl (by decide) rfl (fun ls hl => ?_)
      refine lv_iinc (v := y4 + 1) (lv' := [(4, .int (y4 + 1)), (3, .int 1), (0, .ref (ad 1 j0)), (1, .int x1), (2, .int x2)]) hx hb d_M_pairs_91 hl (k := 4) rfl (by rfl) (by decide) rfl (fun ls hl => ?_)
      refine lv_goto (tgt := 24) hx hb d_M_pairs_94 (by decide) ?_
      exact hk24 M (1 : Int32) (y4 + 1) _ _ _ h (by decide) hwf hkp hP hD hS (lv_sub hl [2, 3, 4, 1, 0] rfl)
    have h := if_f c1 h
    refine lv_iconst (v := 0) hx hb d_M_pairs_68 (by decide) ?_
    exact me_retz (me_kp M0) h (by decide) hx hb hr hlocks hwf hkp hP hK hD hS d_M_pairs_69
  have b_49 : ∀ (k24 : me_M → Int32 → Int32 → Option (me_M × Int32)) (hk24 : ∀ (M : me_M) (y3 : Int32) (y4 : Int32) (H : Heap) (locs : List Loc) (ls : Array Slot), k24 M y3 y4 = (some (MZ, RZ)) → (y3 = 1 ∨ y3 = 0) → me_wf N M → me_kp M0 M → va_P D classes (me_W ad ca M) H → va_D A (me_W ad ca M) → va_S A s.heap H locs → lv_has ls 5 [(0, .ref (ad 1 j0)), (1, .int x1), (2, .int x2), (3, .int y3), (4, .int y4)] → W p l e rm_M_pairs s m [.ref (ad 1 j0), .int x1, .int x2].toArray below meth c H locs 0 0 (MQ below (q_M_pairs D ad ca N M0 MZ RZ A) [.ref (ad 1 j0), .int x1, .int x2].toArray s rm_M_pairs.cells rm_M_pairs.slots A) (F0 m 24 ls [])), ∀ (M : me_M) (y3 : Int32) (y4 : Int32) (s0 : Int32) (H : Heap) (locs : List Loc) (ls : Array Slot), f_M_pairs_b49 k24 j0 x1 x2 M y3 y4 s0 = (some (MZ, RZ)) → (y3 = 1 ∨ y3 = 0) → (s0 = 1 ∨ s0 = 0) → me_wf N M → me_kp M0 M → va_P D classes (me_W ad ca M) H → va_D A (me_W ad ca M) → va_S A s.heap H locs → lv_has ls 5 [(0, .ref (ad 1 j0)), (1, .int x1), (2, .int x2), (3, .int y3), (4, .int y4)] → W p l e rm_M_pairs s m [.ref (ad 1 j0), .int x1, .int x2].toArray below meth c H locs 0 0 (MQ below (q_M_pairs D ad ca N M0 MZ RZ A) [.ref (ad 1 j0), .int x1, .int x2].toArray s rm_M_pairs.cells rm_M_pairs.slots A) (F0 m 49 ls [.int s0]) := by
    intro k24 hk24 M y3 y4 s0 H locs ls h zy3 zs0 hwf hkp hP hD hS hl
    unfold f_M_pairs_b49 at h
    have hkb := hkp
    refine lv_aload_n hx hb d_M_pairs_49 rfl (lv_at hl 0 rfl) ?_
    refine g_M_67 hx hb hts hown hK hP hwf hj0 (hts _ u_1808) d_M_pairs_50 ?_
    obtain ⟨j7, e8, h⟩ := bd_ob h
    have hj7 : j7 < N 13 := (hwf.2.1 1 j0 67 _ e8 (by decide) hj0)
    refine me_opt (j := j7) e8 ?_
    refine lv_iload hx hb d_M_pairs_53 (lv_at hl 4 rfl) ?_
    obtain ⟨g9, h⟩ := gd_ob h
    refine me_iald hx hb hK hP hwf hj7 g9 d_M_pairs_55 ?_
    refine lv_iload_n hx hb d_M_pairs_56 rfl (lv_at hl 2 rfl) ?_
    refine lv_icmp_ne (tgt := 64) hx hb d_M_pairs_57 (by decide) (fun c10 => ?_) (fun c10 => ?_)
    · have h := if_f c10 h
      refine lv_iconst (v := 0) hx hb d_M_pairs_64 (by decide) ?_
      exact b_65 _ hk24 M y3 y4 (0 : Int32) s0 _ _ _ h zy3 (by decide) zs0 hwf hkp hP hD hS (lv_sub hl [0, 1, 2, 3, 4] rfl)
    have h := if_t c10 h
    refine lv_iconst (v := 1) hx hb d_M_pairs_60 (by decide) ?_
    refine lv_goto (tgt := 65) hx hb d_M_pairs_61 (by decide) ?_
    exact b_65 _ hk24 M y3 y4 (1 : Int32) s0 _ _ _ h zy3 (by decide) zs0 hwf hkp hP hD hS (lv_sub hl [0, 1, 2, 3, 4] rfl)
  have b_24 : ∀ (fu : Nat), ∀ (M : me_M) (y3 : Int32) (y4 : Int32) (H : Heap) (locs : List Loc) (ls : Array Slot), f_M_pairs_l24 j0 x1 x2 fu M y3 y4 = (some (MZ, RZ)) → (y3 = 1 ∨ y3 = 0) → me_wf N M → me_kp M0 M → va_P D classes (me_W ad ca M) H → va_D A (me_W ad ca M) → va_S A s.heap H locs → lv_has ls 5 [(0, .ref (ad 1 j0)), (1, .int x1), (2, .int x2), (3, .int y3), (4, .int y4)] → W p l e rm_M_pairs s m [.ref (ad 1 j0), .int x1, .int x2].toArray below meth c H locs 0 0 (MQ below (q_M_pairs D ad ca N M0 MZ RZ A) [.ref (ad 1 j0), .int x1, .int x2].toArray s rm_M_pairs.cells rm_M_pairs.slots A) (F0 m 24 ls []) := by
    intro fu
    induction fu with
    | zero =>
      intro M y3 y4 H locs ls h zy3 hwf hkp hP hD hS hl
      cases h
    | succ fu ih =>
      intro M y3 y4 H locs ls h zy3 hwf hkp hP hD hS hl
      unfold f_M_pairs_l24 at h
      have hkb := hkp
      refine lv_iload hx hb d_M_pairs_24 (lv_at hl 4 rfl) ?_
      refine lv_aload_n hx hb d_M_pairs_26 rfl (lv_at hl 0 rfl) ?_
      refine g_M_69 hx hb hts hown hK hP hwf hj0 (hts _ u_1810) d_M_pairs_27 ?_
      refine lv_icmp_ge (tgt := 97) hx hb d_M_pairs_30 (by decide) (fun c11 => ?_) (fun c11 => ?_)
      · have h := if_t c11 h
        refine lv_iload_n hx hb d_M_pairs_97 rfl (lv_at hl 3 rfl) ?_
        refine lv_if_ne (tgt := 131) hx hb d_M_pairs_98 (by decide) (fun c12 => ?_) (fun c12 => ?_)
        · have h := if_f c12 h
          refine lv_iconst (v := 1) hx hb d_M_pairs_131 (by decide) ?_
          exact me_retz (me_kp M0) h (by decide) hx hb hr hlocks hwf hkp hP hK hD hS d_M_pairs_132
        have h := if_t c12 h
        refine lv_aload_n hx hb d_M_pairs_101 rfl (lv_at hl 0 rfl) ?_
        refine g_M_66 hx hb hts hown hK hP hwf hj0 (hts _ u_1807) d_M_pairs_102 ?_
        obtain ⟨j13, e14, h⟩ := bd_ob h
        have hj13 : j13 < N 13 := (hwf.2.1 1 j0 66 _ e14 (by decide) hj0)
        refine me_opt (j := j13) e14 ?_
        refine lv_aload_n hx hb d_M_pairs_105 rfl (lv_at hl 0 rfl) ?_
        refine g_M_69 hx hb hts hown hK hP hwf hj0 (hts _ u_1810) d_M_pairs_106 ?_
        refine lv_iload_n hx hb d_M_pairs_109 rfl (lv_at hl 1 rfl) ?_
        obtain ⟨g15, h⟩ := gd_ob h
        obtain ⟨M16, eM16, h⟩ := st_ob h
        refine me_iast eM16 hx hb hK hP hD hwf hS hj13 g15 d_M_pairs_110 (fun H locs hP hD hwf hS => ?_)
        have hkp := kp_I eM16 hkp
        refine lv_aload_n hx hb d_M_pairs_111 rfl (lv_at hl 0 rfl) ?_
        refine g_M_67 hx hb hts hown hK hP hwf hj0 (hts _ u_1808) d_M_pairs_112 ?_
        obtain ⟨j17, e18, h⟩ := bd_ob h
        have hj17 : j17 < N 13 := (hwf.2.1 1 j0 67 _ (kp_r hkb hkp e18) (by decide) hj0)
        refine me_opt (j := j17) (kp_r hkb hkp e18) ?_
        refine lv_aload_n hx hb d_M_pairs_115 rfl (lv_at hl 0 rfl) ?_
        refine g_M_69 hx hb hts hown hK hP hwf hj0 (hts _ u_1810) d_M_pairs_116 ?_
        refine lv_iload_n hx hb d_M_pairs_119 rfl (lv_at hl 2 rfl) ?_
        obtain ⟨g19, h⟩ := gd_ob h
        obtain ⟨M20, eM20, h⟩ := st_ob h
        refine me_iast eM20 hx hb hK hP hD hwf hS hj17 (kp_z hkb.z hkp.z g19) d_M_pairs_120 (fun H locs hP hD hwf hS => ?_)
        have hkp := kp_I eM20 hkp
        refine lv_aload_n hx hb d_M_pairs_121 rfl (lv_at hl 0 rfl) ?_
        refine lv_dup hx hb d_M_pairs_122 rfl ?_
        refine g_M_69 hx hb hts hown hK hP hwf hj0 (hts _ u_1810) d_M_pairs_123 ?_
        refine lv_iconst (v := 1) hx hb d_M_pairs_126 (by decide) ?_
        refine lv_iadd hx hb d_M_pairs_127 ?_
        obtain ⟨M21, eM21, h⟩ := st_ob h
        refine p_M_69 eM21 hx hb hts hown hK hP hD hwf hS hj0 (hts _ u_1810) d_M_pairs_128 (fun H locs hP hD hwf hS => ?_)
        have hkp := kp_I eM21 hkp
        refine lv_iconst (v := 1) hx hb d_M_pairs_131 (by decide) ?_
        exact me_retz (me_kp M0) h (by decide) hx hb hr hlocks hwf hkp hP hK hD hS d_M_pairs_132
      have h := if_f c11 h
      refine lv_aload_n hx hb d_M_pairs_33 rfl (lv_at hl 0 rfl) ?_
      refine g_M_66 hx hb hts hown hK hP hwf hj0 (hts _ u_1807) d_M_pairs_34 ?_
      obtain ⟨j22, e23, h⟩ := bd_ob h
      have hj22 : j22 < N 13 := (hwf.2.1 1 j0 66 _ e23 (by decide) hj0)
      refine me_opt (j := j22) e23 ?_
      refine lv_iload hx hb d_M_pairs_37 (lv_at hl 4 rfl) ?_
      obtain ⟨g24, h⟩ := gd_ob h
      refine me_iald hx hb hK hP hwf hj22 g24 d_M_pairs_39 ?_
      refine lv_iload_n hx hb d_M_pairs_40 rfl (lv_at hl 1 rfl) ?_
      refine lv_icmp_ne (tgt := 48) hx hb d_M_pairs_41 (by decide) (fun c25 => ?_) (fun c25 => ?_)
      · have h := if_f c25 h
        refine lv_iconst (v := 0) hx hb d_M_pairs_48 (by decide) ?_
        exact b_49 _ ih M y3 y4 (0 : Int32) _ _ _ h zy3 (by decide) hwf hkp hP hD hS (lv_sub hl [0, 1, 2, 3, 4] rfl)
      have h := if_t c25 h
      refine lv_iconst (v := 1) hx hb d_M_pairs_44 (by decide) ?_
      refine lv_goto (tgt := 49) hx hb d_M_pairs_45 (by decide) ?_
      exact b_49 _ ih M y3 y4 (1 : Int32) _ _ _ h zy3 (by decide) hwf hkp hP hD hS (lv_sub hl [0, 1, 2, 3, 4] rfl)
  refine lv_iload_n hx hb d_M_pairs_0 rfl (lv_at hl 1 rfl) ?_
  refine lv_if_eq (tgt := 8) hx hb d_M_pairs_1 (by decide) (fun c26 => ?_) (fun c26 => ?_)
  · have h := if_t c26 h
    refine lv_iload_n hx hb d_M_pairs_8 rfl (lv_at hl 1 rfl) ?_
    refine lv_iload_n hx hb d_M_pairs_9 rfl (lv_at hl 2 rfl) ?_
    refine lv_icmp_ne (tgt := 17) hx hb d_M_pairs_10 (by decide) (fun c27 => ?_) (fun c27 => ?_)
    · have h := if_f c27 h
      refine lv_iconst (v := 0) hx hb d_M_pairs_17 (by decide) ?_
      exact me_retz (me_kp M0) h (by decide) hx hb hr hlocks hwf hkp hP hK hD hS d_M_pairs_18
    have h := if_t c27 h
    refine lv_iconst (v := 1) hx hb d_M_pairs_13 (by decide) ?_
    refine lv_goto (tgt := 18) hx hb d_M_pairs_14 (by decide) ?_
    exact me_retz (me_kp M0) h (by decide) hx hb hr hlocks hwf hkp hP hK hD hS d_M_pairs_18
  have h := if_f c26 h
  refine lv_iload_n hx hb d_M_pairs_4 rfl (lv_at hl 2 rfl) ?_
  refine lv_if_ne (tgt := 19) hx hb d_M_pairs_5 (by decide) (fun c28 => ?_) (fun c28 => ?_)
  · have h := if_f c28 h
    refine lv_iconst (v := 0) hx hb d_M_pairs_19 (by decide) ?_
    refine lv_istore_n (lv' := [(3, .int 0), (0, .ref (ad 1 j0)), (1, .int x1), (2, .int x2)]) hx hb d_M_pairs_20 rfl hl (by decide) rfl (fun ls hl => ?_)
    refine lv_iconst (v := 0) hx hb d_M_pairs_21 (by decide) ?_
    refine lv_istore (lv' := [(4, .int 0), (3, .int 0), (0, .ref (ad 1 j0)), (1, .int x1), (2, .int x2)]) hx hb d_M_pairs_22 hl (by decide) rfl (fun ls hl => ?_)
    exact b_24 _ M0 (0 : Int32) (0 : Int32) _ _ _ h (by decide) hwf hkp hP hD hS (lv_sub hl [2, 3, 4, 1, 0] rfl)
  have h := if_t c28 h
  refine lv_iload_n hx hb d_M_pairs_8 rfl (lv_at hl 1 rfl) ?_
  refine lv_iload_n hx hb d_M_pairs_9 rfl (lv_at hl 2 rfl) ?_
  refine lv_icmp_ne (tgt := 17) hx hb d_M_pairs_10 (by decide) (fun c29 => ?_) (fun c29 => ?_)
  · have h := if_f c29 h
    refine lv_iconst (v := 0) hx hb d_M_pairs_17 (by decide) ?_
    exact me_retz (me_kp M0) h (by decide) hx hb hr hlocks hwf hkp hP hK hD hS d_M_pairs_18
  have h := if_t c29 h
  refine lv_iconst (v := 1) hx hb d_M_pairs_13 (by decide) ?_
  refine lv_goto (tgt := 18) hx hb d_M_pairs_14 (by decide) ?_
  exact me_retz (me_kp M0) h (by decide) hx hb hr hlocks hwf hkp hP hK hD hS d_M_pairs_18
theorem d_M_isItemWithin_0 : decode prog_14_method_95_code 0 = .ok (.iload_n 2, 1) := by decide +kernel
theorem d_M_isItemWithin_1 : decode prog_14_method_95_code 1 = .ok (.invokestatic 357, 3) := by decide +kernel
theorem d_M_isItemWithin_4 : decode prog_14_method_95_code 4 = .ok (.iload_n 1, 1) := by decide +kernel
theorem d_M_isItemWithin_5 : decode prog_14_method_95_code 5 = .ok (.iadd, 1) := by decide +kernel
theorem d_M_isItemWithin_6 : decode prog_14_method_95_code 6 = .ok (.istore_n 3, 1) := by decide +kernel
theorem d_M_isItemWithin_7 : decode prog_14_method_95_code 7 = .ok (.aload_n 0, 1) := by decide +kernel
theorem d_M_isItemWithin_8 : decode prog_14_method_95_code 8 = .ok (.getfield 89, 3) := by decide +kernel
theorem d_M_isItemWithin_11 : decode prog_14_method_95_code 11 = .ok (.iload_n 3, 1) := by decide +kernel
theorem d_M_isItemWithin_12 : decode prog_14_method_95_code 12 = .ok (.baload, 1) := by decide +kernel
theorem d_M_isItemWithin_13 : decode prog_14_method_95_code 13 = .ok (.ifCond .ne 27, 3) := by decide +kernel
theorem d_M_isItemWithin_40 : decode prog_14_method_95_code 40 = .ok (.aload_n 0, 1) := by decide +kernel
theorem d_M_isItemWithin_41 : decode prog_14_method_95_code 41 = .ok (.getfield 89, 3) := by decide +kernel
theorem d_M_isItemWithin_44 : decode prog_14_method_95_code 44 = .ok (.iload_n 1, 1) := by decide +kernel
theorem d_M_isItemWithin_45 : decode prog_14_method_95_code 45 = .ok (.baload, 1) := by decide +kernel
theorem d_M_isItemWithin_46 : decode prog_14_method_95_code 46 = .ok (.aload_n 0, 1) := by decide +kernel
theorem d_M_isItemWithin_47 : decode prog_14_method_95_code 47 = .ok (.getfield 89, 3) := by decide +kernel
theorem d_M_isItemWithin_50 : decode prog_14_method_95_code 50 = .ok (.iload_n 3, 1) := by decide +kernel
theorem d_M_isItemWithin_51 : decode prog_14_method_95_code 51 = .ok (.baload, 1) := by decide +kernel
theorem d_M_isItemWithin_52 : decode prog_14_method_95_code 52 = .ok (.if_icmp .eq 5, 3) := by decide +kernel
theorem d_M_isItemWithin_57 : decode prog_14_method_95_code 57 = .ok (.aload_n 0, 1) := by decide +kernel
theorem d_M_isItemWithin_58 : decode prog_14_method_95_code 58 = .ok (.getfield 89, 3) := by decide +kernel
theorem d_M_isItemWithin_61 : decode prog_14_method_95_code 61 = .ok (.iload_n 3, 1) := by decide +kernel
theorem d_M_isItemWithin_62 : decode prog_14_method_95_code 62 = .ok (.baload, 1) := by decide +kernel
theorem d_M_isItemWithin_63 : decode prog_14_method_95_code 63 = .ok (.tableswitch 224 1 8 #[45, 224, 224, 115, 52, 54, 179, 75], 45) := by decide +kernel
theorem d_M_isItemWithin_108 : decode prog_14_method_95_code 108 = .ok (.aload_n 0, 1) := by decide +kernel
theorem d_M_isItemWithin_109 : decode prog_14_method_95_code 109 = .ok (.iload_n 3, 1) := by decide +kernel
theorem d_M_isItemWithin_110 : decode prog_14_method_95_code 110 = .ok (.iload_n 1, 1) := by decide +kernel
theorem d_M_isItemWithin_111 : decode prog_14_method_95_code 111 = .ok (.invokevirtual 488, 3) := by decide +kernel
theorem u_2067 : Cond.methodLink "FilterGuardModel" 488 ⟨"FilterGuardModel", "covers", "(II)Z"⟩ ∈ fg_g := fg_in (List.mem_of_getElem? (i := 2067) (by decide +kernel)) rfl
theorem u_2070 : Cond.code ⟨"FilterGuardModel", "covers", "(II)Z"⟩ prog_14_method_43_code 4 (some .boolean) ∈ fg_g := fg_in (List.mem_of_getElem? (i := 2070) (by decide +kernel)) rfl
theorem u_2069 : Cond.instanceMethod ⟨"FilterGuardModel", "covers", "(II)Z"⟩ ∈ fg_g := fg_in (List.mem_of_getElem? (i := 2069) (by decide +kernel)) rfl
theorem u_97 : Cond.selects "FilterGuardModel" ⟨"FilterGuardModel", "covers", "(II)Z"⟩ ⟨"FilterGuardModel", "covers", "(II)Z"⟩ ∈ fg_g := fg_in (List.mem_of_getElem? (i := 97) (by decide +kernel)) rfl
theorem d_M_isItemWithin_114 : decode prog_14_method_95_code 114 = .ok (.ireturn, 1) := by decide +kernel
theorem d_M_isItemWithin_287 : decode prog_14_method_95_code 287 = .ok (.aload_n 0, 1) := by decide +kernel
theorem d_M_isItemWithin_288 : decode prog_14_method_95_code 288 = .ok (.getfield 92, 3) := by decide +kernel
theorem d_M_isItemWithin_291 : decode prog_14_method_95_code 291 = .ok (.iload_n 1, 1) := by decide +kernel
theorem d_M_isItemWithin_292 : decode prog_14_method_95_code 292 = .ok (.iaload, 1) := by decide +kernel
theorem d_M_isItemWithin_293 : decode prog_14_method_95_code 293 = .ok (.aload_n 0, 1) := by decide +kernel
theorem d_M_isItemWithin_294 : decode prog_14_method_95_code 294 = .ok (.getfield 92, 3) := by decide +kernel
theorem d_M_isItemWithin_297 : decode prog_14_method_95_code 297 = .ok (.iload_n 3, 1) := by decide +kernel
theorem d_M_isItemWithin_298 : decode prog_14_method_95_code 298 = .ok (.iaload, 1) := by decide +kernel
theorem d_M_isItemWithin_299 : decode prog_14_method_95_code 299 = .ok (.if_icmp .ne 7, 3) := by decide +kernel
theorem d_M_isItemWithin_306 : decode prog_14_method_95_code 306 = .ok (.iconst 0, 1) := by decide +kernel
theorem d_M_isItemWithin_307 : decode prog_14_method_95_code 307 = .ok (.ireturn, 1) := by decide +kernel
theorem d_M_isItemWithin_302 : decode prog_14_method_95_code 302 = .ok (.iconst 1, 1) := by decide +kernel
theorem d_M_isItemWithin_303 : decode prog_14_method_95_code 303 = .ok (.goto 4, 3) := by decide +kernel
theorem d_M_isItemWithin_178 : decode prog_14_method_95_code 178 = .ok (.aload_n 0, 1) := by decide +kernel
theorem d_M_isItemWithin_179 : decode prog_14_method_95_code 179 = .ok (.getfield 92, 3) := by decide +kernel
theorem d_M_isItemWithin_182 : decode prog_14_method_95_code 182 = .ok (.iload_n 1, 1) := by decide +kernel
theorem d_M_isItemWithin_183 : decode prog_14_method_95_code 183 = .ok (.iaload, 1) := by decide +kernel
theorem d_M_isItemWithin_184 : decode prog_14_method_95_code 184 = .ok (.aload_n 0, 1) := by decide +kernel
theorem d_M_isItemWithin_185 : decode prog_14_method_95_code 185 = .ok (.getfield 92, 3) := by decide +kernel
theorem d_M_isItemWithin_188 : decode prog_14_method_95_code 188 = .ok (.iload_n 3, 1) := by decide +kernel
theorem d_M_isItemWithin_189 : decode prog_14_method_95_code 189 = .ok (.iaload, 1) := by decide +kernel
theorem d_M_isItemWithin_190 : decode prog_14_method_95_code 190 = .ok (.if_icmp .ne 50, 3) := by decide +kernel
theorem d_M_isItemWithin_240 : decode prog_14_method_95_code 240 = .ok (.iconst 0, 1) := by decide +kernel
theorem d_M_isItemWithin_241 : decode prog_14_method_95_code 241 = .ok (.ireturn, 1) := by decide +kernel
theorem d_M_isItemWithin_193 : decode prog_14_method_95_code 193 = .ok (.aload_n 0, 1) := by decide +kernel
theorem d_M_isItemWithin_194 : decode prog_14_method_95_code 194 = .ok (.iload_n 3, 1) := by decide +kernel
theorem d_M_isItemWithin_195 : decode prog_14_method_95_code 195 = .ok (.iload_n 1, 1) := by decide +kernel
theorem d_M_isItemWithin_196 : decode prog_14_method_95_code 196 = .ok (.invokevirtual 488, 3) := by decide +kernel
theorem d_M_isItemWithin_199 : decode prog_14_method_95_code 199 = .ok (.ifCond .eq 41, 3) := by decide +kernel
theorem d_M_isItemWithin_202 : decode prog_14_method_95_code 202 = .ok (.aload_n 0, 1) := by decide +kernel
theorem d_M_isItemWithin_203 : decode prog_14_method_95_code 203 = .ok (.getfield 101, 3) := by decide +kernel
theorem d_M_isItemWithin_206 : decode prog_14_method_95_code 206 = .ok (.iload_n 1, 1) := by decide +kernel
theorem d_M_isItemWithin_207 : decode prog_14_method_95_code 207 = .ok (.iaload, 1) := by decide +kernel
theorem d_M_isItemWithin_208 : decode prog_14_method_95_code 208 = .ok (.aload_n 0, 1) := by decide +kernel
theorem d_M_isItemWithin_209 : decode prog_14_method_95_code 209 = .ok (.getfield 101, 3) := by decide +kernel
theorem d_M_isItemWithin_212 : decode prog_14_method_95_code 212 = .ok (.iload_n 3, 1) := by decide +kernel
theorem d_M_isItemWithin_213 : decode prog_14_method_95_code 213 = .ok (.iaload, 1) := by decide +kernel
theorem d_M_isItemWithin_214 : decode prog_14_method_95_code 214 = .ok (.if_icmp .lt 26, 3) := by decide +kernel
theorem d_M_isItemWithin_217 : decode prog_14_method_95_code 217 = .ok (.aload_n 0, 1) := by decide +kernel
theorem d_M_isItemWithin_218 : decode prog_14_method_95_code 218 = .ok (.aload_n 0, 1) := by decide +kernel
theorem d_M_isItemWithin_219 : decode prog_14_method_95_code 219 = .ok (.getfield 98, 3) := by decide +kernel
theorem d_M_isItemWithin_222 : decode prog_14_method_95_code 222 = .ok (.iload_n 3, 1) := by decide +kernel
theorem d_M_isItemWithin_223 : decode prog_14_method_95_code 223 = .ok (.iaload, 1) := by decide +kernel
theorem d_M_isItemWithin_224 : decode prog_14_method_95_code 224 = .ok (.aload_n 0, 1) := by decide +kernel
theorem d_M_isItemWithin_225 : decode prog_14_method_95_code 225 = .ok (.getfield 98, 3) := by decide +kernel
theorem d_M_isItemWithin_228 : decode prog_14_method_95_code 228 = .ok (.iload_n 1, 1) := by decide +kernel
theorem d_M_isItemWithin_229 : decode prog_14_method_95_code 229 = .ok (.iaload, 1) := by decide +kernel
theorem d_M_isItemWithin_230 : decode prog_14_method_95_code 230 = .ok (.invokevirtual 491, 3) := by decide +kernel
theorem u_2076 : Cond.methodLink "FilterGuardModel" 491 ⟨"FilterGuardModel", "pairs", "(II)Z"⟩ ∈ fg_g := fg_in (List.mem_of_getElem? (i := 2076) (by decide +kernel)) rfl
theorem u_2079 : Cond.code ⟨"FilterGuardModel", "pairs", "(II)Z"⟩ prog_14_method_97_code 5 (some .boolean) ∈ fg_g := fg_in (List.mem_of_getElem? (i := 2079) (by decide +kernel)) rfl
theorem u_2078 : Cond.instanceMethod ⟨"FilterGuardModel", "pairs", "(II)Z"⟩ ∈ fg_g := fg_in (List.mem_of_getElem? (i := 2078) (by decide +kernel)) rfl
theorem u_98 : Cond.selects "FilterGuardModel" ⟨"FilterGuardModel", "pairs", "(II)Z"⟩ ⟨"FilterGuardModel", "pairs", "(II)Z"⟩ ∈ fg_g := fg_in (List.mem_of_getElem? (i := 98) (by decide +kernel)) rfl
theorem d_M_isItemWithin_233 : decode prog_14_method_95_code 233 = .ok (.ifCond .eq 7, 3) := by decide +kernel
theorem d_M_isItemWithin_236 : decode prog_14_method_95_code 236 = .ok (.iconst 1, 1) := by decide +kernel
theorem d_M_isItemWithin_237 : decode prog_14_method_95_code 237 = .ok (.goto 4, 3) := by decide +kernel
theorem d_M_isItemWithin_115 : decode prog_14_method_95_code 115 = .ok (.iconst 1, 1) := by decide +kernel
theorem d_M_isItemWithin_116 : decode prog_14_method_95_code 116 = .ok (.ireturn, 1) := by decide +kernel
theorem d_M_isItemWithin_117 : decode prog_14_method_95_code 117 = .ok (.aload_n 0, 1) := by decide +kernel
theorem d_M_isItemWithin_118 : decode prog_14_method_95_code 118 = .ok (.getfield 95, 3) := by decide +kernel
theorem d_M_isItemWithin_121 : decode prog_14_method_95_code 121 = .ok (.iload_n 1, 1) := by decide +kernel
theorem d_M_isItemWithin_122 : decode prog_14_method_95_code 122 = .ok (.iaload, 1) := by decide +kernel
theorem d_M_isItemWithin_123 : decode prog_14_method_95_code 123 = .ok (.aload_n 0, 1) := by decide +kernel
theorem d_M_isItemWithin_124 : decode prog_14_method_95_code 124 = .ok (.getfield 95, 3) := by decide +kernel
theorem d_M_isItemWithin_127 : decode prog_14_method_95_code 127 = .ok (.iload_n 3, 1) := by decide +kernel
theorem d_M_isItemWithin_128 : decode prog_14_method_95_code 128 = .ok (.iaload, 1) := by decide +kernel
theorem d_M_isItemWithin_129 : decode prog_14_method_95_code 129 = .ok (.if_icmp .ne 7, 3) := by decide +kernel
theorem d_M_isItemWithin_136 : decode prog_14_method_95_code 136 = .ok (.iconst 0, 1) := by decide +kernel
theorem d_M_isItemWithin_137 : decode prog_14_method_95_code 137 = .ok (.ireturn, 1) := by decide +kernel
theorem d_M_isItemWithin_132 : decode prog_14_method_95_code 132 = .ok (.iconst 1, 1) := by decide +kernel
theorem d_M_isItemWithin_133 : decode prog_14_method_95_code 133 = .ok (.goto 4, 3) := by decide +kernel
theorem d_M_isItemWithin_242 : decode prog_14_method_95_code 242 = .ok (.aload_n 0, 1) := by decide +kernel
theorem d_M_isItemWithin_243 : decode prog_14_method_95_code 243 = .ok (.getfield 92, 3) := by decide +kernel
theorem d_M_isItemWithin_246 : decode prog_14_method_95_code 246 = .ok (.iload_n 1, 1) := by decide +kernel
theorem d_M_isItemWithin_247 : decode prog_14_method_95_code 247 = .ok (.iaload, 1) := by decide +kernel
theorem d_M_isItemWithin_248 : decode prog_14_method_95_code 248 = .ok (.aload_n 0, 1) := by decide +kernel
theorem d_M_isItemWithin_249 : decode prog_14_method_95_code 249 = .ok (.getfield 92, 3) := by decide +kernel
theorem d_M_isItemWithin_252 : decode prog_14_method_95_code 252 = .ok (.iload_n 3, 1) := by decide +kernel
theorem d_M_isItemWithin_253 : decode prog_14_method_95_code 253 = .ok (.iaload, 1) := by decide +kernel
theorem d_M_isItemWithin_254 : decode prog_14_method_95_code 254 = .ok (.if_icmp .ne 31, 3) := by decide +kernel
theorem d_M_isItemWithin_285 : decode prog_14_method_95_code 285 = .ok (.iconst 0, 1) := by decide +kernel
theorem d_M_isItemWithin_286 : decode prog_14_method_95_code 286 = .ok (.ireturn, 1) := by decide +kernel
theorem d_M_isItemWithin_257 : decode prog_14_method_95_code 257 = .ok (.aload_n 0, 1) := by decide +kernel
theorem d_M_isItemWithin_258 : decode prog_14_method_95_code 258 = .ok (.getfield 95, 3) := by decide +kernel
theorem d_M_isItemWithin_261 : decode prog_14_method_95_code 261 = .ok (.iload_n 1, 1) := by decide +kernel
theorem d_M_isItemWithin_262 : decode prog_14_method_95_code 262 = .ok (.iaload, 1) := by decide +kernel
theorem d_M_isItemWithin_263 : decode prog_14_method_95_code 263 = .ok (.aload_n 0, 1) := by decide +kernel
theorem d_M_isItemWithin_264 : decode prog_14_method_95_code 264 = .ok (.getfield 95, 3) := by decide +kernel
theorem d_M_isItemWithin_267 : decode prog_14_method_95_code 267 = .ok (.iload_n 3, 1) := by decide +kernel
theorem d_M_isItemWithin_268 : decode prog_14_method_95_code 268 = .ok (.iaload, 1) := by decide +kernel
theorem d_M_isItemWithin_269 : decode prog_14_method_95_code 269 = .ok (.if_icmp .ne 16, 3) := by decide +kernel
theorem d_M_isItemWithin_272 : decode prog_14_method_95_code 272 = .ok (.aload_n 0, 1) := by decide +kernel
theorem d_M_isItemWithin_273 : decode prog_14_method_95_code 273 = .ok (.iload_n 3, 1) := by decide +kernel
theorem d_M_isItemWithin_274 : decode prog_14_method_95_code 274 = .ok (.iload_n 1, 1) := by decide +kernel
theorem d_M_isItemWithin_275 : decode prog_14_method_95_code 275 = .ok (.invokevirtual 488, 3) := by decide +kernel
theorem d_M_isItemWithin_278 : decode prog_14_method_95_code 278 = .ok (.ifCond .eq 7, 3) := by decide +kernel
theorem d_M_isItemWithin_281 : decode prog_14_method_95_code 281 = .ok (.iconst 1, 1) := by decide +kernel
theorem d_M_isItemWithin_282 : decode prog_14_method_95_code 282 = .ok (.goto 4, 3) := by decide +kernel
theorem d_M_isItemWithin_138 : decode prog_14_method_95_code 138 = .ok (.aload_n 0, 1) := by decide +kernel
theorem d_M_isItemWithin_139 : decode prog_14_method_95_code 139 = .ok (.getfield 95, 3) := by decide +kernel
theorem d_M_isItemWithin_142 : decode prog_14_method_95_code 142 = .ok (.iload_n 1, 1) := by decide +kernel
theorem d_M_isItemWithin_143 : decode prog_14_method_95_code 143 = .ok (.iaload, 1) := by decide +kernel
theorem d_M_isItemWithin_144 : decode prog_14_method_95_code 144 = .ok (.aload_n 0, 1) := by decide +kernel
theorem d_M_isItemWithin_145 : decode prog_14_method_95_code 145 = .ok (.getfield 95, 3) := by decide +kernel
theorem d_M_isItemWithin_148 : decode prog_14_method_95_code 148 = .ok (.iload_n 3, 1) := by decide +kernel
theorem d_M_isItemWithin_149 : decode prog_14_method_95_code 149 = .ok (.iaload, 1) := by decide +kernel
theorem d_M_isItemWithin_150 : decode prog_14_method_95_code 150 = .ok (.if_icmp .ne 26, 3) := by decide +kernel
theorem d_M_isItemWithin_176 : decode prog_14_method_95_code 176 = .ok (.iconst 0, 1) := by decide +kernel
theorem d_M_isItemWithin_177 : decode prog_14_method_95_code 177 = .ok (.ireturn, 1) := by decide +kernel
theorem d_M_isItemWithin_153 : decode prog_14_method_95_code 153 = .ok (.aload_n 0, 1) := by decide +kernel
theorem d_M_isItemWithin_154 : decode prog_14_method_95_code 154 = .ok (.aload_n 0, 1) := by decide +kernel
theorem d_M_isItemWithin_155 : decode prog_14_method_95_code 155 = .ok (.getfield 98, 3) := by decide +kernel
theorem d_M_isItemWithin_158 : decode prog_14_method_95_code 158 = .ok (.iload_n 3, 1) := by decide +kernel
theorem d_M_isItemWithin_159 : decode prog_14_method_95_code 159 = .ok (.iaload, 1) := by decide +kernel
theorem d_M_isItemWithin_160 : decode prog_14_method_95_code 160 = .ok (.aload_n 0, 1) := by decide +kernel
theorem d_M_isItemWithin_161 : decode prog_14_method_95_code 161 = .ok (.getfield 98, 3) := by decide +kernel
theorem d_M_isItemWithin_164 : decode prog_14_method_95_code 164 = .ok (.iload_n 1, 1) := by decide +kernel
theorem d_M_isItemWithin_165 : decode prog_14_method_95_code 165 = .ok (.iaload, 1) := by decide +kernel
theorem d_M_isItemWithin_166 : decode prog_14_method_95_code 166 = .ok (.invokevirtual 491, 3) := by decide +kernel
theorem d_M_isItemWithin_169 : decode prog_14_method_95_code 169 = .ok (.ifCond .eq 7, 3) := by decide +kernel
theorem d_M_isItemWithin_172 : decode prog_14_method_95_code 172 = .ok (.iconst 1, 1) := by decide +kernel
theorem d_M_isItemWithin_173 : decode prog_14_method_95_code 173 = .ok (.goto 4, 3) := by decide +kernel
theorem d_M_isItemWithin_55 : decode prog_14_method_95_code 55 = .ok (.iconst 0, 1) := by decide +kernel
theorem d_M_isItemWithin_56 : decode prog_14_method_95_code 56 = .ok (.ireturn, 1) := by decide +kernel
theorem d_M_isItemWithin_16 : decode prog_14_method_95_code 16 = .ok (.iload_n 1, 1) := by decide +kernel
theorem d_M_isItemWithin_17 : decode prog_14_method_95_code 17 = .ok (.bipush 11, 2) := by decide +kernel
theorem d_M_isItemWithin_19 : decode prog_14_method_95_code 19 = .ok (.if_icmp .lt 15, 3) := by decide +kernel
theorem d_M_isItemWithin_34 : decode prog_14_method_95_code 34 = .ok (.iconst 1, 1) := by decide +kernel
theorem d_M_isItemWithin_35 : decode prog_14_method_95_code 35 = .ok (.goto 4, 3) := by decide +kernel
theorem d_M_isItemWithin_39 : decode prog_14_method_95_code 39 = .ok (.ireturn, 1) := by decide +kernel
theorem d_M_isItemWithin_22 : decode prog_14_method_95_code 22 = .ok (.aload_n 0, 1) := by decide +kernel
theorem d_M_isItemWithin_23 : decode prog_14_method_95_code 23 = .ok (.iload_n 1, 1) := by decide +kernel
theorem d_M_isItemWithin_24 : decode prog_14_method_95_code 24 = .ok (.bipush 11, 2) := by decide +kernel
theorem d_M_isItemWithin_26 : decode prog_14_method_95_code 26 = .ok (.isub, 1) := by decide +kernel
theorem d_M_isItemWithin_27 : decode prog_14_method_95_code 27 = .ok (.iload_n 2, 1) := by decide +kernel
theorem d_M_isItemWithin_28 : decode prog_14_method_95_code 28 = .ok (.invokevirtual 484, 3) := by decide +kernel
theorem u_2063 : Cond.methodLink "FilterGuardModel" 484 ⟨"FilterGuardModel", "areBytesWithin", "(II)Z"⟩ ∈ fg_g := fg_in (List.mem_of_getElem? (i := 2063) (by decide +kernel)) rfl
theorem u_2066 : Cond.code ⟨"FilterGuardModel", "areBytesWithin", "(II)Z"⟩ prog_14_method_96_code 4 (some .boolean) ∈ fg_g := fg_in (List.mem_of_getElem? (i := 2066) (by decide +kernel)) rfl
theorem u_2065 : Cond.instanceMethod ⟨"FilterGuardModel", "areBytesWithin", "(II)Z"⟩ ∈ fg_g := fg_in (List.mem_of_getElem? (i := 2065) (by decide +kernel)) rfl
theorem u_96 : Cond.selects "FilterGuardModel" ⟨"FilterGuardModel", "areBytesWithin", "(II)Z"⟩ ⟨"FilterGuardModel", "areBytesWithin", "(II)Z"⟩ ∈ fg_g := fg_in (List.mem_of_getElem? (i := 96) (by decide +kernel)) rfl
theorem d_M_isItemWithin_31 : decode prog_14_method_95_code 31 = .ok (.ifCond .eq 7, 3) := by decide +kernel
theorem d_M_isItemWithin_38 : decode prog_14_method_95_code 38 = .ok (.iconst 0, 1) := by decide +kernel
abbrev y_M_isItemWithin : MethodName := ⟨"FilterGuardModel", "isItemWithin", "(II)Z"⟩
def rm_M_isItemWithin : Room := { frames := 3, cells := 0, slots := 0, locals := 66 }
abbrev q_M_isItemWithin (D : va_G) (ad : Nat → Nat → Nat) (ca : Nat → ClassId) (N : Nat → Nat) (M0 MZ : me_M) (RZ : Int32) (A : Nat → Prop) : Array Value → Jvm.State → Outcome → Jvm.State → Prop := va_Qi (fun r (_ : Unit) => r = RZ ∧ me_wf N MZ ∧ me_kp M0 MZ ∧ (RZ = 1 ∨ RZ = 0)) (fg_B D A (fun _ => me_W ad ca MZ) (fun _ => [])) A
set_option maxHeartbeats 4000000 in
set_option maxRecDepth 100000 in
theorem c_M_isItemWithin (l : Launch) (D : va_G) (ad : Nat → Nat → Nat) (ca : Nat → ClassId) (N : Nat → Nat) (M0 MZ : me_M) (RZ : Int32) (j0 : Nat) (x1 : Int32) (x2 : Int32) (h : f_M_isItemWithin M0 j0 x1 x2 = (some (MZ, RZ))) (hwf : me_wf N M0) (hj0 : j0 < N 1) (sz : Nat) : Met l y_M_isItemWithin (fg_w y_M_isItemWithin prog_14_method_95_code 4 (some .boolean)) rm_M_isItemWithin (va_Pc [.ref (ad 1 j0), .int x1, .int x2] (fz_P D (me_T ca) (me_W ad ca M0) sz)) (q_M_isItemWithin D ad ca N M0 MZ RZ (va_A (me_W ad ca M0) sz)) rm_M_isItemWithin.cells rm_M_isItemWithin.slots (va_A (me_W ad ca M0) sz) := by
  refine fz_enter (fun A => q_M_isItemWithin D ad ca N M0 MZ RZ A) (by decide +kernel) (Nat.le_of_ble_eq_true rfl) ?_
  intro p e s m below meth c ls A hx hb hml hown hts hr hlocks hin hP hK hD hS hA hX hl hz
  have hl : lv_has ls 4 [(0, .ref (ad 1 j0)), (1, .int x1), (2, .int x2)] := hl
  unfold f_M_isItemWithin at h
  have hkp : me_kp M0 M0 := me_kp.rf
  have hkb := hkp
  refine lv_iload_n hx hb d_M_isItemWithin_0 rfl (lv_at hl 2 rfl) ?_
  obtain ⟨r1, er1, h⟩ := bd_ob h
  refine me_pani' (r0 := r1) (fg_runS (wc := []) (tc := []) (A2 := A) (As := [.int x2]) (rest := []) ⟨hx, hb, hml, hown, hts⟩ (c_M_rowOf l D r1 x2 er1 _) (by show fg_nm y_M_rowOf 1; decide +kernel) u_2060 u_2061 u_192 u_2062 ⟨Nat.le_of_ble_eq_true rfl, Nat.le_of_ble_eq_true rfl⟩ hX me_P0 (hK.sub (tys' := []) [] rfl) me_D0 rfl hl.1 (Nat.le_of_ble_eq_true rfl) d_M_isItemWithin_1 ⟨Nat.le_of_ble_eq_true rfl, Nat.le_of_ble_eq_true rfl⟩) hP hD hK hS hA rfl rfl (fun H locs hw hP hD hS => ?_)
  refine lv_iload_n hx hb d_M_isItemWithin_4 rfl (lv_at hl 1 rfl) ?_
  refine lv_iadd hx hb d_M_isItemWithin_5 ?_
  obtain ⟨v2, ev2, h⟩ := st_ob h
  refine fg_topi (y := v2) ev2.symm ?_
  refine lv_istore_n (lv' := [(3, .int v2), (0, .ref (ad 1 j0)), (1, .int x1), (2, .int x2)]) hx hb d_M_isItemWithin_6 rfl hl (by decide) rfl (fun ls hl => ?_)
  refine lv_aload_n hx hb d_M_isItemWithin_7 rfl (lv_at hl 1 rfl) ?_
  refine g_M_47 hx hb hts hown hK hP hwf hj0 (hts _ u_1788) d_M_isItemWithin_8 ?_
  obtain ⟨j3, e4, h⟩ := bd_ob h
  have hj3 : j3 < N 14 := (hwf.2.1 1 j0 47 _ e4 (by decide) hj0)
  refine me_opt (j := j3) e4 ?_
  refine lv_iload_n hx hb d_M_isItemWithin_11 rfl (lv_at hl 0 rfl) ?_
  obtain ⟨g5, h⟩ := gd_ob h
  refine me_bald hx hb hK hP hwf hj3 g5 d_M_isItemWithin_12 ?_
  refine lv_if_ne (tgt := 40) hx hb d_M_isItemWithin_13 (by decide) (fun c6 => ?_) (fun c6 => ?_)
  · have h := if_f c6 h
    refine lv_aload_n hx hb d_M_isItemWithin_40 rfl (lv_at hl 1 rfl) ?_
    refine g_M_47 hx hb hts hown hK hP hwf hj0 (hts _ u_1788) d_M_isItemWithin_41 ?_
    refine me_opt (j := j3) e4 ?_
    refine lv_iload_n hx hb d_M_isItemWithin_44 rfl (lv_at hl 2 rfl) ?_
    obtain ⟨g7, h⟩ := gd_ob h
    refine me_bald hx hb hK hP hwf hj3 g7 d_M_isItemWithin_45 ?_
    refine lv_aload_n hx hb d_M_isItemWithin_46 rfl (lv_at hl 1 rfl) ?_
    refine g_M_47 hx hb hts hown hK hP hwf hj0 (hts _ u_1788) d_M_isItemWithin_47 ?_
    refine me_opt (j := j3) e4 ?_
    refine lv_iload_n hx hb d_M_isItemWithin_50 rfl (lv_at hl 0 rfl) ?_
    refine me_bald hx hb hK hP hwf hj3 g5 d_M_isItemWithin_51 ?_
    refine lv_icmp_eq (tgt := 57) hx hb d_M_isItemWithin_52 (by decide) (fun c8 => ?_) (fun c8 => ?_)
    · have h := if_t c8 h
      refine lv_aload_n hx hb d_M_isItemWithin_57 rfl (lv_at hl 1 rfl) ?_
      refine g_M_47 hx hb hts hown hK hP hwf hj0 (hts _ u_1788) d_M_isItemWithin_58 ?_
      refine me_opt (j := j3) e4 ?_
      refine lv_iload_n hx hb d_M_isItemWithin_61 rfl (lv_at hl 0 rfl) ?_
      refine me_bald hx hb hK hP hwf hj3 g5 d_M_isItemWithin_62 ?_
      refine lv_topi (fun w9 ew9 => ?_)
      by_cases n10 : w9 = 1
      · have h := if_t (ew9.symm.trans n10) h
        subst n10
        refine lv_tableIn (off := 45) (tgt := 108) hx hb d_M_isItemWithin_63 (by decide) (by decide) (by decide) (by decide) ?_
        refine lv_aload_n hx hb d_M_isItemWithin_108 rfl (lv_at hl 1 rfl) ?_
        refine lv_iload_n hx hb d_M_isItemWithin_109 rfl (lv_at hl 0 rfl) ?_
        refine lv_iload_n hx hb d_M_isItemWithin_110 rfl (lv_at hl 2 rfl) ?_
        obtain ⟨M11, r12, eM11, h⟩ := b2_ob h
        refine me_theni0 (M1 := M11) (me_runV (C := "FilterGuardModel") (As := [.int v2, .int x1]) (rest := []) ⟨hx, hb, hml, hown, hts⟩ (c_M_covers l D ad ca N M0 M11 r12 j0 v2 x1 eM11 hwf hj0 _) rfl (by show fg_nm y_M_covers 2; decide +kernel) u_2067 u_2069 u_97 u_192 u_2070 ⟨Nat.le_of_ble_eq_true rfl, Nat.le_of_ble_eq_true rfl⟩ hX hz hK hP hD hwf hS hA hj0 (by decide) rfl rfl rfl hl.1 (Nat.le_of_ble_eq_true rfl) d_M_isItemWithin_111 ⟨Nat.le_of_ble_eq_true rfl, Nat.le_of_ble_eq_true rfl⟩) hP hD hK hS hA rfl rfl (fun H locs hw hP hD hS => ?_)
        obtain ⟨hwf, hk9, zr12⟩ := hw
        have hkp := hkp.tr hk9
        exact me_retz (me_kp M0) h zr12 hx hb hr hlocks hwf hkp hP hK hD hS d_M_isItemWithin_114
      have h := if_f (fun z => n10 (ew9.trans z)) h
      by_cases n13 : w9 = 2
      · have h := if_t (ew9.symm.trans n13) h
        subst n13
        refine lv_tableIn (off := 224) (tgt := 287) hx hb d_M_isItemWithin_63 (by decide) (by decide) (by decide) (by decide) ?_
        refine lv_aload_n hx hb d_M_isItemWithin_287 rfl (lv_at hl 1 rfl) ?_
        refine g_M_48 hx hb hts hown hK hP hwf hj0 (hts _ u_1789) d_M_isItemWithin_288 ?_
        obtain ⟨j14, e15, h⟩ := bd_ob h
        have hj14 : j14 < N 13 := (hwf.2.1 1 j0 48 _ e15 (by decide) hj0)
        refine me_opt (j := j14) e15 ?_
        refine lv_iload_n hx hb d_M_isItemWithin_291 rfl (lv_at hl 2 rfl) ?_
        obtain ⟨g16, h⟩ := gd_ob h
        refine me_iald hx hb hK hP hwf hj14 g16 d_M_isItemWithin_292 ?_
        refine lv_aload_n hx hb d_M_isItemWithin_293 rfl (lv_at hl 1 rfl) ?_
        refine g_M_48 hx hb hts hown hK hP hwf hj0 (hts _ u_1789) d_M_isItemWithin_294 ?_
        refine me_opt (j := j14) e15 ?_
        refine lv_iload_n hx hb d_M_isItemWithin_297 rfl (lv_at hl 0 rfl) ?_
        obtain ⟨g17, h⟩ := gd_ob h
        refine me_iald hx hb hK hP hwf hj14 g17 d_M_isItemWithin_298 ?_
        refine lv_icmp_ne (tgt := 306) hx hb d_M_isItemWithin_299 (by decide) (fun c18 => ?_) (fun c18 => ?_)
        · have h := if_f c18 h
          refine lv_iconst (v := 0) hx hb d_M_isItemWithin_306 (by decide) ?_
          exact me_retz (me_kp M0) h (by decide) hx hb hr hlocks hwf hkp hP hK hD hS d_M_isItemWithin_307
        have h := if_t c18 h
        refine lv_iconst (v := 1) hx hb d_M_isItemWithin_302 (by decide) ?_
        refine lv_goto (tgt := 307) hx hb d_M_isItemWithin_303 (by decide) ?_
        exact me_retz (me_kp M0) h (by decide) hx hb hr hlocks hwf hkp hP hK hD hS d_M_isItemWithin_307
      have h := if_f (fun z => n13 (ew9.trans z)) h
      by_cases n19 : w9 = 3
      · have h := if_t (ew9.symm.trans n19) h
        subst n19
        refine lv_tableIn (off := 224) (tgt := 287) hx hb d_M_isItemWithin_63 (by decide) (by decide) (by decide) (by decide) ?_
        refine lv_aload_n hx hb d_M_isItemWithin_287 rfl (lv_at hl 1 rfl) ?_
        refine g_M_48 hx hb hts hown hK hP hwf hj0 (hts _ u_1789) d_M_isItemWithin_288 ?_
        obtain ⟨j20, e21, h⟩ := bd_ob h
        have hj20 : j20 < N 13 := (hwf.2.1 1 j0 48 _ e21 (by decide) hj0)
        refine me_opt (j := j20) e21 ?_
        refine lv_iload_n hx hb d_M_isItemWithin_291 rfl (lv_at hl 2 rfl) ?_
        obtain ⟨g22, h⟩ := gd_ob h
        refine me_iald hx hb hK hP hwf hj20 g22 d_M_isItemWithin_292 ?_
        refine lv_aload_n hx hb d_M_isItemWithin_293 rfl (lv_at hl 1 rfl) ?_
        refine g_M_48 hx hb hts hown hK hP hwf hj0 (hts _ u_1789) d_M_isItemWithin_294 ?_
        refine me_opt (j := j20) e21 ?_
        refine lv_iload_n hx hb d_M_isItemWithin_297 rfl (lv_at hl 0 rfl) ?_
        obtain ⟨g23, h⟩ := gd_ob h
        refine me_iald hx hb hK hP hwf hj20 g23 d_M_isItemWithin_298 ?_
        refine lv_icmp_ne (tgt := 306) hx hb d_M_isItemWithin_299 (by decide) (fun c24 => ?_) (fun c24 => ?_)
        · have h := if_f c24 h
          refine lv_iconst (v := 0) hx hb d_M_isItemWithin_306 (by decide) ?_
          exact me_retz (me_kp M0) h (by decide) hx hb hr hlocks hwf hkp hP hK hD hS d_M_isItemWithin_307
        have h := if_t c24 h
        refine lv_iconst (v := 1) hx hb d_M_isItemWithin_302 (by decide) ?_
        refine lv_goto (tgt := 307) hx hb d_M_isItemWithin_303 (by decide) ?_
        exact me_retz (me_kp M0) h (by decide) hx hb hr hlocks hwf hkp hP hK hD hS d_M_isItemWithin_307
      have h := if_f (fun z => n19 (ew9.trans z)) h
      by_cases n25 : w9 = 4
      · have h := if_t (ew9.symm.trans n25) h
        subst n25
        refine lv_tableIn (off := 115) (tgt := 178) hx hb d_M_isItemWithin_63 (by decide) (by decide) (by decide) (by decide) ?_
        refine lv_aload_n hx hb d_M_isItemWithin_178 rfl (lv_at hl 1 rfl) ?_
        refine g_M_48 hx hb hts hown hK hP hwf hj0 (hts _ u_1789) d_M_isItemWithin_179 ?_
        obtain ⟨j26, e27, h⟩ := bd_ob h
        have hj26 : j26 < N 13 := (hwf.2.1 1 j0 48 _ e27 (by decide) hj0)
        refine me_opt (j := j26) e27 ?_
        refine lv_iload_n hx hb d_M_isItemWithin_182 rfl (lv_at hl 2 rfl) ?_
        obtain ⟨g28, h⟩ := gd_ob h
        refine me_iald hx hb hK hP hwf hj26 g28 d_M_isItemWithin_183 ?_
        refine lv_aload_n hx hb d_M_isItemWithin_184 rfl (lv_at hl 1 rfl) ?_
        refine g_M_48 hx hb hts hown hK hP hwf hj0 (hts _ u_1789) d_M_isItemWithin_185 ?_
        refine me_opt (j := j26) e27 ?_
        refine lv_iload_n hx hb d_M_isItemWithin_188 rfl (lv_at hl 0 rfl) ?_
        obtain ⟨g29, h⟩ := gd_ob h
        refine me_iald hx hb hK hP hwf hj26 g29 d_M_isItemWithin_189 ?_
        refine lv_icmp_ne (tgt := 240) hx hb d_M_isItemWithin_190 (by decide) (fun c30 => ?_) (fun c30 => ?_)
        · have h := if_f c30 h
          refine lv_iconst (v := 0) hx hb d_M_isItemWithin_240 (by decide) ?_
          exact me_retz (me_kp M0) h (by decide) hx hb hr hlocks hwf hkp hP hK hD hS d_M_isItemWithin_241
        have h := if_t c30 h
        refine lv_aload_n hx hb d_M_isItemWithin_193 rfl (lv_at hl 1 rfl) ?_
        refine lv_iload_n hx hb d_M_isItemWithin_194 rfl (lv_at hl 0 rfl) ?_
        refine lv_iload_n hx hb d_M_isItemWithin_195 rfl (lv_at hl 2 rfl) ?_
        obtain ⟨M31, r32, eM31, h⟩ := b2_ob h
        refine me_theni0 (M1 := M31) (me_runV (C := "FilterGuardModel") (As := [.int v2, .int x1]) (rest := []) ⟨hx, hb, hml, hown, hts⟩ (c_M_covers l D ad ca N M0 M31 r32 j0 v2 x1 eM31 hwf hj0 _) rfl (by show fg_nm y_M_covers 2; decide +kernel) u_2067 u_2069 u_97 u_192 u_2070 ⟨Nat.le_of_ble_eq_true rfl, Nat.le_of_ble_eq_true rfl⟩ hX hz hK hP hD hwf hS hA hj0 (by decide) rfl rfl rfl hl.1 (Nat.le_of_ble_eq_true rfl) d_M_isItemWithin_196 ⟨Nat.le_of_ble_eq_true rfl, Nat.le_of_ble_eq_true rfl⟩) hP hD hK hS hA rfl rfl (fun H locs hw hP hD hS => ?_)
        obtain ⟨hwf, hk9, zr32⟩ := hw
        have hkp := hkp.tr hk9
        refine lv_if_eq (tgt := 240) hx hb d_M_isItemWithin_199 (by decide) (fun c33 => ?_) (fun c33 => ?_)
        · have h := if_t c33 h
          refine lv_iconst (v := 0) hx hb d_M_isItemWithin_240 (by decide) ?_
          exact me_retz (me_kp M0) h (by decide) hx hb hr hlocks hwf hkp hP hK hD hS d_M_isItemWithin_241
        have h := if_f c33 h
        refine lv_aload_n hx hb d_M_isItemWithin_202 rfl (lv_at hl 1 rfl) ?_
        refine g_M_51 hx hb hts hown hK hP hwf hj0 (hts _ u_1792) d_M_isItemWithin_203 ?_
        obtain ⟨j34, e35, h⟩ := bd_ob h
        have hj34 : j34 < N 13 := (hwf.2.1 1 j0 51 _ (kp_r hkb hkp e35) (by decide) hj0)
        refine me_opt (j := j34) (kp_r hkb hkp e35) ?_
        refine lv_iload_n hx hb d_M_isItemWithin_206 rfl (lv_at hl 2 rfl) ?_
        obtain ⟨g36, h⟩ := gd_ob h
        refine me_iald hx hb hK hP hwf hj34 (kp_z hkb.z hkp.z g36) d_M_isItemWithin_207 ?_
        refine lv_aload_n hx hb d_M_isItemWithin_208 rfl (lv_at hl 1 rfl) ?_
        refine g_M_51 hx hb hts hown hK hP hwf hj0 (hts _ u_1792) d_M_isItemWithin_209 ?_
        refine me_opt (j := j34) (kp_r hkb hkp e35) ?_
        refine lv_iload_n hx hb d_M_isItemWithin_212 rfl (lv_at hl 0 rfl) ?_
        obtain ⟨g37, h⟩ := gd_ob h
        refine me_iald hx hb hK hP hwf hj34 (kp_z hkb.z hkp.z g37) d_M_isItemWithin_213 ?_
        refine lv_icmp_lt (tgt := 240) hx hb d_M_isItemWithin_214 (by decide) (fun c38 => ?_) (fun c38 => ?_)
        · have h := if_t c38 h
          refine lv_iconst (v := 0) hx hb d_M_isItemWithin_240 (by decide) ?_
          exact me_retz (me_kp M0) h (by decide) hx hb hr hlocks hwf hkp hP hK hD hS d_M_isItemWithin_241
        have h := if_f c38 h
        refine lv_aload_n hx hb d_M_isItemWithin_217 rfl (lv_at hl 1 rfl) ?_
        refine lv_aload_n hx hb d_M_isItemWithin_218 rfl (lv_at hl 1 rfl) ?_
        refine g_M_50 hx hb hts hown hK hP hwf hj0 (hts _ u_1791) d_M_isItemWithin_219 ?_
        obtain ⟨j39, e40, h⟩ := bd_ob h
        have hj39 : j39 < N 13 := (hwf.2.1 1 j0 50 _ (kp_r hkb hkp e40) (by decide) hj0)
        refine me_opt (j := j39) (kp_r hkb hkp e40) ?_
        refine lv_iload_n hx hb d_M_isItemWithin_222 rfl (lv_at hl 0 rfl) ?_
        obtain ⟨g41, h⟩ := gd_ob h
        refine me_iald hx hb hK hP hwf hj39 (kp_z hkb.z hkp.z g41) d_M_isItemWithin_223 ?_
        refine lv_aload_n hx hb d_M_isItemWithin_224 rfl (lv_at hl 1 rfl) ?_
        refine g_M_50 hx hb hts hown hK hP hwf hj0 (hts _ u_1791) d_M_isItemWithin_225 ?_
        refine me_opt (j := j39) (kp_r hkb hkp e40) ?_
        refine lv_iload_n hx hb d_M_isItemWithin_228 rfl (lv_at hl 2 rfl) ?_
        obtain ⟨g42, h⟩ := gd_ob h
        refine me_iald hx hb hK hP hwf hj39 (kp_z hkb.z hkp.z g42) d_M_isItemWithin_229 ?_
        obtain ⟨M43, r44, eM43, h⟩ := b2_ob h
        refine me_theni0 (M1 := M43) (me_runV (C := "FilterGuardModel") (As := [.int (mI M31 13 j39 v2.toNatClampNeg), .int (mI M31 13 j39 x1.toNatClampNeg)]) (rest := []) ⟨hx, hb, hml, hown, hts⟩ (c_M_pairs l D ad ca N M31 M43 r44 j0 (mI M31 13 j39 v2.toNatClampNeg) (mI M31 13 j39 x1.toNatClampNeg) eM43 hwf hj0 _) rfl (by show fg_nm y_M_pairs 2; decide +kernel) u_2076 u_2078 u_98 u_192 u_2079 ⟨Nat.le_of_ble_eq_true rfl, Nat.le_of_ble_eq_true rfl⟩ hX hz hK hP hD hwf hS hA hj0 (by decide) rfl rfl rfl hl.1 (Nat.le_of_ble_eq_true rfl) d_M_isItemWithin_230 ⟨Nat.le_of_ble_eq_true rfl, Nat.le_of_ble_eq_true rfl⟩) hP hD hK hS hA rfl rfl (fun H locs hw hP hD hS => ?_)
        obtain ⟨hwf, hk9, zr44⟩ := hw
        have hkp := hkp.tr hk9
        refine lv_if_eq (tgt := 240) hx hb d_M_isItemWithin_233 (by decide) (fun c45 => ?_) (fun c45 => ?_)
        · have h := if_t c45 h
          refine lv_iconst (v := 0) hx hb d_M_isItemWithin_240 (by decide) ?_
          exact me_retz (me_kp M0) h (by decide) hx hb hr hlocks hwf hkp hP hK hD hS d_M_isItemWithin_241
        have h := if_f c45 h
        refine lv_iconst (v := 1) hx hb d_M_isItemWithin_236 (by decide) ?_
        refine lv_goto (tgt := 241) hx hb d_M_isItemWithin_237 (by decide) ?_
        exact me_retz (me_kp M0) h (by decide) hx hb hr hlocks hwf hkp hP hK hD hS d_M_isItemWithin_241
      have h := if_f (fun z => n25 (ew9.trans z)) h
      by_cases n46 : w9 = 5
      · have h := if_t (ew9.symm.trans n46) h
        subst n46
        refine lv_tableIn (off := 52) (tgt := 115) hx hb d_M_isItemWithin_63 (by decide) (by decide) (by decide) (by decide) ?_
        refine lv_iconst (v := 1) hx hb d_M_isItemWithin_115 (by decide) ?_
        exact me_retz (me_kp M0) h (by decide) hx hb hr hlocks hwf hkp hP hK hD hS d_M_isItemWithin_116
      have h := if_f (fun z => n46 (ew9.trans z)) h
      by_cases n47 : w9 = 6
      · have h := if_t (ew9.symm.trans n47) h
        subst n47
        refine lv_tableIn (off := 54) (tgt := 117) hx hb d_M_isItemWithin_63 (by decide) (by decide) (by decide) (by decide) ?_
        refine lv_aload_n hx hb d_M_isItemWithin_117 rfl (lv_at hl 1 rfl) ?_
        refine g_M_49 hx hb hts hown hK hP hwf hj0 (hts _ u_1790) d_M_isItemWithin_118 ?_
        obtain ⟨j48, e49, h⟩ := bd_ob h
        have hj48 : j48 < N 13 := (hwf.2.1 1 j0 49 _ e49 (by decide) hj0)
        refine me_opt (j := j48) e49 ?_
        refine lv_iload_n hx hb d_M_isItemWithin_121 rfl (lv_at hl 2 rfl) ?_
        obtain ⟨g50, h⟩ := gd_ob h
        refine me_iald hx hb hK hP hwf hj48 g50 d_M_isItemWithin_122 ?_
        refine lv_aload_n hx hb d_M_isItemWithin_123 rfl (lv_at hl 1 rfl) ?_
        refine g_M_49 hx hb hts hown hK hP hwf hj0 (hts _ u_1790) d_M_isItemWithin_124 ?_
        refine me_opt (j := j48) e49 ?_
        refine lv_iload_n hx hb d_M_isItemWithin_127 rfl (lv_at hl 0 rfl) ?_
        obtain ⟨g51, h⟩ := gd_ob h
        refine me_iald hx hb hK hP hwf hj48 g51 d_M_isItemWithin_128 ?_
        refine lv_icmp_ne (tgt := 136) hx hb d_M_isItemWithin_129 (by decide) (fun c52 => ?_) (fun c52 => ?_)
        · have h := if_f c52 h
          refine lv_iconst (v := 0) hx hb d_M_isItemWithin_136 (by decide) ?_
          exact me_retz (me_kp M0) h (by decide) hx hb hr hlocks hwf hkp hP hK hD hS d_M_isItemWithin_137
        have h := if_t c52 h
        refine lv_iconst (v := 1) hx hb d_M_isItemWithin_132 (by decide) ?_
        refine lv_goto (tgt := 137) hx hb d_M_isItemWithin_133 (by decide) ?_
        exact me_retz (me_kp M0) h (by decide) hx hb hr hlocks hwf hkp hP hK hD hS d_M_isItemWithin_137
      have h := if_f (fun z => n47 (ew9.trans z)) h
      by_cases n53 : w9 = 7
      · have h := if_t (ew9.symm.trans n53) h
        subst n53
        refine lv_tableIn (off := 179) (tgt := 242) hx hb d_M_isItemWithin_63 (by decide) (by decide) (by decide) (by decide) ?_
        refine lv_aload_n hx hb d_M_isItemWithin_242 rfl (lv_at hl 1 rfl) ?_
        refine g_M_48 hx hb hts hown hK hP hwf hj0 (hts _ u_1789) d_M_isItemWithin_243 ?_
        obtain ⟨j54, e55, h⟩ := bd_ob h
        have hj54 : j54 < N 13 := (hwf.2.1 1 j0 48 _ e55 (by decide) hj0)
        refine me_opt (j := j54) e55 ?_
        refine lv_iload_n hx hb d_M_isItemWithin_246 rfl (lv_at hl 2 rfl) ?_
        obtain ⟨g56, h⟩ := gd_ob h
        refine me_iald hx hb hK hP hwf hj54 g56 d_M_isItemWithin_247 ?_
        refine lv_aload_n hx hb d_M_isItemWithin_248 rfl (lv_at hl 1 rfl) ?_
        refine g_M_48 hx hb hts hown hK hP hwf hj0 (hts _ u_1789) d_M_isItemWithin_249 ?_
        refine me_opt (j := j54) e55 ?_
        refine lv_iload_n hx hb d_M_isItemWithin_252 rfl (lv_at hl 0 rfl) ?_
        obtain ⟨g57, h⟩ := gd_ob h
        refine me_iald hx hb hK hP hwf hj54 g57 d_M_isItemWithin_253 ?_
        refine lv_icmp_ne (tgt := 285) hx hb d_M_isItemWithin_254 (by decide) (fun c58 => ?_) (fun c58 => ?_)
        · have h := if_f c58 h
          refine lv_iconst (v := 0) hx hb d_M_isItemWithin_285 (by decide) ?_
          exact me_retz (me_kp M0) h (by decide) hx hb hr hlocks hwf hkp hP hK hD hS d_M_isItemWithin_286
        have h := if_t c58 h
        refine lv_aload_n hx hb d_M_isItemWithin_257 rfl (lv_at hl 1 rfl) ?_
        refine g_M_49 hx hb hts hown hK hP hwf hj0 (hts _ u_1790) d_M_isItemWithin_258 ?_
        obtain ⟨j59, e60, h⟩ := bd_ob h
        have hj59 : j59 < N 13 := (hwf.2.1 1 j0 49 _ e60 (by decide) hj0)
        refine me_opt (j := j59) e60 ?_
        refine lv_iload_n hx hb d_M_isItemWithin_261 rfl (lv_at hl 2 rfl) ?_
        obtain ⟨g61, h⟩ := gd_ob h
        refine me_iald hx hb hK hP hwf hj59 g61 d_M_isItemWithin_262 ?_
        refine lv_aload_n hx hb d_M_isItemWithin_263 rfl (lv_at hl 1 rfl) ?_
        refine g_M_49 hx hb hts hown hK hP hwf hj0 (hts _ u_1790) d_M_isItemWithin_264 ?_
        refine me_opt (j := j59) e60 ?_
        refine lv_iload_n hx hb d_M_isItemWithin_267 rfl (lv_at hl 0 rfl) ?_
        obtain ⟨g62, h⟩ := gd_ob h
        refine me_iald hx hb hK hP hwf hj59 g62 d_M_isItemWithin_268 ?_
        refine lv_icmp_ne (tgt := 285) hx hb d_M_isItemWithin_269 (by decide) (fun c63 => ?_) (fun c63 => ?_)
        · have h := if_f c63 h
          refine lv_iconst (v := 0) hx hb d_M_isItemWithin_285 (by decide) ?_
          exact me_retz (me_kp M0) h (by decide) hx hb hr hlocks hwf hkp hP hK hD hS d_M_isItemWithin_286
        have h := if_t c63 h
        refine lv_aload_n hx hb d_M_isItemWithin_272 rfl (lv_at hl 1 rfl) ?_
        refine lv_iload_n hx hb d_M_isItemWithin_273 rfl (lv_at hl 0 rfl) ?_
        refine lv_iload_n hx hb d_M_isItemWithin_274 rfl (lv_at hl 2 rfl) ?_
        obtain ⟨M64, r65, eM64, h⟩ := b2_ob h
        refine me_theni0 (M1 := M64) (me_runV (C := "FilterGuardModel") (As := [.int v2, .int x1]) (rest := []) ⟨hx, hb, hml, hown, hts⟩ (c_M_covers l D ad ca N M0 M64 r65 j0 v2 x1 eM64 hwf hj0 _) rfl (by show fg_nm y_M_covers 2; decide +kernel) u_2067 u_2069 u_97 u_192 u_2070 ⟨Nat.le_of_ble_eq_true rfl, Nat.le_of_ble_eq_true rfl⟩ hX hz hK hP hD hwf hS hA hj0 (by decide) rfl rfl rfl hl.1 (Nat.le_of_ble_eq_true rfl) d_M_isItemWithin_275 ⟨Nat.le_of_ble_eq_true rfl, Nat.le_of_ble_eq_true rfl⟩) hP hD hK hS hA rfl rfl (fun H locs hw hP hD hS => ?_)
        obtain ⟨hwf, hk9, zr65⟩ := hw
        have hkp := hkp.tr hk9
        refine lv_if_eq (tgt := 285) hx hb d_M_isItemWithin_278 (by decide) (fun c66 => ?_) (fun c66 => ?_)
        · have h := if_t c66 h
          refine lv_iconst (v := 0) hx hb d_M_isItemWithin_285 (by decide) ?_
          exact me_retz (me_kp M0) h (by decide) hx hb hr hlocks hwf hkp hP hK hD hS d_M_isItemWithin_286
        have h := if_f c66 h
        refine lv_iconst (v := 1) hx hb d_M_isItemWithin_281 (by decide) ?_
        refine lv_goto (tgt := 286) hx hb d_M_isItemWithin_282 (by decide) ?_
        exact me_retz (me_kp M0) h (by decide) hx hb hr hlocks hwf hkp hP hK hD hS d_M_isItemWithin_286
      have h := if_f (fun z => n53 (ew9.trans z)) h
      by_cases n67 : w9 = 8
      · have h := if_t (ew9.symm.trans n67) h
        subst n67
        refine lv_tableIn (off := 75) (tgt := 138) hx hb d_M_isItemWithin_63 (by decide) (by decide) (by decide) (by decide) ?_
        refine lv_aload_n hx hb d_M_isItemWithin_138 rfl (lv_at hl 1 rfl) ?_
        refine g_M_49 hx hb hts hown hK hP hwf hj0 (hts _ u_1790) d_M_isItemWithin_139 ?_
        obtain ⟨j68, e69, h⟩ := bd_ob h
        have hj68 : j68 < N 13 := (hwf.2.1 1 j0 49 _ e69 (by decide) hj0)
        refine me_opt (j := j68) e69 ?_
        refine lv_iload_n hx hb d_M_isItemWithin_142 rfl (lv_at hl 2 rfl) ?_
        obtain ⟨g70, h⟩ := gd_ob h
        refine me_iald hx hb hK hP hwf hj68 g70 d_M_isItemWithin_143 ?_
        refine lv_aload_n hx hb d_M_isItemWithin_144 rfl (lv_at hl 1 rfl) ?_
        refine g_M_49 hx hb hts hown hK hP hwf hj0 (hts _ u_1790) d_M_isItemWithin_145 ?_
        refine me_opt (j := j68) e69 ?_
        refine lv_iload_n hx hb d_M_isItemWithin_148 rfl (lv_at hl 0 rfl) ?_
        obtain ⟨g71, h⟩ := gd_ob h
        refine me_iald hx hb hK hP hwf hj68 g71 d_M_isItemWithin_149 ?_
        refine lv_icmp_ne (tgt := 176) hx hb d_M_isItemWithin_150 (by decide) (fun c72 => ?_) (fun c72 => ?_)
        · have h := if_f c72 h
          refine lv_iconst (v := 0) hx hb d_M_isItemWithin_176 (by decide) ?_
          exact me_retz (me_kp M0) h (by decide) hx hb hr hlocks hwf hkp hP hK hD hS d_M_isItemWithin_177
        have h := if_t c72 h
        refine lv_aload_n hx hb d_M_isItemWithin_153 rfl (lv_at hl 1 rfl) ?_
        refine lv_aload_n hx hb d_M_isItemWithin_154 rfl (lv_at hl 1 rfl) ?_
        refine g_M_50 hx hb hts hown hK hP hwf hj0 (hts _ u_1791) d_M_isItemWithin_155 ?_
        obtain ⟨j73, e74, h⟩ := bd_ob h
        have hj73 : j73 < N 13 := (hwf.2.1 1 j0 50 _ e74 (by decide) hj0)
        refine me_opt (j := j73) e74 ?_
        refine lv_iload_n hx hb d_M_isItemWithin_158 rfl (lv_at hl 0 rfl) ?_
        obtain ⟨g75, h⟩ := gd_ob h
        refine me_iald hx hb hK hP hwf hj73 g75 d_M_isItemWithin_159 ?_
        refine lv_aload_n hx hb d_M_isItemWithin_160 rfl (lv_at hl 1 rfl) ?_
        refine g_M_50 hx hb hts hown hK hP hwf hj0 (hts _ u_1791) d_M_isItemWithin_161 ?_
        refine me_opt (j := j73) e74 ?_
        refine lv_iload_n hx hb d_M_isItemWithin_164 rfl (lv_at hl 2 rfl) ?_
        obtain ⟨g76, h⟩ := gd_ob h
        refine me_iald hx hb hK hP hwf hj73 g76 d_M_isItemWithin_165 ?_
        obtain ⟨M77, r78, eM77, h⟩ := b2_ob h
        refine me_theni0 (M1 := M77) (me_runV (C := "FilterGuardModel") (As := [.int (mI M0 13 j73 v2.toNatClampNeg), .int (mI M0 13 j73 x1.toNatClampNeg)]) (rest := []) ⟨hx, hb, hml, hown, hts⟩ (c_M_pairs l D ad ca N M0 M77 r78 j0 (mI M0 13 j73 v2.toNatClampNeg) (mI M0 13 j73 x1.toNatClampNeg) eM77 hwf hj0 _) rfl (by show fg_nm y_M_pairs 2; decide +kernel) u_2076 u_2078 u_98 u_192 u_2079 ⟨Nat.le_of_ble_eq_true rfl, Nat.le_of_ble_eq_true rfl⟩ hX hz hK hP hD hwf hS hA hj0 (by decide) rfl rfl rfl hl.1 (Nat.le_of_ble_eq_true rfl) d_M_isItemWithin_166 ⟨Nat.le_of_ble_eq_true rfl, Nat.le_of_ble_eq_true rfl⟩) hP hD hK hS hA rfl rfl (fun H locs hw hP hD hS => ?_)
        obtain ⟨hwf, hk9, zr78⟩ := hw
        have hkp := hkp.tr hk9
        refine lv_if_eq (tgt := 176) hx hb d_M_isItemWithin_169 (by decide) (fun c79 => ?_) (fun c79 => ?_)
        · have h := if_t c79 h
          refine lv_iconst (v := 0) hx hb d_M_isItemWithin_176 (by decide) ?_
          exact me_retz (me_kp M0) h (by decide) hx hb hr hlocks hwf hkp hP hK hD hS d_M_isItemWithin_177
        have h := if_f c79 h
        refine lv_iconst (v := 1) hx hb d_M_isItemWithin_172 (by decide) ?_
        refine lv_goto (tgt := 177) hx hb d_M_isItemWithin_173 (by decide) ?_
        exact me_retz (me_kp M0) h (by decide) hx hb hr hlocks hwf hkp hP hK hD hS d_M_isItemWithin_177
      have h := if_f (fun z => n67 (ew9.trans z)) h
      have in10 := lv_neT n10 (show (1 : Int32).toInt = 1 from rfl)
      have in13 := lv_neT n13 (show (2 : Int32).toInt = 2 from rfl)
      have in19 := lv_neT n19 (show (3 : Int32).toInt = 3 from rfl)
      have in25 := lv_neT n25 (show (4 : Int32).toInt = 4 from rfl)
      have in46 := lv_neT n46 (show (5 : Int32).toInt = 5 from rfl)
      have in47 := lv_neT n47 (show (6 : Int32).toInt = 6 from rfl)
      have in53 := lv_neT n53 (show (7 : Int32).toInt = 7 from rfl)
      have in67 := lv_neT n67 (show (8 : Int32).toInt = 8 from rfl)
      refine lv_tableOut (tgt := 287) hx hb d_M_isItemWithin_63 (by omega) (by decide) ?_
      refine lv_aload_n hx hb d_M_isItemWithin_287 rfl (lv_at hl 1 rfl) ?_
      refine g_M_48 hx hb hts hown hK hP hwf hj0 (hts _ u_1789) d_M_isItemWithin_288 ?_
      obtain ⟨j80, e81, h⟩ := bd_ob h
      have hj80 : j80 < N 13 := (hwf.2.1 1 j0 48 _ e81 (by decide) hj0)
      refine me_opt (j := j80) e81 ?_
      refine lv_iload_n hx hb d_M_isItemWithin_291 rfl (lv_at hl 2 rfl) ?_
      obtain ⟨g82, h⟩ := gd_ob h
      refine me_iald hx hb hK hP hwf hj80 g82 d_M_isItemWithin_292 ?_
      refine lv_aload_n hx hb d_M_isItemWithin_293 rfl (lv_at hl 1 rfl) ?_
      refine g_M_48 hx hb hts hown hK hP hwf hj0 (hts _ u_1789) d_M_isItemWithin_294 ?_
      refine me_opt (j := j80) e81 ?_
      refine lv_iload_n hx hb d_M_isItemWithin_297 rfl (lv_at hl 0 rfl) ?_
      obtain ⟨g83, h⟩ := gd_ob h
      refine me_iald hx hb hK hP hwf hj80 g83 d_M_isItemWithin_298 ?_
      refine lv_icmp_ne (tgt := 306) hx hb d_M_isItemWithin_299 (by decide) (fun c84 => ?_) (fun c84 => ?_)
      · have h := if_f c84 h
        refine lv_iconst (v := 0) hx hb d_M_isItemWithin_306 (by decide) ?_
        exact me_retz (me_kp M0) h (by decide) hx hb hr hlocks hwf hkp hP hK hD hS d_M_isItemWithin_307
      have h := if_t c84 h
      refine lv_iconst (v := 1) hx hb d_M_isItemWithin_302 (by decide) ?_
      refine lv_goto (tgt := 307) hx hb d_M_isItemWithin_303 (by decide) ?_
      exact me_retz (me_kp M0) h (by decide) hx hb hr hlocks hwf hkp hP hK hD hS d_M_isItemWithin_307
    have h := if_f c8 h
    refine lv_iconst (v := 0) hx hb d_M_isItemWithin_55 (by decide) ?_
    exact me_retz (me_kp M0) h (by decide) hx hb hr hlocks hwf hkp hP hK hD hS d_M_isItemWithin_56
  have h := if_t c6 h
  refine lv_iload_n hx hb d_M_isItemWithin_16 rfl (lv_at hl 2 rfl) ?_
  refine lv_bipush (v := 11) hx hb d_M_isItemWithin_17 (by decide) ?_
  refine lv_icmp_lt (tgt := 34) hx hb d_M_isItemWithin_19 (by decide) (fun c85 => ?_) (fun c85 => ?_)
  · have h := if_t c85 h
    refine lv_iconst (v := 1) hx hb d_M_isItemWithin_34 (by decide) ?_
    refine lv_goto (tgt := 39) hx hb d_M_isItemWithin_35 (by decide) ?_
    exact me_retz (me_kp M0) h (by decide) hx hb hr hlocks hwf hkp hP hK hD hS d_M_isItemWithin_39
  have h := if_f c85 h
  refine lv_aload_n hx hb d_M_isItemWithin_22 rfl (lv_at hl 1 rfl) ?_
  refine lv_iload_n hx hb d_M_isItemWithin_23 rfl (lv_at hl 2 rfl) ?_
  refine lv_bipush (v := 11) hx hb d_M_isItemWithin_24 (by decide) ?_
  refine lv_isub hx hb d_M_isItemWithin_26 ?_
  refine lv_iload_n hx hb d_M_isItemWithin_27 rfl (lv_at hl 3 rfl) ?_
  obtain ⟨M86, r87, eM86, h⟩ := b2_ob h
  refine me_theni0 (M1 := M86) (me_runV (C := "FilterGuardModel") (As := [.int (x1 - 11), .int x2]) (rest := []) ⟨hx, hb, hml, hown, hts⟩ (c_M_areBytesWithin l D ad ca N M0 M86 r87 j0 (x1 - 11) x2 eM86 hwf hj0 _) rfl (by show fg_nm y_M_areBytesWithin 2; decide +kernel) u_2063 u_2065 u_96 u_192 u_2066 ⟨Nat.le_of_ble_eq_true rfl, Nat.le_of_ble_eq_true rfl⟩ hX hz hK hP hD hwf hS hA hj0 (by decide) rfl rfl rfl hl.1 (Nat.le_of_ble_eq_true rfl) d_M_isItemWithin_28 ⟨Nat.le_of_ble_eq_true rfl, Nat.le_of_ble_eq_true rfl⟩) hP hD hK hS hA rfl rfl (fun H locs hw hP hD hS => ?_)
  obtain ⟨hwf, hk9, zr87⟩ := hw
  have hkp := hkp.tr hk9
  refine lv_if_eq (tgt := 38) hx hb d_M_isItemWithin_31 (by decide) (fun c88 => ?_) (fun c88 => ?_)
  · have h := if_t c88 h
    refine lv_iconst (v := 0) hx hb d_M_isItemWithin_38 (by decide) ?_
    exact me_retz (me_kp M0) h (by decide) hx hb hr hlocks hwf hkp hP hK hD hS d_M_isItemWithin_39
  have h := if_f c88 h
  refine lv_iconst (v := 1) hx hb d_M_isItemWithin_34 (by decide) ?_
  refine lv_goto (tgt := 39) hx hb d_M_isItemWithin_35 (by decide) ?_
  exact me_retz (me_kp M0) h (by decide) hx hb hr hlocks hwf hkp hP hK hD hS d_M_isItemWithin_39
