theorem d_Cell_isZero_0 : decode prog_2_method_9_code 0 = .ok (.aload_n 0, 1) := by decide +kernel
theorem d_Cell_isZero_1 : decode prog_2_method_9_code 1 = .ok (.getfield 18, 3) := by decide +kernel
theorem d_Cell_isZero_4 : decode prog_2_method_9_code 4 = .ok (.iconst 1, 1) := by decide +kernel
theorem d_Cell_isZero_5 : decode prog_2_method_9_code 5 = .ok (.if_icmp .ne 18, 3) := by decide +kernel
theorem d_Cell_isZero_23 : decode prog_2_method_9_code 23 = .ok (.iconst 0, 1) := by decide +kernel
theorem d_Cell_isZero_24 : decode prog_2_method_9_code 24 = .ok (.ireturn, 1) := by decide +kernel
theorem d_Cell_isZero_8 : decode prog_2_method_9_code 8 = .ok (.aload_n 0, 1) := by decide +kernel
theorem d_Cell_isZero_9 : decode prog_2_method_9_code 9 = .ok (.getfield 12, 3) := by decide +kernel
theorem d_Cell_isZero_12 : decode prog_2_method_9_code 12 = .ok (.lconst 0, 1) := by decide +kernel
theorem d_Cell_isZero_13 : decode prog_2_method_9_code 13 = .ok (.invokevirtual 56, 3) := by decide +kernel
theorem u_1329 : Cond.methodLink "FilterGuard$Cell" 56 ⟨"FilterGuard$Num", "isExact", "(J)Z"⟩ ∈ fg_g := fg_in (List.mem_of_getElem? (i := 1329) (by decide +kernel)) rfl
theorem d_Cell_isZero_16 : decode prog_2_method_9_code 16 = .ok (.ifCond .eq 7, 3) := by decide +kernel
theorem d_Cell_isZero_19 : decode prog_2_method_9_code 19 = .ok (.iconst 1, 1) := by decide +kernel
theorem d_Cell_isZero_20 : decode prog_2_method_9_code 20 = .ok (.goto 4, 3) := by decide +kernel
abbrev y_Cell_isZero : MethodName := ⟨"FilterGuard$Cell", "isZero", "()Z"⟩
def rm_Cell_isZero : Room := { frames := 2, cells := 0, slots := 0, locals := 42 }
abbrev q_Cell_isZero (D : va_G) (ad : Nat → Nat → Nat) (ca : Nat → ClassId) (N : Nat → Nat) (M0 MZ : me_M) (RZ : Int32) (A : Nat → Prop) : Array Value → Jvm.State → Outcome → Jvm.State → Prop := va_Qi (fun r (_ : Unit) => r = RZ ∧ me_wf N MZ ∧ me_kp M0 MZ ∧ (RZ = 1 ∨ RZ = 0)) (fg_B D A (fun _ => me_W ad ca MZ) (fun _ => [])) A
set_option maxHeartbeats 4000000 in
set_option maxRecDepth 100000 in
theorem c_Cell_isZero (l : Launch) (D : va_G) (ad : Nat → Nat → Nat) (ca : Nat → ClassId) (N : Nat → Nat) (M0 MZ : me_M) (RZ : Int32) (j0 : Nat) (h : f_Cell_isZero M0 j0 = (some (MZ, RZ))) (hwf : me_wf N M0) (hj0 : j0 < N 10) (sz : Nat) : Met l y_Cell_isZero (fg_w y_Cell_isZero prog_2_method_9_code 1 (some .boolean)) rm_Cell_isZero (va_Pc [.ref (ad 10 j0)] (fz_P D (me_T ca) (me_W ad ca M0) sz)) (q_Cell_isZero D ad ca N M0 MZ RZ (va_A (me_W ad ca M0) sz)) rm_Cell_isZero.cells rm_Cell_isZero.slots (va_A (me_W ad ca M0) sz) := by
  refine fz_enter (fun A => q_Cell_isZero D ad ca N M0 MZ RZ A) (by decide +kernel) (Nat.le_of_ble_eq_true rfl) ?_
  intro p e s m below meth c ls A hx hb hml hown hts hr hlocks hin hP hK hD hS hA hX hl hz
  have hl : lv_has ls 1 [(0, .ref (ad 10 j0))] := hl
  unfold f_Cell_isZero at h
  have hkp : me_kp M0 M0 := me_kp.rf
  have hkb := hkp
  refine lv_aload_n hx hb d_Cell_isZero_0 rfl (lv_at hl 0 rfl) ?_
  refine g_Cell_0 hx hb hts hown hK hP hwf hj0 (hts _ u_420) d_Cell_isZero_1 ?_
  refine lv_iconst (v := 1) hx hb d_Cell_isZero_4 (by decide) ?_
  refine lv_icmp_ne (tgt := 23) hx hb d_Cell_isZero_5 (by decide) (fun c1 => ?_) (fun c1 => ?_)
  · have h := if_f c1 h
    refine lv_iconst (v := 0) hx hb d_Cell_isZero_23 (by decide) ?_
    exact me_retz (me_kp M0) h (by decide) hx hb hr hlocks hwf hkp hP hK hD hS d_Cell_isZero_24
  have h := if_t c1 h
  refine lv_aload_n hx hb d_Cell_isZero_8 rfl (lv_at hl 0 rfl) ?_
  refine g_Cell_6 hx hb hts hown hK hP hwf hj0 (hts _ u_435) d_Cell_isZero_9 ?_
  obtain ⟨j2, e3, h⟩ := bd_ob h
  have hj2 : j2 < N 11 := (hwf.2.1 10 j0 6 _ e3 (by decide) hj0)
  refine me_opt (j := j2) e3 ?_
  refine lv_lconst (v := 0) hx hb d_Cell_isZero_12 (by decide) ?_
  obtain ⟨M4, r5, eM4, h⟩ := b2_ob h
  refine me_theni0 (M1 := M4) (me_runV (C := "FilterGuard$Num") (As := [.long 0]) (rest := []) ⟨hx, hb, hml, hown, hts⟩ (c_Num_isExact1 l D ad ca N M0 M4 r5 j2 (0 : Int64) eM4 hwf hj2 _) rfl (by show fg_nm y_Num_isExact1 1; decide +kernel) u_1329 u_1208 u_1209 u_187 u_1210 ⟨Nat.le_of_ble_eq_true rfl, Nat.le_of_ble_eq_true rfl⟩ hX hz hK hP hD hwf hS hA hj2 (by decide) rfl rfl rfl hl.1 (Nat.le_of_ble_eq_true rfl) d_Cell_isZero_13 ⟨Nat.le_of_ble_eq_true rfl, Nat.le_of_ble_eq_true rfl⟩) hP hD hK hS hA rfl rfl (fun H locs hw hP hD hS => ?_)
  obtain ⟨hwf, hk9, zr5⟩ := hw
  have hkp := hkp.tr hk9
  refine lv_if_eq (tgt := 23) hx hb d_Cell_isZero_16 (by decide) (fun c6 => ?_) (fun c6 => ?_)
  · have h := if_t c6 h
    refine lv_iconst (v := 0) hx hb d_Cell_isZero_23 (by decide) ?_
    exact me_retz (me_kp M0) h (by decide) hx hb hr hlocks hwf hkp hP hK hD hS d_Cell_isZero_24
  have h := if_f c6 h
  refine lv_iconst (v := 1) hx hb d_Cell_isZero_19 (by decide) ?_
  refine lv_goto (tgt := 24) hx hb d_Cell_isZero_20 (by decide) ?_
  exact me_retz (me_kp M0) h (by decide) hx hb hr hlocks hwf hkp hP hK hD hS d_Cell_isZero_24
theorem d_Steps_relateToEnd_0 : decode prog_11_method_11_code 0 = .ok (.aload_n 0, 1) := by decide +kernel
theorem d_Steps_relateToEnd_1 : decode prog_11_method_11_code 1 = .ok (.iconst 3, 1) := by decide +kernel
theorem d_Steps_relateToEnd_2 : decode prog_11_method_11_code 2 = .ok (.putfield 206, 3) := by decide +kernel
theorem u_467 : Cond.fieldLink "FilterGuard$Steps" 206 "FilterGuard$Steps" "toldKind" "I" ∈ fg_g := fg_in (List.mem_of_getElem? (i := 467) (by decide +kernel)) rfl
theorem p_Steps_10 {p : Program} {l : Launch} {e : Env} {R : Room} {s : Jvm.State} {m : MethodId} {args : Array Value} {below : List Frame} {meth : Method} {c : Code} {H : Heap} {locs : List Loc} {cells slots : Nat} {Q : Jvm.State → Prop} {cc : ByteArray} {pc : Nat} {ls : Array Slot} {rest : List Value} {D : va_G} {A : Nat → Prop} {H0 : Heap} {ad : Nat → Nat → Nat} {ca : Nat → ClassId} {M M1 : me_M} {N : Nat → Nat} {own : String} {index j : Nat} {v : Int32} (he : M1 = wI M 7 j 10 v) (hexec : p.tables.exec = Jvm.exec) (hb : c.code = cc) (hts : ∀ w ∈ fg_g, w.before args s = true) (hown : s.vm.findClass own = some m.cls) (hK : va_K D classes (me_T ca) s) (hP : va_P D classes (me_W ad ca M) H) (hD : va_D A (me_W ad ca M)) (hwf : me_wf N M) (hS : va_S A H0 H locs) (hj : j < N 7) (hlink : (Cond.fieldLink own index "FilterGuard$Steps" "toldKind" "I").before args s = true) (hdg : decode cc pc = .ok (.putfield index, 3)) (kk : ∀ (H1 : Heap) (locs1 : List Loc), va_P D classes (me_W ad ca M1) H1 → va_D A (me_W ad ca M1) → me_wf N M1 → va_S A H0 H1 locs1 → W p l e R s m args below meth c H1 locs1 cells slots Q (F0 m (pc + 3) ls rest)) : W p l e R s m args below meth c H locs cells slots Q (F0 m pc ls (.int v :: .ref (ad 7 j) :: rest)) := by
  subst he
  exact me_put (M1 := wI M 7 j 10 v) (k := 7) (f := 10) (C := "FilterGuard$Steps") (T := F_Steps) (Nf := 19) hexec hb hts i_Steps t_Steps t_Steps_ok n_Steps hown hK hP hD hwf hS hj (by decide) rfl (by decide) (by decide) hlink (fun _ h9 => h9) rfl rfl rfl rfl (fun a b h => me_wIE h) (me_fIw (by decide) (by decide)) hdg (fun H1 locs1 a1 a2 a3 => kk H1 locs1 a1 a2 (me_wfI hwf (fun z => absurd z (by decide)) (fun z => absurd z (by decide))) a3)
theorem d_Steps_relateToEnd_5 : decode prog_11_method_11_code 5 = .ok (.aload_n 0, 1) := by decide +kernel
theorem d_Steps_relateToEnd_6 : decode prog_11_method_11_code 6 = .ok (.aload_n 1, 1) := by decide +kernel
theorem d_Steps_relateToEnd_7 : decode prog_11_method_11_code 7 = .ok (.getfield 194, 3) := by decide +kernel
theorem d_Steps_relateToEnd_10 : decode prog_11_method_11_code 10 = .ok (.putfield 220, 3) := by decide +kernel
theorem u_468 : Cond.fieldLink "FilterGuard$Steps" 220 "FilterGuard$Steps" "toldIdentity" "I" ∈ fg_g := fg_in (List.mem_of_getElem? (i := 468) (by decide +kernel)) rfl
theorem p_Steps_11 {p : Program} {l : Launch} {e : Env} {R : Room} {s : Jvm.State} {m : MethodId} {args : Array Value} {below : List Frame} {meth : Method} {c : Code} {H : Heap} {locs : List Loc} {cells slots : Nat} {Q : Jvm.State → Prop} {cc : ByteArray} {pc : Nat} {ls : Array Slot} {rest : List Value} {D : va_G} {A : Nat → Prop} {H0 : Heap} {ad : Nat → Nat → Nat} {ca : Nat → ClassId} {M M1 : me_M} {N : Nat → Nat} {own : String} {index j : Nat} {v : Int32} (he : M1 = wI M 7 j 11 v) (hexec : p.tables.exec = Jvm.exec) (hb : c.code = cc) (hts : ∀ w ∈ fg_g, w.before args s = true) (hown : s.vm.findClass own = some m.cls) (hK : va_K D classes (me_T ca) s) (hP : va_P D classes (me_W ad ca M) H) (hD : va_D A (me_W ad ca M)) (hwf : me_wf N M) (hS : va_S A H0 H locs) (hj : j < N 7) (hlink : (Cond.fieldLink own index "FilterGuard$Steps" "toldIdentity" "I").before args s = true) (hdg : decode cc pc = .ok (.putfield index, 3)) (kk : ∀ (H1 : Heap) (locs1 : List Loc), va_P D classes (me_W ad ca M1) H1 → va_D A (me_W ad ca M1) → me_wf N M1 → va_S A H0 H1 locs1 → W p l e R s m args below meth c H1 locs1 cells slots Q (F0 m (pc + 3) ls rest)) : W p l e R s m args below meth c H locs cells slots Q (F0 m pc ls (.int v :: .ref (ad 7 j) :: rest)) := by
  subst he
  exact me_put (M1 := wI M 7 j 11 v) (k := 7) (f := 11) (C := "FilterGuard$Steps") (T := F_Steps) (Nf := 19) hexec hb hts i_Steps t_Steps t_Steps_ok n_Steps hown hK hP hD hwf hS hj (by decide) rfl (by decide) (by decide) hlink (fun _ h9 => h9) rfl rfl rfl rfl (fun a b h => me_wIE h) (me_fIw (by decide) (by decide)) hdg (fun H1 locs1 a1 a2 a3 => kk H1 locs1 a1 a2 (me_wfI hwf (fun z => absurd z (by decide)) (fun z => absurd z (by decide))) a3)
theorem d_Steps_relateToEnd_13 : decode prog_11_method_11_code 13 = .ok (.aload_n 0, 1) := by decide +kernel
theorem d_Steps_relateToEnd_14 : decode prog_11_method_11_code 14 = .ok (.iconst 0, 1) := by decide +kernel
theorem d_Steps_relateToEnd_15 : decode prog_11_method_11_code 15 = .ok (.putfield 234, 3) := by decide +kernel
theorem u_469 : Cond.fieldLink "FilterGuard$Steps" 234 "FilterGuard$Steps" "roomGone" "I" ∈ fg_g := fg_in (List.mem_of_getElem? (i := 469) (by decide +kernel)) rfl
theorem p_Steps_12 {p : Program} {l : Launch} {e : Env} {R : Room} {s : Jvm.State} {m : MethodId} {args : Array Value} {below : List Frame} {meth : Method} {c : Code} {H : Heap} {locs : List Loc} {cells slots : Nat} {Q : Jvm.State → Prop} {cc : ByteArray} {pc : Nat} {ls : Array Slot} {rest : List Value} {D : va_G} {A : Nat → Prop} {H0 : Heap} {ad : Nat → Nat → Nat} {ca : Nat → ClassId} {M M1 : me_M} {N : Nat → Nat} {own : String} {index j : Nat} {v : Int32} (he : M1 = wI M 7 j 12 v) (hexec : p.tables.exec = Jvm.exec) (hb : c.code = cc) (hts : ∀ w ∈ fg_g, w.before args s = true) (hown : s.vm.findClass own = some m.cls) (hK : va_K D classes (me_T ca) s) (hP : va_P D classes (me_W ad ca M) H) (hD : va_D A (me_W ad ca M)) (hwf : me_wf N M) (hS : va_S A H0 H locs) (hj : j < N 7) (hlink : (Cond.fieldLink own index "FilterGuard$Steps" "roomGone" "I").before args s = true) (hdg : decode cc pc = .ok (.putfield index, 3)) (kk : ∀ (H1 : Heap) (locs1 : List Loc), va_P D classes (me_W ad ca M1) H1 → va_D A (me_W ad ca M1) → me_wf N M1 → va_S A H0 H1 locs1 → W p l e R s m args below meth c H1 locs1 cells slots Q (F0 m (pc + 3) ls rest)) : W p l e R s m args below meth c H locs cells slots Q (F0 m pc ls (.int v :: .ref (ad 7 j) :: rest)) := by
  subst he
  exact me_put (M1 := wI M 7 j 12 v) (k := 7) (f := 12) (C := "FilterGuard$Steps") (T := F_Steps) (Nf := 19) hexec hb hts i_Steps t_Steps t_Steps_ok n_Steps hown hK hP hD hwf hS hj (by decide) rfl (by decide) (by decide) hlink (fun _ h9 => h9) rfl rfl rfl rfl (fun a b h => me_wIE h) (me_fIw (by decide) (by decide)) hdg (fun H1 locs1 a1 a2 a3 => kk H1 locs1 a1 a2 (me_wfI hwf (fun z => absurd z (by decide)) (fun z => absurd z (by decide))) a3)
theorem d_Steps_relateToEnd_18 : decode prog_11_method_11_code 18 = .ok (.aload_n 0, 1) := by decide +kernel
theorem d_Steps_relateToEnd_19 : decode prog_11_method_11_code 19 = .ok (.iconst 0, 1) := by decide +kernel
theorem d_Steps_relateToEnd_20 : decode prog_11_method_11_code 20 = .ok (.putfield 237, 3) := by decide +kernel
theorem u_470 : Cond.fieldLink "FilterGuard$Steps" 237 "FilterGuard$Steps" "roomFallen" "I" ∈ fg_g := fg_in (List.mem_of_getElem? (i := 470) (by decide +kernel)) rfl
theorem p_Steps_13 {p : Program} {l : Launch} {e : Env} {R : Room} {s : Jvm.State} {m : MethodId} {args : Array Value} {below : List Frame} {meth : Method} {c : Code} {H : Heap} {locs : List Loc} {cells slots : Nat} {Q : Jvm.State → Prop} {cc : ByteArray} {pc : Nat} {ls : Array Slot} {rest : List Value} {D : va_G} {A : Nat → Prop} {H0 : Heap} {ad : Nat → Nat → Nat} {ca : Nat → ClassId} {M M1 : me_M} {N : Nat → Nat} {own : String} {index j : Nat} {v : Int32} (he : M1 = wI M 7 j 13 v) (hexec : p.tables.exec = Jvm.exec) (hb : c.code = cc) (hts : ∀ w ∈ fg_g, w.before args s = true) (hown : s.vm.findClass own = some m.cls) (hK : va_K D classes (me_T ca) s) (hP : va_P D classes (me_W ad ca M) H) (hD : va_D A (me_W ad ca M)) (hwf : me_wf N M) (hS : va_S A H0 H locs) (hj : j < N 7) (hlink : (Cond.fieldLink own index "FilterGuard$Steps" "roomFallen" "I").before args s = true) (hdg : decode cc pc = .ok (.putfield index, 3)) (kk : ∀ (H1 : Heap) (locs1 : List Loc), va_P D classes (me_W ad ca M1) H1 → va_D A (me_W ad ca M1) → me_wf N M1 → va_S A H0 H1 locs1 → W p l e R s m args below meth c H1 locs1 cells slots Q (F0 m (pc + 3) ls rest)) : W p l e R s m args below meth c H locs cells slots Q (F0 m pc ls (.int v :: .ref (ad 7 j) :: rest)) := by
  subst he
  exact me_put (M1 := wI M 7 j 13 v) (k := 7) (f := 13) (C := "FilterGuard$Steps") (T := F_Steps) (Nf := 19) hexec hb hts i_Steps t_Steps t_Steps_ok n_Steps hown hK hP hD hwf hS hj (by decide) rfl (by decide) (by decide) hlink (fun _ h9 => h9) rfl rfl rfl rfl (fun a b h => me_wIE h) (me_fIw (by decide) (by decide)) hdg (fun H1 locs1 a1 a2 a3 => kk H1 locs1 a1 a2 (me_wfI hwf (fun z => absurd z (by decide)) (fun z => absurd z (by decide))) a3)
theorem d_Steps_relateToEnd_23 : decode prog_11_method_11_code 23 = .ok (.iload_n 2, 1) := by decide +kernel
theorem d_Steps_relateToEnd_24 : decode prog_11_method_11_code 24 = .ok (.tableswitch 92 1 8 #[48, 80, 92, 92, 92, 92, 68, 58], 48) := by decide +kernel
theorem d_Steps_relateToEnd_72 : decode prog_11_method_11_code 72 = .ok (.aload_n 0, 1) := by decide +kernel
theorem d_Steps_relateToEnd_73 : decode prog_11_method_11_code 73 = .ok (.aload_n 1, 1) := by decide +kernel
theorem d_Steps_relateToEnd_74 : decode prog_11_method_11_code 74 = .ok (.getfield 178, 3) := by decide +kernel
theorem d_Steps_relateToEnd_77 : decode prog_11_method_11_code 77 = .ok (.putfield 237, 3) := by decide +kernel
theorem d_Steps_relateToEnd_80 : decode prog_11_method_11_code 80 = .ok (.iconst 0, 1) := by decide +kernel
theorem d_Steps_relateToEnd_81 : decode prog_11_method_11_code 81 = .ok (.ireturn, 1) := by decide +kernel
theorem d_Steps_relateToEnd_104 : decode prog_11_method_11_code 104 = .ok (.aload_n 0, 1) := by decide +kernel
theorem d_Steps_relateToEnd_105 : decode prog_11_method_11_code 105 = .ok (.aload_n 1, 1) := by decide +kernel
theorem d_Steps_relateToEnd_106 : decode prog_11_method_11_code 106 = .ok (.getfield 178, 3) := by decide +kernel
theorem d_Steps_relateToEnd_109 : decode prog_11_method_11_code 109 = .ok (.iconst 1, 1) := by decide +kernel
theorem d_Steps_relateToEnd_110 : decode prog_11_method_11_code 110 = .ok (.iadd, 1) := by decide +kernel
theorem d_Steps_relateToEnd_111 : decode prog_11_method_11_code 111 = .ok (.putfield 237, 3) := by decide +kernel
theorem d_Steps_relateToEnd_114 : decode prog_11_method_11_code 114 = .ok (.iconst 0, 1) := by decide +kernel
theorem d_Steps_relateToEnd_115 : decode prog_11_method_11_code 115 = .ok (.ireturn, 1) := by decide +kernel
theorem d_Steps_relateToEnd_116 : decode prog_11_method_11_code 116 = .ok (.bipush 12, 2) := by decide +kernel
theorem d_Steps_relateToEnd_118 : decode prog_11_method_11_code 118 = .ok (.ireturn, 1) := by decide +kernel
theorem d_Steps_relateToEnd_92 : decode prog_11_method_11_code 92 = .ok (.aload_n 0, 1) := by decide +kernel
theorem d_Steps_relateToEnd_93 : decode prog_11_method_11_code 93 = .ok (.aload_n 1, 1) := by decide +kernel
theorem d_Steps_relateToEnd_94 : decode prog_11_method_11_code 94 = .ok (.getfield 178, 3) := by decide +kernel
theorem d_Steps_relateToEnd_97 : decode prog_11_method_11_code 97 = .ok (.iconst 1, 1) := by decide +kernel
theorem d_Steps_relateToEnd_98 : decode prog_11_method_11_code 98 = .ok (.iadd, 1) := by decide +kernel
theorem d_Steps_relateToEnd_99 : decode prog_11_method_11_code 99 = .ok (.putfield 234, 3) := by decide +kernel
theorem d_Steps_relateToEnd_102 : decode prog_11_method_11_code 102 = .ok (.iconst 0, 1) := by decide +kernel
theorem d_Steps_relateToEnd_103 : decode prog_11_method_11_code 103 = .ok (.ireturn, 1) := by decide +kernel
theorem d_Steps_relateToEnd_82 : decode prog_11_method_11_code 82 = .ok (.aload_n 0, 1) := by decide +kernel
theorem d_Steps_relateToEnd_83 : decode prog_11_method_11_code 83 = .ok (.aload_n 1, 1) := by decide +kernel
theorem d_Steps_relateToEnd_84 : decode prog_11_method_11_code 84 = .ok (.getfield 178, 3) := by decide +kernel
theorem d_Steps_relateToEnd_87 : decode prog_11_method_11_code 87 = .ok (.putfield 234, 3) := by decide +kernel
theorem d_Steps_relateToEnd_90 : decode prog_11_method_11_code 90 = .ok (.iconst 0, 1) := by decide +kernel
theorem d_Steps_relateToEnd_91 : decode prog_11_method_11_code 91 = .ok (.ireturn, 1) := by decide +kernel
abbrev y_Steps_relateToEnd : MethodName := ⟨"FilterGuard$Steps", "relateToEnd", "(LFilterGuard$Cell;I)I"⟩
def rm_Steps_relateToEnd : Room := { frames := 1, cells := 0, slots := 0, locals := 20 }
abbrev q_Steps_relateToEnd (D : va_G) (ad : Nat → Nat → Nat) (ca : Nat → ClassId) (N : Nat → Nat) (M0 MZ : me_M) (RZ : Int32) (A : Nat → Prop) : Array Value → Jvm.State → Outcome → Jvm.State → Prop := va_Qi (fun r (_ : Unit) => r = RZ ∧ me_wf N MZ ∧ me_kp M0 MZ) (fg_B D A (fun _ => me_W ad ca MZ) (fun _ => [])) A
set_option maxHeartbeats 4000000 in
set_option maxRecDepth 100000 in
theorem c_Steps_relateToEnd (l : Launch) (D : va_G) (ad : Nat → Nat → Nat) (ca : Nat → ClassId) (N : Nat → Nat) (M0 MZ : me_M) (RZ : Int32) (j0 : Nat) (j1 : Nat) (x2 : Int32) (h : f_Steps_relateToEnd M0 j0 j1 x2 = (some (MZ, RZ))) (hwf : me_wf N M0) (hj0 : j0 < N 7) (hj1 : j1 < N 10) (sz : Nat) : Met l y_Steps_relateToEnd (fg_w y_Steps_relateToEnd prog_11_method_11_code 3 (some .int)) rm_Steps_relateToEnd (va_Pc [.ref (ad 7 j0), .ref (ad 10 j1), .int x2] (fz_P D (me_T ca) (me_W ad ca M0) sz)) (q_Steps_relateToEnd D ad ca N M0 MZ RZ (va_A (me_W ad ca M0) sz)) rm_Steps_relateToEnd.cells rm_Steps_relateToEnd.slots (va_A (me_W ad ca M0) sz) := by
  refine fz_enter (fun A => q_Steps_relateToEnd D ad ca N M0 MZ RZ A) (by decide +kernel) (Nat.le_of_ble_eq_true rfl) ?_
  intro p e s m below meth c ls A hx hb hml hown hts hr hlocks hin hP hK hD hS hA hX hl hz
  have hl : lv_has ls 3 [(0, .ref (ad 7 j0)), (1, .ref (ad 10 j1)), (2, .int x2)] := hl
  unfold f_Steps_relateToEnd at h
  have hkp : me_kp M0 M0 := me_kp.rf
  have hkb := hkp
  refine lv_aload_n hx hb d_Steps_relateToEnd_0 rfl (lv_at hl 0 rfl) ?_
  refine lv_iconst (v := 3) hx hb d_Steps_relateToEnd_1 (by decide) ?_
  obtain ⟨M1, eM1, h⟩ := st_ob h
  refine p_Steps_10 eM1 hx hb hts hown hK hP hD hwf hS hj0 (hts _ u_467) d_Steps_relateToEnd_2 (fun H locs hP hD hwf hS => ?_)
  have hkp := kp_I eM1 hkp
  refine lv_aload_n hx hb d_Steps_relateToEnd_5 rfl (lv_at hl 0 rfl) ?_
  refine lv_aload_n hx hb d_Steps_relateToEnd_6 rfl (lv_at hl 1 rfl) ?_
  refine g_Cell_3 hx hb hts hown hK hP hwf hj1 (hts _ u_430) d_Steps_relateToEnd_7 ?_
  obtain ⟨M2, eM2, h⟩ := st_ob h
  refine p_Steps_11 eM2 hx hb hts hown hK hP hD hwf hS hj0 (hts _ u_468) d_Steps_relateToEnd_10 (fun H locs hP hD hwf hS => ?_)
  have hkp := kp_I eM2 hkp
  refine lv_aload_n hx hb d_Steps_relateToEnd_13 rfl (lv_at hl 0 rfl) ?_
  refine lv_iconst (v := 0) hx hb d_Steps_relateToEnd_14 (by decide) ?_
  obtain ⟨M3, eM3, h⟩ := st_ob h
  refine p_Steps_12 eM3 hx hb hts hown hK hP hD hwf hS hj0 (hts _ u_469) d_Steps_relateToEnd_15 (fun H locs hP hD hwf hS => ?_)
  have hkp := kp_I eM3 hkp
  refine lv_aload_n hx hb d_Steps_relateToEnd_18 rfl (lv_at hl 0 rfl) ?_
  refine lv_iconst (v := 0) hx hb d_Steps_relateToEnd_19 (by decide) ?_
  obtain ⟨M4, eM4, h⟩ := st_ob h
  refine p_Steps_13 eM4 hx hb hts hown hK hP hD hwf hS hj0 (hts _ u_470) d_Steps_relateToEnd_20 (fun H locs hP hD hwf hS => ?_)
  have hkp := kp_I eM4 hkp
  refine lv_iload_n hx hb d_Steps_relateToEnd_23 rfl (lv_at hl 2 rfl) ?_
  refine lv_topi (fun w5 ew5 => ?_)
  by_cases n6 : w5 = 1
  · have h := if_t (ew5.symm.trans n6) h
    subst n6
    refine lv_tableIn (off := 48) (tgt := 72) hx hb d_Steps_relateToEnd_24 (by decide) (by decide) (by decide) (by decide) ?_
    refine lv_aload_n hx hb d_Steps_relateToEnd_72 rfl (lv_at hl 0 rfl) ?_
    refine lv_aload_n hx hb d_Steps_relateToEnd_73 rfl (lv_at hl 1 rfl) ?_
    refine g_Cell_1 hx hb hts hown hK hP hwf hj1 (hts _ u_425) d_Steps_relateToEnd_74 ?_
    obtain ⟨M7, eM7, h⟩ := st_ob h
    refine p_Steps_13 eM7 hx hb hts hown hK hP hD hwf hS hj0 (hts _ u_470) d_Steps_relateToEnd_77 (fun H locs hP hD hwf hS => ?_)
    have hkp := kp_I eM7 hkp
    refine lv_iconst (v := 0) hx hb d_Steps_relateToEnd_80 (by decide) ?_
    exact me_reti (me_kp M0) h hx hb hr hlocks hwf hkp hP hK hD hS d_Steps_relateToEnd_81
  have h := if_f (fun z => n6 (ew5.trans z)) h
  by_cases n8 : w5 = 2
  · have h := if_t (ew5.symm.trans n8) h
    subst n8
    refine lv_tableIn (off := 80) (tgt := 104) hx hb d_Steps_relateToEnd_24 (by decide) (by decide) (by decide) (by decide) ?_
    refine lv_aload_n hx hb d_Steps_relateToEnd_104 rfl (lv_at hl 0 rfl) ?_
    refine lv_aload_n hx hb d_Steps_relateToEnd_105 rfl (lv_at hl 1 rfl) ?_
    refine g_Cell_1 hx hb hts hown hK hP hwf hj1 (hts _ u_425) d_Steps_relateToEnd_106 ?_
    refine lv_iconst (v := 1) hx hb d_Steps_relateToEnd_109 (by decide) ?_
    refine lv_iadd hx hb d_Steps_relateToEnd_110 ?_
    obtain ⟨M9, eM9, h⟩ := st_ob h
    refine p_Steps_13 eM9 hx hb hts hown hK hP hD hwf hS hj0 (hts _ u_470) d_Steps_relateToEnd_111 (fun H locs hP hD hwf hS => ?_)
    have hkp := kp_I eM9 hkp
    refine lv_iconst (v := 0) hx hb d_Steps_relateToEnd_114 (by decide) ?_
    exact me_reti (me_kp M0) h hx hb hr hlocks hwf hkp hP hK hD hS d_Steps_relateToEnd_115
  have h := if_f (fun z => n8 (ew5.trans z)) h
  by_cases n10 : w5 = 3
  · have h := if_t (ew5.symm.trans n10) h
    subst n10
    refine lv_tableIn (off := 92) (tgt := 116) hx hb d_Steps_relateToEnd_24 (by decide) (by decide) (by decide) (by decide) ?_
    refine lv_bipush (v := 12) hx hb d_Steps_relateToEnd_116 (by decide) ?_
    exact me_reti (me_kp M0) h hx hb hr hlocks hwf hkp hP hK hD hS d_Steps_relateToEnd_118
  have h := if_f (fun z => n10 (ew5.trans z)) h
  by_cases n11 : w5 = 4
  · have h := if_t (ew5.symm.trans n11) h
    subst n11
    refine lv_tableIn (off := 92) (tgt := 116) hx hb d_Steps_relateToEnd_24 (by decide) (by decide) (by decide) (by decide) ?_
    refine lv_bipush (v := 12) hx hb d_Steps_relateToEnd_116 (by decide) ?_
    exact me_reti (me_kp M0) h hx hb hr hlocks hwf hkp hP hK hD hS d_Steps_relateToEnd_118
  have h := if_f (fun z => n11 (ew5.trans z)) h
  by_cases n12 : w5 = 5
  · have h := if_t (ew5.symm.trans n12) h
    subst n12
    refine lv_tableIn (off := 92) (tgt := 116) hx hb d_Steps_relateToEnd_24 (by decide) (by decide) (by decide) (by decide) ?_
    refine lv_bipush (v := 12) hx hb d_Steps_relateToEnd_116 (by decide) ?_
    exact me_reti (me_kp M0) h hx hb hr hlocks hwf hkp hP hK hD hS d_Steps_relateToEnd_118
  have h := if_f (fun z => n12 (ew5.trans z)) h
  by_cases n13 : w5 = 6
  · have h := if_t (ew5.symm.trans n13) h
    subst n13
    refine lv_tableIn (off := 92) (tgt := 116) hx hb d_Steps_relateToEnd_24 (by decide) (by decide) (by decide) (by decide) ?_
    refine lv_bipush (v := 12) hx hb d_Steps_relateToEnd_116 (by decide) ?_
    exact me_reti (me_kp M0) h hx hb hr hlocks hwf hkp hP hK hD hS d_Steps_relateToEnd_118
  have h := if_f (fun z => n13 (ew5.trans z)) h
  by_cases n14 : w5 = 7
  · have h := if_t (ew5.symm.trans n14) h
    subst n14
    refine lv_tableIn (off := 68) (tgt := 92) hx hb d_Steps_relateToEnd_24 (by decide) (by decide) (by decide) (by decide) ?_
    refine lv_aload_n hx hb d_Steps_relateToEnd_92 rfl (lv_at hl 0 rfl) ?_
    refine lv_aload_n hx hb d_Steps_relateToEnd_93 rfl (lv_at hl 1 rfl) ?_
    refine g_Cell_1 hx hb hts hown hK hP hwf hj1 (hts _ u_425) d_Steps_relateToEnd_94 ?_
    refine lv_iconst (v := 1) hx hb d_Steps_relateToEnd_97 (by decide) ?_
    refine lv_iadd hx hb d_Steps_relateToEnd_98 ?_
    obtain ⟨M15, eM15, h⟩ := st_ob h
    refine p_Steps_12 eM15 hx hb hts hown hK hP hD hwf hS hj0 (hts _ u_469) d_Steps_relateToEnd_99 (fun H locs hP hD hwf hS => ?_)
    have hkp := kp_I eM15 hkp
    refine lv_iconst (v := 0) hx hb d_Steps_relateToEnd_102 (by decide) ?_
    exact me_reti (me_kp M0) h hx hb hr hlocks hwf hkp hP hK hD hS d_Steps_relateToEnd_103
  have h := if_f (fun z => n14 (ew5.trans z)) h
  by_cases n16 : w5 = 8
  · have h := if_t (ew5.symm.trans n16) h
    subst n16
    refine lv_tableIn (off := 58) (tgt := 82) hx hb d_Steps_relateToEnd_24 (by decide) (by decide) (by decide) (by decide) ?_
    refine lv_aload_n hx hb d_Steps_relateToEnd_82 rfl (lv_at hl 0 rfl) ?_
    refine lv_aload_n hx hb d_Steps_relateToEnd_83 rfl (lv_at hl 1 rfl) ?_
    refine g_Cell_1 hx hb hts hown hK hP hwf hj1 (hts _ u_425) d_Steps_relateToEnd_84 ?_
    obtain ⟨M17, eM17, h⟩ := st_ob h
    refine p_Steps_12 eM17 hx hb hts hown hK hP hD hwf hS hj0 (hts _ u_469) d_Steps_relateToEnd_87 (fun H locs hP hD hwf hS => ?_)
    have hkp := kp_I eM17 hkp
    refine lv_iconst (v := 0) hx hb d_Steps_relateToEnd_90 (by decide) ?_
    exact me_reti (me_kp M0) h hx hb hr hlocks hwf hkp hP hK hD hS d_Steps_relateToEnd_91
  have h := if_f (fun z => n16 (ew5.trans z)) h
  have in6 := lv_neT n6 (show (1 : Int32).toInt = 1 from rfl)
  have in8 := lv_neT n8 (show (2 : Int32).toInt = 2 from rfl)
  have in10 := lv_neT n10 (show (3 : Int32).toInt = 3 from rfl)
  have in11 := lv_neT n11 (show (4 : Int32).toInt = 4 from rfl)
  have in12 := lv_neT n12 (show (5 : Int32).toInt = 5 from rfl)
  have in13 := lv_neT n13 (show (6 : Int32).toInt = 6 from rfl)
  have in14 := lv_neT n14 (show (7 : Int32).toInt = 7 from rfl)
  have in16 := lv_neT n16 (show (8 : Int32).toInt = 8 from rfl)
  refine lv_tableOut (tgt := 116) hx hb d_Steps_relateToEnd_24 (by omega) (by decide) ?_
  refine lv_bipush (v := 12) hx hb d_Steps_relateToEnd_116 (by decide) ?_
  exact me_reti (me_kp M0) h hx hb hr hlocks hwf hkp hP hK hD hS d_Steps_relateToEnd_118
theorem d_Steps_turned_0 : decode prog_11_method_10_code 0 = .ok (.iload_n 1, 1) := by decide +kernel
theorem d_Steps_turned_1 : decode prog_11_method_10_code 1 = .ok (.tableswitch 57 1 8 #[47, 52, 57, 57, 57, 57, 50, 55], 47) := by decide +kernel
theorem d_Steps_turned_48 : decode prog_11_method_10_code 48 = .ok (.bipush 7, 2) := by decide +kernel
theorem d_Steps_turned_50 : decode prog_11_method_10_code 50 = .ok (.ireturn, 1) := by decide +kernel
theorem d_Steps_turned_53 : decode prog_11_method_10_code 53 = .ok (.bipush 8, 2) := by decide +kernel
theorem d_Steps_turned_55 : decode prog_11_method_10_code 55 = .ok (.ireturn, 1) := by decide +kernel
theorem d_Steps_turned_58 : decode prog_11_method_10_code 58 = .ok (.iload_n 1, 1) := by decide +kernel
theorem d_Steps_turned_59 : decode prog_11_method_10_code 59 = .ok (.ireturn, 1) := by decide +kernel
theorem d_Steps_turned_51 : decode prog_11_method_10_code 51 = .ok (.iconst 1, 1) := by decide +kernel
theorem d_Steps_turned_52 : decode prog_11_method_10_code 52 = .ok (.ireturn, 1) := by decide +kernel
theorem d_Steps_turned_56 : decode prog_11_method_10_code 56 = .ok (.iconst 2, 1) := by decide +kernel
theorem d_Steps_turned_57 : decode prog_11_method_10_code 57 = .ok (.ireturn, 1) := by decide +kernel
abbrev y_Steps_turned : MethodName := ⟨"FilterGuard$Steps", "turned", "(I)I"⟩
def rm_Steps_turned : Room := { frames := 1, cells := 0, slots := 0, locals := 20 }
abbrev q_Steps_turned (D : va_G) (ad : Nat → Nat → Nat) (ca : Nat → ClassId) (N : Nat → Nat) (M0 MZ : me_M) (RZ : Int32) (A : Nat → Prop) : Array Value → Jvm.State → Outcome → Jvm.State → Prop := va_Qi (fun r (_ : Unit) => r = RZ ∧ me_wf N MZ ∧ me_kp M0 MZ) (fg_B D A (fun _ => me_W ad ca MZ) (fun _ => [])) A
set_option maxHeartbeats 4000000 in
set_option maxRecDepth 100000 in
theorem c_Steps_turned (l : Launch) (D : va_G) (ad : Nat → Nat → Nat) (ca : Nat → ClassId) (N : Nat → Nat) (M0 MZ : me_M) (RZ : Int32) (j0 : Nat) (x1 : Int32) (h : f_Steps_turned M0 j0 x1 = (some (MZ, RZ))) (hwf : me_wf N M0) (hj0 : j0 < N 7) (sz : Nat) : Met l y_Steps_turned (fg_w y_Steps_turned prog_11_method_10_code 2 (some .int)) rm_Steps_turned (va_Pc [.ref (ad 7 j0), .int x1] (fz_P D (me_T ca) (me_W ad ca M0) sz)) (q_Steps_turned D ad ca N M0 MZ RZ (va_A (me_W ad ca M0) sz)) rm_Steps_turned.cells rm_Steps_turned.slots (va_A (me_W ad ca M0) sz) := by
  refine fz_enter (fun A => q_Steps_turned D ad ca N M0 MZ RZ A) (by decide +kernel) (Nat.le_of_ble_eq_true rfl) ?_
  intro p e s m below meth c ls A hx hb hml hown hts hr hlocks hin hP hK hD hS hA hX hl hz
  have hl : lv_has ls 2 [(0, .ref (ad 7 j0)), (1, .int x1)] := hl
  unfold f_Steps_turned at h
  have hkp : me_kp M0 M0 := me_kp.rf
  have hkb := hkp
  refine lv_iload_n hx hb d_Steps_turned_0 rfl (lv_at hl 1 rfl) ?_
  refine lv_topi (fun w1 ew1 => ?_)
  by_cases n2 : w1 = 1
  · have h := if_t (ew1.symm.trans n2) h
    subst n2
    refine lv_tableIn (off := 47) (tgt := 48) hx hb d_Steps_turned_1 (by decide) (by decide) (by decide) (by decide) ?_
    refine lv_bipush (v := 7) hx hb d_Steps_turned_48 (by decide) ?_
    exact me_reti (me_kp M0) h hx hb hr hlocks hwf hkp hP hK hD hS d_Steps_turned_50
  have h := if_f (fun z => n2 (ew1.trans z)) h
  by_cases n3 : w1 = 2
  · have h := if_t (ew1.symm.trans n3) h
    subst n3
    refine lv_tableIn (off := 52) (tgt := 53) hx hb d_Steps_turned_1 (by decide) (by decide) (by decide) (by decide) ?_
    refine lv_bipush (v := 8) hx hb d_Steps_turned_53 (by decide) ?_
    exact me_reti (me_kp M0) h hx hb hr hlocks hwf hkp hP hK hD hS d_Steps_turned_55
  have h := if_f (fun z => n3 (ew1.trans z)) h
  by_cases n4 : w1 = 3
  · have h := if_t (ew1.symm.trans n4) h
    subst n4
    refine lv_tableIn (off := 57) (tgt := 58) hx hb d_Steps_turned_1 (by decide) (by decide) (by decide) (by decide) ?_
    refine lv_iload_n hx hb d_Steps_turned_58 rfl (lv_at hl 1 rfl) ?_
    exact me_reti (me_kp M0) h hx hb hr hlocks hwf hkp hP hK hD hS d_Steps_turned_59
  have h := if_f (fun z => n4 (ew1.trans z)) h
  by_cases n5 : w1 = 4
  · have h := if_t (ew1.symm.trans n5) h
    subst n5
    refine lv_tableIn (off := 57) (tgt := 58) hx hb d_Steps_turned_1 (by decide) (by decide) (by decide) (by decide) ?_
    refine lv_iload_n hx hb d_Steps_turned_58 rfl (lv_at hl 1 rfl) ?_
    exact me_reti (me_kp M0) h hx hb hr hlocks hwf hkp hP hK hD hS d_Steps_turned_59
  have h := if_f (fun z => n5 (ew1.trans z)) h
  by_cases n6 : w1 = 5
  · have h := if_t (ew1.symm.trans n6) h
    subst n6
    refine lv_tableIn (off := 57) (tgt := 58) hx hb d_Steps_turned_1 (by decide) (by decide) (by decide) (by decide) ?_
    refine lv_iload_n hx hb d_Steps_turned_58 rfl (lv_at hl 1 rfl) ?_
    exact me_reti (me_kp M0) h hx hb hr hlocks hwf hkp hP hK hD hS d_Steps_turned_59
  have h := if_f (fun z => n6 (ew1.trans z)) h
  by_cases n7 : w1 = 6
  · have h := if_t (ew1.symm.trans n7) h
    subst n7
    refine lv_tableIn (off := 57) (tgt := 58) hx hb d_Steps_turned_1 (by decide) (by decide) (by decide) (by decide) ?_
    refine lv_iload_n hx hb d_Steps_turned_58 rfl (lv_at hl 1 rfl) ?_
    exact me_reti (me_kp M0) h hx hb hr hlocks hwf hkp hP hK hD hS d_Steps_turned_59
  have h := if_f (fun z => n7 (ew1.trans z)) h
  by_cases n8 : w1 = 7
  · have h := if_t (ew1.symm.trans n8) h
    subst n8
    refine lv_tableIn (off := 50) (tgt := 51) hx hb d_Steps_turned_1 (by decide) (by decide) (by decide) (by decide) ?_
    refine lv_iconst (v := 1) hx hb d_Steps_turned_51 (by decide) ?_
    exact me_reti (me_kp M0) h hx hb hr hlocks hwf hkp hP hK hD hS d_Steps_turned_52
  have h := if_f (fun z => n8 (ew1.trans z)) h
  by_cases n9 : w1 = 8
  · have h := if_t (ew1.symm.trans n9) h
    subst n9
    refine lv_tableIn (off := 55) (tgt := 56) hx hb d_Steps_turned_1 (by decide) (by decide) (by decide) (by decide) ?_
    refine lv_iconst (v := 2) hx hb d_Steps_turned_56 (by decide) ?_
    exact me_reti (me_kp M0) h hx hb hr hlocks hwf hkp hP hK hD hS d_Steps_turned_57
  have h := if_f (fun z => n9 (ew1.trans z)) h
  have in2 := lv_neT n2 (show (1 : Int32).toInt = 1 from rfl)
  have in3 := lv_neT n3 (show (2 : Int32).toInt = 2 from rfl)
  have in4 := lv_neT n4 (show (3 : Int32).toInt = 3 from rfl)
  have in5 := lv_neT n5 (show (4 : Int32).toInt = 4 from rfl)
  have in6 := lv_neT n6 (show (5 : Int32).toInt = 5 from rfl)
  have in7 := lv_neT n7 (show (6 : Int32).toInt = 6 from rfl)
  have in8 := lv_neT n8 (show (7 : Int32).toInt = 7 from rfl)
  have in9 := lv_neT n9 (show (8 : Int32).toInt = 8 from rfl)
  refine lv_tableOut (tgt := 58) hx hb d_Steps_turned_1 (by omega) (by decide) ?_
  refine lv_iload_n hx hb d_Steps_turned_58 rfl (lv_at hl 1 rfl) ?_
  exact me_reti (me_kp M0) h hx hb hr hlocks hwf hkp hP hK hD hS d_Steps_turned_59
theorem d_Steps_relation_354 : decode prog_11_method_9_code 354 = .ok (.aload_n 1, 1) := by decide +kernel
theorem d_Steps_relation_355 : decode prog_11_method_9_code 355 = .ok (.getfield 76, 3) := by decide +kernel
theorem d_Steps_relation_358 : decode prog_11_method_9_code 358 = .ok (.iconst 5, 1) := by decide +kernel
theorem d_Steps_relation_359 : decode prog_11_method_9_code 359 = .ok (.if_icmp .ne 30, 3) := by decide +kernel
theorem d_Steps_relation_389 : decode prog_11_method_9_code 389 = .ok (.bipush 12, 2) := by decide +kernel
theorem d_Steps_relation_391 : decode prog_11_method_9_code 391 = .ok (.ireturn, 1) := by decide +kernel
theorem d_Steps_relation_362 : decode prog_11_method_9_code 362 = .ok (.aload_n 2, 1) := by decide +kernel
theorem d_Steps_relation_363 : decode prog_11_method_9_code 363 = .ok (.getfield 76, 3) := by decide +kernel
theorem d_Steps_relation_366 : decode prog_11_method_9_code 366 = .ok (.iconst 4, 1) := by decide +kernel
theorem d_Steps_relation_367 : decode prog_11_method_9_code 367 = .ok (.if_icmp .ne 22, 3) := by decide +kernel
theorem d_Steps_relation_370 : decode prog_11_method_9_code 370 = .ok (.aload_n 0, 1) := by decide +kernel
theorem d_Steps_relation_371 : decode prog_11_method_9_code 371 = .ok (.aload_n 2, 1) := by decide +kernel
theorem d_Steps_relation_372 : decode prog_11_method_9_code 372 = .ok (.aload_n 0, 1) := by decide +kernel
theorem d_Steps_relation_373 : decode prog_11_method_9_code 373 = .ok (.aload_n 0, 1) := by decide +kernel
theorem d_Steps_relation_374 : decode prog_11_method_9_code 374 = .ok (.getfield 44, 3) := by decide +kernel
theorem d_Steps_relation_377 : decode prog_11_method_9_code 377 = .ok (.getfield 133, 3) := by decide +kernel
theorem d_Steps_relation_380 : decode prog_11_method_9_code 380 = .ok (.invokevirtual 230, 3) := by decide +kernel
theorem u_1334 : Cond.methodLink "FilterGuard$Steps" 230 ⟨"FilterGuard$Steps", "turned", "(I)I"⟩ ∈ fg_g := fg_in (List.mem_of_getElem? (i := 1334) (by decide +kernel)) rfl
theorem u_1337 : Cond.code ⟨"FilterGuard$Steps", "turned", "(I)I"⟩ prog_11_method_10_code 2 (some .int) ∈ fg_g := fg_in (List.mem_of_getElem? (i := 1337) (by decide +kernel)) rfl
theorem u_1336 : Cond.instanceMethod ⟨"FilterGuard$Steps", "turned", "(I)I"⟩ ∈ fg_g := fg_in (List.mem_of_getElem? (i := 1336) (by decide +kernel)) rfl
theorem u_41 : Cond.selects "FilterGuard$Steps" ⟨"FilterGuard$Steps", "turned", "(I)I"⟩ ⟨"FilterGuard$Steps", "turned", "(I)I"⟩ ∈ fg_g := fg_in (List.mem_of_getElem? (i := 41) (by decide +kernel)) rfl
theorem d_Steps_relation_383 : decode prog_11_method_9_code 383 = .ok (.invokevirtual 226, 3) := by decide +kernel
theorem u_1330 : Cond.methodLink "FilterGuard$Steps" 226 ⟨"FilterGuard$Steps", "relateToEnd", "(LFilterGuard$Cell;I)I"⟩ ∈ fg_g := fg_in (List.mem_of_getElem? (i := 1330) (by decide +kernel)) rfl
theorem u_1333 : Cond.code ⟨"FilterGuard$Steps", "relateToEnd", "(LFilterGuard$Cell;I)I"⟩ prog_11_method_11_code 3 (some .int) ∈ fg_g := fg_in (List.mem_of_getElem? (i := 1333) (by decide +kernel)) rfl
theorem u_1332 : Cond.instanceMethod ⟨"FilterGuard$Steps", "relateToEnd", "(LFilterGuard$Cell;I)I"⟩ ∈ fg_g := fg_in (List.mem_of_getElem? (i := 1332) (by decide +kernel)) rfl
theorem u_40 : Cond.selects "FilterGuard$Steps" ⟨"FilterGuard$Steps", "relateToEnd", "(LFilterGuard$Cell;I)I"⟩ ⟨"FilterGuard$Steps", "relateToEnd", "(LFilterGuard$Cell;I)I"⟩ ∈ fg_g := fg_in (List.mem_of_getElem? (i := 40) (by decide +kernel)) rfl
theorem d_Steps_relation_386 : decode prog_11_method_9_code 386 = .ok (.goto 5, 3) := by decide +kernel
theorem d_Steps_relation_325 : decode prog_11_method_9_code 325 = .ok (.aload_n 1, 1) := by decide +kernel
theorem d_Steps_relation_326 : decode prog_11_method_9_code 326 = .ok (.getfield 76, 3) := by decide +kernel
theorem d_Steps_relation_329 : decode prog_11_method_9_code 329 = .ok (.iconst 4, 1) := by decide +kernel
theorem d_Steps_relation_330 : decode prog_11_method_9_code 330 = .ok (.if_icmp .ne 24, 3) := by decide +kernel
theorem d_Steps_relation_333 : decode prog_11_method_9_code 333 = .ok (.aload_n 2, 1) := by decide +kernel
theorem d_Steps_relation_334 : decode prog_11_method_9_code 334 = .ok (.getfield 76, 3) := by decide +kernel
theorem d_Steps_relation_337 : decode prog_11_method_9_code 337 = .ok (.iconst 5, 1) := by decide +kernel
theorem d_Steps_relation_338 : decode prog_11_method_9_code 338 = .ok (.if_icmp .ne 16, 3) := by decide +kernel
theorem d_Steps_relation_341 : decode prog_11_method_9_code 341 = .ok (.aload_n 0, 1) := by decide +kernel
theorem d_Steps_relation_342 : decode prog_11_method_9_code 342 = .ok (.aload_n 1, 1) := by decide +kernel
theorem d_Steps_relation_343 : decode prog_11_method_9_code 343 = .ok (.aload_n 0, 1) := by decide +kernel
theorem d_Steps_relation_344 : decode prog_11_method_9_code 344 = .ok (.getfield 44, 3) := by decide +kernel
theorem d_Steps_relation_347 : decode prog_11_method_9_code 347 = .ok (.getfield 133, 3) := by decide +kernel
theorem d_Steps_relation_350 : decode prog_11_method_9_code 350 = .ok (.invokevirtual 226, 3) := by decide +kernel
theorem d_Steps_relation_353 : decode prog_11_method_9_code 353 = .ok (.ireturn, 1) := by decide +kernel
theorem d_Steps_relation_301 : decode prog_11_method_9_code 301 = .ok (.putfield 220, 3) := by decide +kernel
theorem d_Steps_relation_304 : decode prog_11_method_9_code 304 = .ok (.aload_n 0, 1) := by decide +kernel
theorem d_Steps_relation_305 : decode prog_11_method_9_code 305 = .ok (.aload_n 0, 1) := by decide +kernel
theorem d_Steps_relation_306 : decode prog_11_method_9_code 306 = .ok (.getfield 44, 3) := by decide +kernel
theorem d_Steps_relation_309 : decode prog_11_method_9_code 309 = .ok (.getfield 133, 3) := by decide +kernel
theorem d_Steps_relation_312 : decode prog_11_method_9_code 312 = .ok (.ifCond .ne 7, 3) := by decide +kernel
theorem d_Steps_relation_319 : decode prog_11_method_9_code 319 = .ok (.iconst 0, 1) := by decide +kernel
theorem d_Steps_relation_320 : decode prog_11_method_9_code 320 = .ok (.putfield 223, 3) := by decide +kernel
theorem u_471 : Cond.fieldLink "FilterGuard$Steps" 223 "FilterGuard$Steps" "isZeroGone" "Z" ∈ fg_g := fg_in (List.mem_of_getElem? (i := 471) (by decide +kernel)) rfl
theorem p_Steps_14 {p : Program} {l : Launch} {e : Env} {R : Room} {s : Jvm.State} {m : MethodId} {args : Array Value} {below : List Frame} {meth : Method} {c : Code} {H : Heap} {locs : List Loc} {cells slots : Nat} {Q : Jvm.State → Prop} {cc : ByteArray} {pc : Nat} {ls : Array Slot} {rest : List Value} {D : va_G} {A : Nat → Prop} {H0 : Heap} {ad : Nat → Nat → Nat} {ca : Nat → ClassId} {M M1 : me_M} {N : Nat → Nat} {own : String} {index j : Nat} {v : Int32} (he : M1 = wI M 7 j 14 v) (hexec : p.tables.exec = Jvm.exec) (hb : c.code = cc) (hts : ∀ w ∈ fg_g, w.before args s = true) (hown : s.vm.findClass own = some m.cls) (hK : va_K D classes (me_T ca) s) (hP : va_P D classes (me_W ad ca M) H) (hD : va_D A (me_W ad ca M)) (hwf : me_wf N M) (hS : va_S A H0 H locs) (hj : j < N 7) (hv : v = 1 ∨ v = 0) (hlink : (Cond.fieldLink own index "FilterGuard$Steps" "isZeroGone" "Z").before args s = true) (hdg : decode cc pc = .ok (.putfield index, 3)) (kk : ∀ (H1 : Heap) (locs1 : List Loc), va_P D classes (me_W ad ca M1) H1 → va_D A (me_W ad ca M1) → me_wf N M1 → va_S A H0 H1 locs1 → W p l e R s m args below meth c H1 locs1 cells slots Q (F0 m (pc + 3) ls rest)) : W p l e R s m args below meth c H locs cells slots Q (F0 m pc ls (.int v :: .ref (ad 7 j) :: rest)) := by
  subst he
  exact me_put (M1 := wI M 7 j 14 v) (k := 7) (f := 14) (C := "FilterGuard$Steps") (T := F_Steps) (Nf := 19) hexec hb hts i_Steps t_Steps t_Steps_ok n_Steps hown hK hP hD hwf hS hj (by decide) rfl (by decide) (by decide) hlink (fun _ h9 => h9) rfl (me_nz hv) (me_fz hv) rfl (fun a b h => me_wIE h) (me_fIw (by decide) (by decide)) hdg (fun H1 locs1 a1 a2 a3 => kk H1 locs1 a1 a2 (me_wfI hwf (fun z => absurd z (by decide)) (fun _ => hv)) a3)
theorem d_Steps_relation_323 : decode prog_11_method_9_code 323 = .ok (.iconst 0, 1) := by decide +kernel
theorem d_Steps_relation_324 : decode prog_11_method_9_code 324 = .ok (.ireturn, 1) := by decide +kernel
theorem d_Steps_relation_315 : decode prog_11_method_9_code 315 = .ok (.iconst 1, 1) := by decide +kernel
theorem d_Steps_relation_316 : decode prog_11_method_9_code 316 = .ok (.goto 4, 3) := by decide +kernel
theorem d_Steps_relation_275 : decode prog_11_method_9_code 275 = .ok (.aload_n 0, 1) := by decide +kernel
theorem d_Steps_relation_276 : decode prog_11_method_9_code 276 = .ok (.iconst 2, 1) := by decide +kernel
theorem d_Steps_relation_277 : decode prog_11_method_9_code 277 = .ok (.putfield 206, 3) := by decide +kernel
theorem d_Steps_relation_280 : decode prog_11_method_9_code 280 = .ok (.aload_n 0, 1) := by decide +kernel
theorem d_Steps_relation_281 : decode prog_11_method_9_code 281 = .ok (.aload_n 1, 1) := by decide +kernel
theorem d_Steps_relation_282 : decode prog_11_method_9_code 282 = .ok (.getfield 76, 3) := by decide +kernel
theorem d_Steps_relation_285 : decode prog_11_method_9_code 285 = .ok (.bipush 8, 2) := by decide +kernel
theorem d_Steps_relation_287 : decode prog_11_method_9_code 287 = .ok (.if_icmp .ne 10, 3) := by decide +kernel
theorem d_Steps_relation_297 : decode prog_11_method_9_code 297 = .ok (.aload_n 2, 1) := by decide +kernel
theorem d_Steps_relation_298 : decode prog_11_method_9_code 298 = .ok (.getfield 194, 3) := by decide +kernel
theorem d_Steps_relation_290 : decode prog_11_method_9_code 290 = .ok (.aload_n 1, 1) := by decide +kernel
theorem d_Steps_relation_291 : decode prog_11_method_9_code 291 = .ok (.getfield 194, 3) := by decide +kernel
theorem d_Steps_relation_294 : decode prog_11_method_9_code 294 = .ok (.goto 7, 3) := by decide +kernel
theorem d_Steps_relation_259 : decode prog_11_method_9_code 259 = .ok (.aload_n 1, 1) := by decide +kernel
theorem d_Steps_relation_260 : decode prog_11_method_9_code 260 = .ok (.invokevirtual 217, 3) := by decide +kernel
theorem u_1325 : Cond.methodLink "FilterGuard$Steps" 217 ⟨"FilterGuard$Cell", "isZero", "()Z"⟩ ∈ fg_g := fg_in (List.mem_of_getElem? (i := 1325) (by decide +kernel)) rfl
theorem u_1328 : Cond.code ⟨"FilterGuard$Cell", "isZero", "()Z"⟩ prog_2_method_9_code 1 (some .boolean) ∈ fg_g := fg_in (List.mem_of_getElem? (i := 1328) (by decide +kernel)) rfl
theorem u_1326 : Cond.instanceMethod ⟨"FilterGuard$Cell", "isZero", "()Z"⟩ ∈ fg_g := fg_in (List.mem_of_getElem? (i := 1326) (by decide +kernel)) rfl
theorem u_1327 : Cond.selects "FilterGuard$Cell" ⟨"FilterGuard$Cell", "isZero", "()Z"⟩ ⟨"FilterGuard$Cell", "isZero", "()Z"⟩ ∈ fg_g := fg_in (List.mem_of_getElem? (i := 1327) (by decide +kernel)) rfl
theorem d_Steps_relation_263 : decode prog_11_method_9_code 263 = .ok (.ifCond .eq 62, 3) := by decide +kernel
theorem d_Steps_relation_266 : decode prog_11_method_9_code 266 = .ok (.aload_n 2, 1) := by decide +kernel
theorem d_Steps_relation_267 : decode prog_11_method_9_code 267 = .ok (.getfield 76, 3) := by decide +kernel
theorem d_Steps_relation_270 : decode prog_11_method_9_code 270 = .ok (.bipush 8, 2) := by decide +kernel
theorem d_Steps_relation_272 : decode prog_11_method_9_code 272 = .ok (.if_icmp .ne 53, 3) := by decide +kernel
theorem d_Steps_relation_238 : decode prog_11_method_9_code 238 = .ok (.istore_n 3, 1) := by decide +kernel
theorem d_Steps_relation_239 : decode prog_11_method_9_code 239 = .ok (.iload_n 3, 1) := by decide +kernel
theorem d_Steps_relation_240 : decode prog_11_method_9_code 240 = .ok (.ifCond .eq 85, 3) := by decide +kernel
theorem d_Steps_relation_243 : decode prog_11_method_9_code 243 = .ok (.aload_n 1, 1) := by decide +kernel
theorem d_Steps_relation_244 : decode prog_11_method_9_code 244 = .ok (.getfield 76, 3) := by decide +kernel
theorem d_Steps_relation_247 : decode prog_11_method_9_code 247 = .ok (.bipush 8, 2) := by decide +kernel
theorem d_Steps_relation_249 : decode prog_11_method_9_code 249 = .ok (.if_icmp .ne 10, 3) := by decide +kernel
theorem d_Steps_relation_252 : decode prog_11_method_9_code 252 = .ok (.aload_n 2, 1) := by decide +kernel
theorem d_Steps_relation_253 : decode prog_11_method_9_code 253 = .ok (.invokevirtual 217, 3) := by decide +kernel
theorem d_Steps_relation_256 : decode prog_11_method_9_code 256 = .ok (.ifCond .ne 19, 3) := by decide +kernel
theorem d_Steps_relation_233 : decode prog_11_method_9_code 233 = .ok (.iconst 1, 1) := by decide +kernel
theorem d_Steps_relation_234 : decode prog_11_method_9_code 234 = .ok (.goto 4, 3) := by decide +kernel
theorem d_Steps_relation_199 : decode prog_11_method_9_code 199 = .ok (.aload_n 0, 1) := by decide +kernel
theorem d_Steps_relation_200 : decode prog_11_method_9_code 200 = .ok (.getfield 44, 3) := by decide +kernel
theorem d_Steps_relation_203 : decode prog_11_method_9_code 203 = .ok (.getfield 136, 3) := by decide +kernel
theorem d_Steps_relation_206 : decode prog_11_method_9_code 206 = .ok (.ifCond .eq 6, 3) := by decide +kernel
theorem d_Steps_relation_212 : decode prog_11_method_9_code 212 = .ok (.aload_n 0, 1) := by decide +kernel
theorem d_Steps_relation_213 : decode prog_11_method_9_code 213 = .ok (.getfield 44, 3) := by decide +kernel
theorem d_Steps_relation_216 : decode prog_11_method_9_code 216 = .ok (.getfield 133, 3) := by decide +kernel
theorem d_Steps_relation_219 : decode prog_11_method_9_code 219 = .ok (.ifCond .eq 14, 3) := by decide +kernel
theorem d_Steps_relation_222 : decode prog_11_method_9_code 222 = .ok (.aload_n 0, 1) := by decide +kernel
theorem d_Steps_relation_223 : decode prog_11_method_9_code 223 = .ok (.getfield 44, 3) := by decide +kernel
theorem d_Steps_relation_226 : decode prog_11_method_9_code 226 = .ok (.getfield 133, 3) := by decide +kernel
theorem d_Steps_relation_229 : decode prog_11_method_9_code 229 = .ok (.iconst 4, 1) := by decide +kernel
theorem d_Steps_relation_230 : decode prog_11_method_9_code 230 = .ok (.if_icmp .ne 7, 3) := by decide +kernel
theorem d_Steps_relation_237 : decode prog_11_method_9_code 237 = .ok (.iconst 0, 1) := by decide +kernel
theorem d_Steps_relation_209 : decode prog_11_method_9_code 209 = .ok (.bipush 12, 2) := by decide +kernel
theorem d_Steps_relation_211 : decode prog_11_method_9_code 211 = .ok (.ireturn, 1) := by decide +kernel
theorem d_Steps_relation_78 : decode prog_11_method_9_code 78 = .ok (.aload_n 0, 1) := by decide +kernel
theorem d_Steps_relation_79 : decode prog_11_method_9_code 79 = .ok (.iconst 1, 1) := by decide +kernel
theorem d_Steps_relation_80 : decode prog_11_method_9_code 80 = .ok (.putfield 206, 3) := by decide +kernel
theorem d_Steps_relation_83 : decode prog_11_method_9_code 83 = .ok (.aload_n 0, 1) := by decide +kernel
theorem d_Steps_relation_84 : decode prog_11_method_9_code 84 = .ok (.getfield 32, 3) := by decide +kernel
theorem g_Steps_15 {p : Program} {l : Launch} {e : Env} {R : Room} {s : Jvm.State} {m : MethodId} {args : Array Value} {below : List Frame} {meth : Method} {c : Code} {H : Heap} {locs : List Loc} {cells slots : Nat} {Q : Jvm.State → Prop} {cc : ByteArray} {pc : Nat} {ls : Array Slot} {rest : List Value} {D : va_G} {ad : Nat → Nat → Nat} {ca : Nat → ClassId} {M : me_M} {N : Nat → Nat} {own : String} {index j : Nat} (hexec : p.tables.exec = Jvm.exec) (hb : c.code = cc) (hts : ∀ w ∈ fg_g, w.before args s = true) (hown : s.vm.findClass own = some m.cls) (hK : va_K D classes (me_T ca) s) (hP : va_P D classes (me_W ad ca M) H) (hwf : me_wf N M) (hj : j < N 7) (hlink : (Cond.fieldLink own index "FilterGuard$Steps" "toGone" "LFilterGuard$Num;").before args s = true) (hdg : decode cc pc = .ok (.getfield index, 3)) (kk : W p l e R s m args below meth c H locs cells slots Q (F0 m (pc + 3) ls (va_rf ((mR M 7 j 15).map (ad 11)) :: rest))) : W p l e R s m args below meth c H locs cells slots Q (F0 m pc ls (.ref (ad 7 j) :: rest)) := me_get (k := 7) (f := 15) (C := "FilterGuard$Steps") (T := F_Steps) (Nf := 19) hexec hb hts i_Steps hown hK hP hwf hj (by decide) rfl (by decide) (by decide) hlink (fun _ h9 => h9) hdg kk
theorem d_Steps_relation_87 : decode prog_11_method_9_code 87 = .ok (.aload_n 1, 1) := by decide +kernel
theorem d_Steps_relation_88 : decode prog_11_method_9_code 88 = .ok (.getfield 143, 3) := by decide +kernel
theorem d_Steps_relation_91 : decode prog_11_method_9_code 91 = .ok (.invokevirtual 158, 3) := by decide +kernel
theorem d_Steps_relation_94 : decode prog_11_method_9_code 94 = .ok (.aload_n 0, 1) := by decide +kernel
theorem d_Steps_relation_95 : decode prog_11_method_9_code 95 = .ok (.getfield 35, 3) := by decide +kernel
theorem g_Steps_16 {p : Program} {l : Launch} {e : Env} {R : Room} {s : Jvm.State} {m : MethodId} {args : Array Value} {below : List Frame} {meth : Method} {c : Code} {H : Heap} {locs : List Loc} {cells slots : Nat} {Q : Jvm.State → Prop} {cc : ByteArray} {pc : Nat} {ls : Array Slot} {rest : List Value} {D : va_G} {ad : Nat → Nat → Nat} {ca : Nat → ClassId} {M : me_M} {N : Nat → Nat} {own : String} {index j : Nat} (hexec : p.tables.exec = Jvm.exec) (hb : c.code = cc) (hts : ∀ w ∈ fg_g, w.before args s = true) (hown : s.vm.findClass own = some m.cls) (hK : va_K D classes (me_T ca) s) (hP : va_P D classes (me_W ad ca M) H) (hwf : me_wf N M) (hj : j < N 7) (hlink : (Cond.fieldLink own index "FilterGuard$Steps" "fromGone" "LFilterGuard$Num;").before args s = true) (hdg : decode cc pc = .ok (.getfield index, 3)) (kk : W p l e R s m args below meth c H locs cells slots Q (F0 m (pc + 3) ls (va_rf ((mR M 7 j 16).map (ad 11)) :: rest))) : W p l e R s m args below meth c H locs cells slots Q (F0 m pc ls (.ref (ad 7 j) :: rest)) := me_get (k := 7) (f := 16) (C := "FilterGuard$Steps") (T := F_Steps) (Nf := 19) hexec hb hts i_Steps hown hK hP hwf hj (by decide) rfl (by decide) (by decide) hlink (fun _ h9 => h9) hdg kk
theorem d_Steps_relation_98 : decode prog_11_method_9_code 98 = .ok (.aload_n 2, 1) := by decide +kernel
theorem d_Steps_relation_99 : decode prog_11_method_9_code 99 = .ok (.getfield 143, 3) := by decide +kernel
theorem d_Steps_relation_102 : decode prog_11_method_9_code 102 = .ok (.invokevirtual 158, 3) := by decide +kernel
theorem d_Steps_relation_105 : decode prog_11_method_9_code 105 = .ok (.aload_n 0, 1) := by decide +kernel
theorem d_Steps_relation_106 : decode prog_11_method_9_code 106 = .ok (.aload_n 0, 1) := by decide +kernel
theorem d_Steps_relation_107 : decode prog_11_method_9_code 107 = .ok (.getfield 12, 3) := by decide +kernel
theorem d_Steps_relation_110 : decode prog_11_method_9_code 110 = .ok (.aload_n 0, 1) := by decide +kernel
theorem d_Steps_relation_111 : decode prog_11_method_9_code 111 = .ok (.getfield 44, 3) := by decide +kernel
theorem d_Steps_relation_114 : decode prog_11_method_9_code 114 = .ok (.getfield 133, 3) := by decide +kernel
theorem d_Steps_relation_117 : decode prog_11_method_9_code 117 = .ok (.aload_n 0, 1) := by decide +kernel
theorem d_Steps_relation_118 : decode prog_11_method_9_code 118 = .ok (.getfield 32, 3) := by decide +kernel
theorem d_Steps_relation_121 : decode prog_11_method_9_code 121 = .ok (.aload_n 0, 1) := by decide +kernel
theorem d_Steps_relation_122 : decode prog_11_method_9_code 122 = .ok (.getfield 35, 3) := by decide +kernel
theorem d_Steps_relation_125 : decode prog_11_method_9_code 125 = .ok (.aload_n 0, 1) := by decide +kernel
theorem d_Steps_relation_126 : decode prog_11_method_9_code 126 = .ok (.getfield 44, 3) := by decide +kernel
theorem d_Steps_relation_129 : decode prog_11_method_9_code 129 = .ok (.getfield 136, 3) := by decide +kernel
theorem d_Steps_relation_132 : decode prog_11_method_9_code 132 = .ok (.invokevirtual 209, 3) := by decide +kernel
theorem u_1275 : Cond.methodLink "FilterGuard$Steps" 209 ⟨"FilterGuard$Reckoner", "tell", "(ILFilterGuard$Num;LFilterGuard$Num;Z)Z"⟩ ∈ fg_g := fg_in (List.mem_of_getElem? (i := 1275) (by decide +kernel)) rfl
theorem u_1278 : Cond.code ⟨"FilterGuard$Reckoner", "tell", "(ILFilterGuard$Num;LFilterGuard$Num;Z)Z"⟩ prog_9_method_15_code 8 (some .boolean) ∈ fg_g := fg_in (List.mem_of_getElem? (i := 1278) (by decide +kernel)) rfl
theorem u_1276 : Cond.instanceMethod ⟨"FilterGuard$Reckoner", "tell", "(ILFilterGuard$Num;LFilterGuard$Num;Z)Z"⟩ ∈ fg_g := fg_in (List.mem_of_getElem? (i := 1276) (by decide +kernel)) rfl
theorem u_1277 : Cond.selects "FilterGuard$Reckoner" ⟨"FilterGuard$Reckoner", "tell", "(ILFilterGuard$Num;LFilterGuard$Num;Z)Z"⟩ ⟨"FilterGuard$Reckoner", "tell", "(ILFilterGuard$Num;LFilterGuard$Num;Z)Z"⟩ ∈ fg_g := fg_in (List.mem_of_getElem? (i := 1277) (by decide +kernel)) rfl
theorem d_Steps_relation_135 : decode prog_11_method_9_code 135 = .ok (.putfield 200, 3) := by decide +kernel
theorem u_464 : Cond.fieldLink "FilterGuard$Steps" 200 "FilterGuard$Steps" "canGo" "Z" ∈ fg_g := fg_in (List.mem_of_getElem? (i := 464) (by decide +kernel)) rfl
theorem p_Steps_8 {p : Program} {l : Launch} {e : Env} {R : Room} {s : Jvm.State} {m : MethodId} {args : Array Value} {below : List Frame} {meth : Method} {c : Code} {H : Heap} {locs : List Loc} {cells slots : Nat} {Q : Jvm.State → Prop} {cc : ByteArray} {pc : Nat} {ls : Array Slot} {rest : List Value} {D : va_G} {A : Nat → Prop} {H0 : Heap} {ad : Nat → Nat → Nat} {ca : Nat → ClassId} {M M1 : me_M} {N : Nat → Nat} {own : String} {index j : Nat} {v : Int32} (he : M1 = wI M 7 j 8 v) (hexec : p.tables.exec = Jvm.exec) (hb : c.code = cc) (hts : ∀ w ∈ fg_g, w.before args s = true) (hown : s.vm.findClass own = some m.cls) (hK : va_K D classes (me_T ca) s) (hP : va_P D classes (me_W ad ca M) H) (hD : va_D A (me_W ad ca M)) (hwf : me_wf N M) (hS : va_S A H0 H locs) (hj : j < N 7) (hv : v = 1 ∨ v = 0) (hlink : (Cond.fieldLink own index "FilterGuard$Steps" "canGo" "Z").before args s = true) (hdg : decode cc pc = .ok (.putfield index, 3)) (kk : ∀ (H1 : Heap) (locs1 : List Loc), va_P D classes (me_W ad ca M1) H1 → va_D A (me_W ad ca M1) → me_wf N M1 → va_S A H0 H1 locs1 → W p l e R s m args below meth c H1 locs1 cells slots Q (F0 m (pc + 3) ls rest)) : W p l e R s m args below meth c H locs cells slots Q (F0 m pc ls (.int v :: .ref (ad 7 j) :: rest)) := by
  subst he
  exact me_put (M1 := wI M 7 j 8 v) (k := 7) (f := 8) (C := "FilterGuard$Steps") (T := F_Steps) (Nf := 19) hexec hb hts i_Steps t_Steps t_Steps_ok n_Steps hown hK hP hD hwf hS hj (by decide) rfl (by decide) (by decide) hlink (fun _ h9 => h9) rfl (me_nz hv) (me_fz hv) rfl (fun a b h => me_wIE h) (me_fIw (by decide) (by decide)) hdg (fun H1 locs1 a1 a2 a3 => kk H1 locs1 a1 a2 (me_wfI hwf (fun z => absurd z (by decide)) (fun _ => hv)) a3)
theorem d_Steps_relation_138 : decode prog_11_method_9_code 138 = .ok (.aload_n 0, 1) := by decide +kernel
theorem d_Steps_relation_139 : decode prog_11_method_9_code 139 = .ok (.getfield 38, 3) := by decide +kernel
theorem g_Steps_17 {p : Program} {l : Launch} {e : Env} {R : Room} {s : Jvm.State} {m : MethodId} {args : Array Value} {below : List Frame} {meth : Method} {c : Code} {H : Heap} {locs : List Loc} {cells slots : Nat} {Q : Jvm.State → Prop} {cc : ByteArray} {pc : Nat} {ls : Array Slot} {rest : List Value} {D : va_G} {ad : Nat → Nat → Nat} {ca : Nat → ClassId} {M : me_M} {N : Nat → Nat} {own : String} {index j : Nat} (hexec : p.tables.exec = Jvm.exec) (hb : c.code = cc) (hts : ∀ w ∈ fg_g, w.before args s = true) (hown : s.vm.findClass own = some m.cls) (hK : va_K D classes (me_T ca) s) (hP : va_P D classes (me_W ad ca M) H) (hwf : me_wf N M) (hj : j < N 7) (hlink : (Cond.fieldLink own index "FilterGuard$Steps" "toFallen" "LFilterGuard$Num;").before args s = true) (hdg : decode cc pc = .ok (.getfield index, 3)) (kk : W p l e R s m args below meth c H locs cells slots Q (F0 m (pc + 3) ls (va_rf ((mR M 7 j 17).map (ad 11)) :: rest))) : W p l e R s m args below meth c H locs cells slots Q (F0 m pc ls (.ref (ad 7 j) :: rest)) := me_get (k := 7) (f := 17) (C := "FilterGuard$Steps") (T := F_Steps) (Nf := 19) hexec hb hts i_Steps hown hK hP hwf hj (by decide) rfl (by decide) (by decide) hlink (fun _ h9 => h9) hdg kk
theorem d_Steps_relation_142 : decode prog_11_method_9_code 142 = .ok (.aload_n 1, 1) := by decide +kernel
theorem d_Steps_relation_143 : decode prog_11_method_9_code 143 = .ok (.getfield 143, 3) := by decide +kernel
theorem d_Steps_relation_146 : decode prog_11_method_9_code 146 = .ok (.invokevirtual 158, 3) := by decide +kernel
theorem d_Steps_relation_149 : decode prog_11_method_9_code 149 = .ok (.aload_n 0, 1) := by decide +kernel
theorem d_Steps_relation_150 : decode prog_11_method_9_code 150 = .ok (.getfield 41, 3) := by decide +kernel
theorem g_Steps_18 {p : Program} {l : Launch} {e : Env} {R : Room} {s : Jvm.State} {m : MethodId} {args : Array Value} {below : List Frame} {meth : Method} {c : Code} {H : Heap} {locs : List Loc} {cells slots : Nat} {Q : Jvm.State → Prop} {cc : ByteArray} {pc : Nat} {ls : Array Slot} {rest : List Value} {D : va_G} {ad : Nat → Nat → Nat} {ca : Nat → ClassId} {M : me_M} {N : Nat → Nat} {own : String} {index j : Nat} (hexec : p.tables.exec = Jvm.exec) (hb : c.code = cc) (hts : ∀ w ∈ fg_g, w.before args s = true) (hown : s.vm.findClass own = some m.cls) (hK : va_K D classes (me_T ca) s) (hP : va_P D classes (me_W ad ca M) H) (hwf : me_wf N M) (hj : j < N 7) (hlink : (Cond.fieldLink own index "FilterGuard$Steps" "fromFallen" "LFilterGuard$Num;").before args s = true) (hdg : decode cc pc = .ok (.getfield index, 3)) (kk : W p l e R s m args below meth c H locs cells slots Q (F0 m (pc + 3) ls (va_rf ((mR M 7 j 18).map (ad 11)) :: rest))) : W p l e R s m args below meth c H locs cells slots Q (F0 m pc ls (.ref (ad 7 j) :: rest)) := me_get (k := 7) (f := 18) (C := "FilterGuard$Steps") (T := F_Steps) (Nf := 19) hexec hb hts i_Steps hown hK hP hwf hj (by decide) rfl (by decide) (by decide) hlink (fun _ h9 => h9) hdg kk
theorem d_Steps_relation_153 : decode prog_11_method_9_code 153 = .ok (.aload_n 2, 1) := by decide +kernel
theorem d_Steps_relation_154 : decode prog_11_method_9_code 154 = .ok (.getfield 143, 3) := by decide +kernel
theorem d_Steps_relation_157 : decode prog_11_method_9_code 157 = .ok (.invokevirtual 158, 3) := by decide +kernel
theorem d_Steps_relation_160 : decode prog_11_method_9_code 160 = .ok (.aload_n 0, 1) := by decide +kernel
theorem d_Steps_relation_161 : decode prog_11_method_9_code 161 = .ok (.aload_n 0, 1) := by decide +kernel
theorem d_Steps_relation_162 : decode prog_11_method_9_code 162 = .ok (.getfield 12, 3) := by decide +kernel
theorem d_Steps_relation_165 : decode prog_11_method_9_code 165 = .ok (.getstatic 213, 3) := by decide +kernel
theorem o_1323 : Cond.fieldLinkNest "FilterGuard$Steps" 213 "FilterGuard" "CONTRARY" "[I" "FilterGuard" ∈ lw_tbl := List.mem_of_getElem? (i := 1323) (by decide +kernel)
theorem d_Steps_relation_168 : decode prog_11_method_9_code 168 = .ok (.aload_n 0, 1) := by decide +kernel
theorem d_Steps_relation_169 : decode prog_11_method_9_code 169 = .ok (.getfield 44, 3) := by decide +kernel
theorem d_Steps_relation_172 : decode prog_11_method_9_code 172 = .ok (.getfield 133, 3) := by decide +kernel
theorem d_Steps_relation_175 : decode prog_11_method_9_code 175 = .ok (.iaload, 1) := by decide +kernel
theorem d_Steps_relation_176 : decode prog_11_method_9_code 176 = .ok (.aload_n 0, 1) := by decide +kernel
theorem d_Steps_relation_177 : decode prog_11_method_9_code 177 = .ok (.getfield 38, 3) := by decide +kernel
theorem d_Steps_relation_180 : decode prog_11_method_9_code 180 = .ok (.aload_n 0, 1) := by decide +kernel
theorem d_Steps_relation_181 : decode prog_11_method_9_code 181 = .ok (.getfield 41, 3) := by decide +kernel
theorem d_Steps_relation_184 : decode prog_11_method_9_code 184 = .ok (.aload_n 0, 1) := by decide +kernel
theorem d_Steps_relation_185 : decode prog_11_method_9_code 185 = .ok (.getfield 44, 3) := by decide +kernel
theorem d_Steps_relation_188 : decode prog_11_method_9_code 188 = .ok (.getfield 136, 3) := by decide +kernel
theorem d_Steps_relation_191 : decode prog_11_method_9_code 191 = .ok (.invokevirtual 209, 3) := by decide +kernel
theorem d_Steps_relation_194 : decode prog_11_method_9_code 194 = .ok (.putfield 203, 3) := by decide +kernel
theorem u_466 : Cond.fieldLink "FilterGuard$Steps" 203 "FilterGuard$Steps" "canFall" "Z" ∈ fg_g := fg_in (List.mem_of_getElem? (i := 466) (by decide +kernel)) rfl
theorem p_Steps_9 {p : Program} {l : Launch} {e : Env} {R : Room} {s : Jvm.State} {m : MethodId} {args : Array Value} {below : List Frame} {meth : Method} {c : Code} {H : Heap} {locs : List Loc} {cells slots : Nat} {Q : Jvm.State → Prop} {cc : ByteArray} {pc : Nat} {ls : Array Slot} {rest : List Value} {D : va_G} {A : Nat → Prop} {H0 : Heap} {ad : Nat → Nat → Nat} {ca : Nat → ClassId} {M M1 : me_M} {N : Nat → Nat} {own : String} {index j : Nat} {v : Int32} (he : M1 = wI M 7 j 9 v) (hexec : p.tables.exec = Jvm.exec) (hb : c.code = cc) (hts : ∀ w ∈ fg_g, w.before args s = true) (hown : s.vm.findClass own = some m.cls) (hK : va_K D classes (me_T ca) s) (hP : va_P D classes (me_W ad ca M) H) (hD : va_D A (me_W ad ca M)) (hwf : me_wf N M) (hS : va_S A H0 H locs) (hj : j < N 7) (hv : v = 1 ∨ v = 0) (hlink : (Cond.fieldLink own index "FilterGuard$Steps" "canFall" "Z").before args s = true) (hdg : decode cc pc = .ok (.putfield index, 3)) (kk : ∀ (H1 : Heap) (locs1 : List Loc), va_P D classes (me_W ad ca M1) H1 → va_D A (me_W ad ca M1) → me_wf N M1 → va_S A H0 H1 locs1 → W p l e R s m args below meth c H1 locs1 cells slots Q (F0 m (pc + 3) ls rest)) : W p l e R s m args below meth c H locs cells slots Q (F0 m pc ls (.int v :: .ref (ad 7 j) :: rest)) := by
  subst he
  exact me_put (M1 := wI M 7 j 9 v) (k := 7) (f := 9) (C := "FilterGuard$Steps") (T := F_Steps) (Nf := 19) hexec hb hts i_Steps t_Steps t_Steps_ok n_Steps hown hK hP hD hwf hS hj (by decide) rfl (by decide) (by decide) hlink (fun _ h9 => h9) rfl (me_nz hv) (me_fz hv) rfl (fun a b h => me_wIE h) (me_fIw (by decide) (by decide)) hdg (fun H1 locs1 a1 a2 a3 => kk H1 locs1 a1 a2 (me_wfI hwf (fun z => absurd z (by decide)) (fun _ => hv)) a3)
theorem d_Steps_relation_197 : decode prog_11_method_9_code 197 = .ok (.iconst 0, 1) := by decide +kernel
theorem d_Steps_relation_198 : decode prog_11_method_9_code 198 = .ok (.ireturn, 1) := by decide +kernel
theorem d_Steps_relation_0 : decode prog_11_method_9_code 0 = .ok (.aload_n 0, 1) := by decide +kernel
theorem d_Steps_relation_1 : decode prog_11_method_9_code 1 = .ok (.getfield 66, 3) := by decide +kernel
theorem d_Steps_relation_4 : decode prog_11_method_9_code 4 = .ok (.aload_n 0, 1) := by decide +kernel
theorem d_Steps_relation_5 : decode prog_11_method_9_code 5 = .ok (.getfield 44, 3) := by decide +kernel
theorem d_Steps_relation_8 : decode prog_11_method_9_code 8 = .ok (.getfield 73, 3) := by decide +kernel
theorem d_Steps_relation_11 : decode prog_11_method_9_code 11 = .ok (.aaload, 1) := by decide +kernel
theorem d_Steps_relation_12 : decode prog_11_method_9_code 12 = .ok (.astore_n 1, 1) := by decide +kernel
theorem d_Steps_relation_13 : decode prog_11_method_9_code 13 = .ok (.aload_n 0, 1) := by decide +kernel
theorem d_Steps_relation_14 : decode prog_11_method_9_code 14 = .ok (.invokevirtual 129, 3) := by decide +kernel
theorem d_Steps_relation_17 : decode prog_11_method_9_code 17 = .ok (.astore_n 2, 1) := by decide +kernel
theorem d_Steps_relation_18 : decode prog_11_method_9_code 18 = .ok (.aload_n 0, 1) := by decide +kernel
theorem d_Steps_relation_19 : decode prog_11_method_9_code 19 = .ok (.iconst 1, 1) := by decide +kernel
theorem d_Steps_relation_20 : decode prog_11_method_9_code 20 = .ok (.putfield 200, 3) := by decide +kernel
theorem d_Steps_relation_23 : decode prog_11_method_9_code 23 = .ok (.aload_n 0, 1) := by decide +kernel
theorem d_Steps_relation_24 : decode prog_11_method_9_code 24 = .ok (.iconst 1, 1) := by decide +kernel
theorem d_Steps_relation_25 : decode prog_11_method_9_code 25 = .ok (.putfield 203, 3) := by decide +kernel
theorem d_Steps_relation_28 : decode prog_11_method_9_code 28 = .ok (.aload_n 0, 1) := by decide +kernel
theorem d_Steps_relation_29 : decode prog_11_method_9_code 29 = .ok (.iconst 0, 1) := by decide +kernel
theorem d_Steps_relation_30 : decode prog_11_method_9_code 30 = .ok (.putfield 206, 3) := by decide +kernel
theorem d_Steps_relation_33 : decode prog_11_method_9_code 33 = .ok (.aload_n 1, 1) := by decide +kernel
theorem d_Steps_relation_34 : decode prog_11_method_9_code 34 = .ok (.getfield 76, 3) := by decide +kernel
theorem d_Steps_relation_37 : decode prog_11_method_9_code 37 = .ok (.iconst 1, 1) := by decide +kernel
theorem d_Steps_relation_38 : decode prog_11_method_9_code 38 = .ok (.if_icmp .ne 161, 3) := by decide +kernel
theorem d_Steps_relation_41 : decode prog_11_method_9_code 41 = .ok (.aload_n 2, 1) := by decide +kernel
theorem d_Steps_relation_42 : decode prog_11_method_9_code 42 = .ok (.getfield 76, 3) := by decide +kernel
theorem d_Steps_relation_45 : decode prog_11_method_9_code 45 = .ok (.iconst 1, 1) := by decide +kernel
theorem d_Steps_relation_46 : decode prog_11_method_9_code 46 = .ok (.if_icmp .ne 153, 3) := by decide +kernel
theorem d_Steps_relation_49 : decode prog_11_method_9_code 49 = .ok (.aload_n 0, 1) := by decide +kernel
theorem d_Steps_relation_50 : decode prog_11_method_9_code 50 = .ok (.getfield 44, 3) := by decide +kernel
theorem d_Steps_relation_53 : decode prog_11_method_9_code 53 = .ok (.getfield 79, 3) := by decide +kernel
theorem d_Steps_relation_56 : decode prog_11_method_9_code 56 = .ok (.ifCond .eq 22, 3) := by decide +kernel
theorem d_Steps_relation_59 : decode prog_11_method_9_code 59 = .ok (.aload_n 0, 1) := by decide +kernel
theorem d_Steps_relation_60 : decode prog_11_method_9_code 60 = .ok (.getfield 44, 3) := by decide +kernel
theorem d_Steps_relation_63 : decode prog_11_method_9_code 63 = .ok (.getfield 73, 3) := by decide +kernel
theorem d_Steps_relation_66 : decode prog_11_method_9_code 66 = .ok (.aload_n 0, 1) := by decide +kernel
theorem d_Steps_relation_67 : decode prog_11_method_9_code 67 = .ok (.getfield 44, 3) := by decide +kernel
theorem d_Steps_relation_70 : decode prog_11_method_9_code 70 = .ok (.getfield 82, 3) := by decide +kernel
theorem d_Steps_relation_73 : decode prog_11_method_9_code 73 = .ok (.if_icmp .ne 5, 3) := by decide +kernel
theorem d_Steps_relation_76 : decode prog_11_method_9_code 76 = .ok (.iconst 0, 1) := by decide +kernel
theorem d_Steps_relation_77 : decode prog_11_method_9_code 77 = .ok (.ireturn, 1) := by decide +kernel
abbrev y_Steps_relation : MethodName := ⟨"FilterGuard$Steps", "relation", "()I"⟩
def rm_Steps_relation : Room := { frames := 5, cells := 0, slots := 0, locals := 134 }
abbrev q_Steps_relation (D : va_G) (ad : Nat → Nat → Nat) (ca : Nat → ClassId) (N : Nat → Nat) (M0 MZ : me_M) (RZ : Int32) (A : Nat → Prop) : Array Value → Jvm.State → Outcome → Jvm.State → Prop := va_Qi (fun r (_ : Unit) => r = RZ ∧ me_wf N MZ ∧ me_kp M0 MZ) (fg_B D A (fun _ => me_W ad ca MZ) (fun _ => [])) A
set_option maxHeartbeats 4000000 in
set_option maxRecDepth 100000 in
theorem c_Steps_relation (l : Launch) (D : va_G) (ad : Nat → Nat → Nat) (ca : Nat → ClassId) (N : Nat → Nat) (M0 MZ : me_M) (RZ : Int32) (j0 : Nat) (h : f_Steps_relation M0 j0 = (some (MZ, RZ))) (hwf : me_wf N M0) (hj0 : j0 < N 7) (sz : Nat) : Met l y_Steps_relation (fg_w y_Steps_relation prog_11_method_9_code 4 (some .int)) rm_Steps_relation (va_Pc [.ref (ad 7 j0)] (fz_P D (me_T ca) (me_W ad ca M0) sz)) (q_Steps_relation D ad ca N M0 MZ RZ (va_A (me_W ad ca M0) sz)) rm_Steps_relation.cells rm_Steps_relation.slots (va_A (me_W ad ca M0) sz) := by
  refine fz_enter (fun A => q_Steps_relation D ad ca N M0 MZ RZ A) (by decide +kernel) (Nat.le_of_ble_eq_true rfl) ?_
  intro p e s m below meth c ls A hx hb hml hown hts hr hlocks hin hP hK hD hS hA hX hl hz
  have hl : lv_has ls 4 [(0, .ref (ad 7 j0))] := hl
  unfold f_Steps_relation at h
  have hkp : me_kp M0 M0 := me_kp.rf
  have hkb := hkp
  have b_354 : ∀ (M : me_M) (y1 : Nat) (y2 : Nat) (H : Heap) (locs : List Loc) (ls : Array Slot), f_Steps_relation_b354 j0 M y1 y2 = (some (MZ, RZ)) → (y1 < N 10) → (y2 < N 10) → me_wf N M → me_kp M0 M → va_P D classes (me_W ad ca M) H → va_D A (me_W ad ca M) → va_S A s.heap H locs → lv_has ls 4 [(0, .ref (ad 7 j0)), (1, .ref (ad 10 y1)), (2, .ref (ad 10 y2))] → W p l e rm_Steps_relation s m [.ref (ad 7 j0)].toArray below meth c H locs 0 0 (MQ below (q_Steps_relation D ad ca N M0 MZ RZ A) [.ref (ad 7 j0)].toArray s rm_Steps_relation.cells rm_Steps_relation.slots A) (F0 m 354 ls []) := by
    intro M y1 y2 H locs ls h hy1 hy2 hwf hkp hP hD hS hl
    unfold f_Steps_relation_b354 at h
    have hkb := hkp
    refine lv_aload_n hx hb d_Steps_relation_354 rfl (lv_at hl 1 rfl) ?_
    refine g_Cell_0 hx hb hts hown hK hP hwf hy1 (hts _ u_422) d_Steps_relation_355 ?_
    refine lv_iconst (v := 5) hx hb d_Steps_relation_358 (by decide) ?_
    refine lv_icmp_ne (tgt := 389) hx hb d_Steps_relation_359 (by decide) (fun c1 => ?_) (fun c1 => ?_)
    · have h := if_f c1 h
      refine lv_bipush (v := 12) hx hb d_Steps_relation_389 (by decide) ?_
      exact me_reti (me_kp M0) h hx hb hr hlocks hwf hkp hP hK hD hS d_Steps_relation_391
    have h := if_t c1 h
    refine lv_aload_n hx hb d_Steps_relation_362 rfl (lv_at hl 2 rfl) ?_
    refine g_Cell_0 hx hb hts hown hK hP hwf hy2 (hts _ u_422) d_Steps_relation_363 ?_
    refine lv_iconst (v := 4) hx hb d_Steps_relation_366 (by decide) ?_
    refine lv_icmp_ne (tgt := 389) hx hb d_Steps_relation_367 (by decide) (fun c2 => ?_) (fun c2 => ?_)
    · have h := if_f c2 h
      refine lv_bipush (v := 12) hx hb d_Steps_relation_389 (by decide) ?_
      exact me_reti (me_kp M0) h hx hb hr hlocks hwf hkp hP hK hD hS d_Steps_relation_391
    have h := if_t c2 h
    refine lv_aload_n hx hb d_Steps_relation_370 rfl (lv_at hl 0 rfl) ?_
    refine lv_aload_n hx hb d_Steps_relation_371 rfl (lv_at hl 2 rfl) ?_
    refine lv_aload_n hx hb d_Steps_relation_372 rfl (lv_at hl 0 rfl) ?_
    refine lv_aload_n hx hb d_Steps_relation_373 rfl (lv_at hl 0 rfl) ?_
    refine g_Steps_0 hx hb hts hown hK hP hwf hj0 (hts _ u_455) d_Steps_relation_374 ?_
    obtain ⟨j3, e4, h⟩ := bd_ob h
    have hj3 : j3 < N 2 := (hwf.2.1 7 j0 0 _ e4 (by decide) hj0)
    refine me_opt (j := j3) e4 ?_
    refine g_Code_12 hx hb hts hown hK hP hwf hj3 (hts _ u_262) d_Steps_relation_377 ?_
    obtain ⟨M5, r6, eM5, h⟩ := b2_ob h
    refine me_theni0 (M1 := M5) (me_runV (C := "FilterGuard$Steps") (As := [.int (mI M 2 j3 12)]) (rest := [.ref (ad 10 y2), .ref (ad 7 j0)]) ⟨hx, hb, hml, hown, hts⟩ (c_Steps_turned l D ad ca N M M5 r6 j0 (mI M 2 j3 12) eM5 hwf hj0 _) rfl (by show fg_nm y_Steps_turned 1; decide +kernel) u_1334 u_1336 u_41 u_185 u_1337 ⟨Nat.le_of_ble_eq_true rfl, Nat.le_of_ble_eq_true rfl⟩ hX hz hK hP hD hwf hS hA hj0 (by decide) rfl rfl rfl hl.1 (Nat.le_of_ble_eq_true rfl) d_Steps_relation_380 ⟨Nat.le_of_ble_eq_true rfl, Nat.le_of_ble_eq_true rfl⟩) hP hD hK hS hA rfl rfl (fun H locs hw hP hD hS => ?_)
    obtain ⟨hwf, hk9⟩ := hw
    have hkp := hkp.tr hk9
    obtain ⟨M7, r8, eM7, h⟩ := b2_ob h
    refine me_theni0 (M1 := M7) (me_runV (C := "FilterGuard$Steps") (As := [.ref (ad 10 y2), .int r6]) (rest := []) ⟨hx, hb, hml, hown, hts⟩ (c_Steps_relateToEnd l D ad ca N M5 M7 r8 j0 y2 r6 eM7 hwf hj0 hy2 _) rfl (by show fg_nm y_Steps_relateToEnd 2; decide +kernel) u_1330 u_1332 u_40 u_185 u_1333 ⟨Nat.le_of_ble_eq_true rfl, Nat.le_of_ble_eq_true rfl⟩ hX hz hK hP hD hwf hS hA hj0 (by decide) rfl rfl rfl hl.1 (Nat.le_of_ble_eq_true rfl) d_Steps_relation_383 ⟨Nat.le_of_ble_eq_true rfl, Nat.le_of_ble_eq_true rfl⟩) hP hD hK hS hA rfl rfl (fun H locs hw hP hD hS => ?_)
    obtain ⟨hwf, hk9⟩ := hw
    have hkp := hkp.tr hk9
    refine lv_goto (tgt := 391) hx hb d_Steps_relation_386 (by decide) ?_
    exact me_reti (me_kp M0) h hx hb hr hlocks hwf hkp hP hK hD hS d_Steps_relation_391
  have b_325 : ∀ (M : me_M) (y1 : Nat) (y2 : Nat) (H : Heap) (locs : List Loc) (ls : Array Slot), f_Steps_relation_b325 j0 M y1 y2 = (some (MZ, RZ)) → (y1 < N 10) → (y2 < N 10) → me_wf N M → me_kp M0 M → va_P D classes (me_W ad ca M) H → va_D A (me_W ad ca M) → va_S A s.heap H locs → lv_has ls 4 [(0, .ref (ad 7 j0)), (1, .ref (ad 10 y1)), (2, .ref (ad 10 y2))] → W p l e rm_Steps_relation s m [.ref (ad 7 j0)].toArray below meth c H locs 0 0 (MQ below (q_Steps_relation D ad ca N M0 MZ RZ A) [.ref (ad 7 j0)].toArray s rm_Steps_relation.cells rm_Steps_relation.slots A) (F0 m 325 ls []) := by
    intro M y1 y2 H locs ls h hy1 hy2 hwf hkp hP hD hS hl
    unfold f_Steps_relation_b325 at h
    have hkb := hkp
    refine lv_aload_n hx hb d_Steps_relation_325 rfl (lv_at hl 1 rfl) ?_
    refine g_Cell_0 hx hb hts hown hK hP hwf hy1 (hts _ u_422) d_Steps_relation_326 ?_
    refine lv_iconst (v := 4) hx hb d_Steps_relation_329 (by decide) ?_
    refine lv_icmp_ne (tgt := 354) hx hb d_Steps_relation_330 (by decide) (fun c9 => ?_) (fun c9 => ?_)
    · have h := if_f c9 h
      exact b_354 M y1 y2 _ _ _ h hy1 hy2 hwf hkp hP hD hS (lv_sub hl [0, 1, 2] rfl)
    have h := if_t c9 h
    refine lv_aload_n hx hb d_Steps_relation_333 rfl (lv_at hl 2 rfl) ?_
    refine g_Cell_0 hx hb hts hown hK hP hwf hy2 (hts _ u_422) d_Steps_relation_334 ?_
    refine lv_iconst (v := 5) hx hb d_Steps_relation_337 (by decide) ?_
    refine lv_icmp_ne (tgt := 354) hx hb d_Steps_relation_338 (by decide) (fun c10 => ?_) (fun c10 => ?_)
    · have h := if_f c10 h
      exact b_354 M y1 y2 _ _ _ h hy1 hy2 hwf hkp hP hD hS (lv_sub hl [0, 1, 2] rfl)
    have h := if_t c10 h
    refine lv_aload_n hx hb d_Steps_relation_341 rfl (lv_at hl 0 rfl) ?_
    refine lv_aload_n hx hb d_Steps_relation_342 rfl (lv_at hl 1 rfl) ?_
    refine lv_aload_n hx hb d_Steps_relation_343 rfl (lv_at hl 0 rfl) ?_
    refine g_Steps_0 hx hb hts hown hK hP hwf hj0 (hts _ u_455) d_Steps_relation_344 ?_
    obtain ⟨j11, e12, h⟩ := bd_ob h
    have hj11 : j11 < N 2 := (hwf.2.1 7 j0 0 _ e12 (by decide) hj0)
    refine me_opt (j := j11) e12 ?_
    refine g_Code_12 hx hb hts hown hK hP hwf hj11 (hts _ u_262) d_Steps_relation_347 ?_
    obtain ⟨M13, r14, eM13, h⟩ := b2_ob h
    refine me_theni0 (M1 := M13) (me_runV (C := "FilterGuard$Steps") (As := [.ref (ad 10 y1), .int (mI M 2 j11 12)]) (rest := []) ⟨hx, hb, hml, hown, hts⟩ (c_Steps_relateToEnd l D ad ca N M M13 r14 j0 y1 (mI M 2 j11 12) eM13 hwf hj0 hy1 _) rfl (by show fg_nm y_Steps_relateToEnd 2; decide +kernel) u_1330 u_1332 u_40 u_185 u_1333 ⟨Nat.le_of_ble_eq_true rfl, Nat.le_of_ble_eq_true rfl⟩ hX hz hK hP hD hwf hS hA hj0 (by decide) rfl rfl rfl hl.1 (Nat.le_of_ble_eq_true rfl) d_Steps_relation_350 ⟨Nat.le_of_ble_eq_true rfl, Nat.le_of_ble_eq_true rfl⟩) hP hD hK hS hA rfl rfl (fun H locs hw hP hD hS => ?_)
    obtain ⟨hwf, hk9⟩ := hw
    have hkp := hkp.tr hk9
    exact me_reti (me_kp M0) h hx hb hr hlocks hwf hkp hP hK hD hS d_Steps_relation_353
  have b_301 : ∀ (M : me_M) (s0 : Int32) (s1 : Nat) (H : Heap) (locs : List Loc) (ls : Array Slot), f_Steps_relation_b301 j0 M s0 s1 = (some (MZ, RZ)) → (s1 < N 7) → me_wf N M → me_kp M0 M → va_P D classes (me_W ad ca M) H → va_D A (me_W ad ca M) → va_S A s.heap H locs → lv_has ls 4 [(0, .ref (ad 7 j0))] → W p l e rm_Steps_relation s m [.ref (ad 7 j0)].toArray below meth c H locs 0 0 (MQ below (q_Steps_relation D ad ca N M0 MZ RZ A) [.ref (ad 7 j0)].toArray s rm_Steps_relation.cells rm_Steps_relation.slots A) (F0 m 301 ls [.int s0, .ref (ad 7 s1)]) := by
    intro M s0 s1 H locs ls h hs1 hwf hkp hP hD hS hl
    unfold f_Steps_relation_b301 at h
    have hkb := hkp
    obtain ⟨M15, eM15, h⟩ := st_ob h
    refine p_Steps_11 eM15 hx hb hts hown hK hP hD hwf hS hs1 (hts _ u_468) d_Steps_relation_301 (fun H locs hP hD hwf hS => ?_)
    have hkp := kp_I eM15 hkp
    refine lv_aload_n hx hb d_Steps_relation_304 rfl (lv_at hl 0 rfl) ?_
    refine lv_aload_n hx hb d_Steps_relation_305 rfl (lv_at hl 0 rfl) ?_
    refine g_Steps_0 hx hb hts hown hK hP hwf hj0 (hts _ u_455) d_Steps_relation_306 ?_
    obtain ⟨j16, e17, h⟩ := bd_ob h
    have hj16 : j16 < N 2 := (hwf.2.1 7 j0 0 _ (kp_r hkb hkp e17) (by decide) hj0)
    refine me_opt (j := j16) (kp_r hkb hkp e17) ?_
    refine g_Code_12 hx hb hts hown hK hP hwf hj16 (hts _ u_262) d_Steps_relation_309 ?_
    refine lv_if_ne (tgt := 319) hx hb d_Steps_relation_312 (by decide) (fun c18 => ?_) (fun c18 => ?_)
    · have h := if_f c18 h
      refine lv_iconst (v := 0) hx hb d_Steps_relation_319 (by decide) ?_
      obtain ⟨M19, eM19, h⟩ := st_ob h
      refine p_Steps_14 eM19 hx hb hts hown hK hP hD hwf hS hj0 (by decide) (hts _ u_471) d_Steps_relation_320 (fun H locs hP hD hwf hS => ?_)
      have hkp := kp_I eM19 hkp
      refine lv_iconst (v := 0) hx hb d_Steps_relation_323 (by decide) ?_
      exact me_reti (me_kp M0) h hx hb hr hlocks hwf hkp hP hK hD hS d_Steps_relation_324
    have h := if_t c18 h
    refine lv_iconst (v := 1) hx hb d_Steps_relation_315 (by decide) ?_
    refine lv_goto (tgt := 320) hx hb d_Steps_relation_316 (by decide) ?_
    obtain ⟨M20, eM20, h⟩ := st_ob h
    refine p_Steps_14 eM20 hx hb hts hown hK hP hD hwf hS hj0 (by decide) (hts _ u_471) d_Steps_relation_320 (fun H locs hP hD hwf hS => ?_)
    have hkp := kp_I eM20 hkp
    refine lv_iconst (v := 0) hx hb d_Steps_relation_323 (by decide) ?_
    exact me_reti (me_kp M0) h hx hb hr hlocks hwf hkp hP hK hD hS d_Steps_relation_324
  have b_275 : ∀ (M : me_M) (y1 : Nat) (y2 : Nat) (H : Heap) (locs : List Loc) (ls : Array Slot), f_Steps_relation_b275 j0 M y1 y2 = (some (MZ, RZ)) → (y1 < N 10) → (y2 < N 10) → me_wf N M → me_kp M0 M → va_P D classes (me_W ad ca M) H → va_D A (me_W ad ca M) → va_S A s.heap H locs → lv_has ls 4 [(0, .ref (ad 7 j0)), (1, .ref (ad 10 y1)), (2, .ref (ad 10 y2))] → W p l e rm_Steps_relation s m [.ref (ad 7 j0)].toArray below meth c H locs 0 0 (MQ below (q_Steps_relation D ad ca N M0 MZ RZ A) [.ref (ad 7 j0)].toArray s rm_Steps_relation.cells rm_Steps_relation.slots A) (F0 m 275 ls []) := by
    intro M y1 y2 H locs ls h hy1 hy2 hwf hkp hP hD hS hl
    unfold f_Steps_relation_b275 at h
    have hkb := hkp
    refine lv_aload_n hx hb d_Steps_relation_275 rfl (lv_at hl 0 rfl) ?_
    refine lv_iconst (v := 2) hx hb d_Steps_relation_276 (by decide) ?_
    obtain ⟨M21, eM21, h⟩ := st_ob h
    refine p_Steps_10 eM21 hx hb hts hown hK hP hD hwf hS hj0 (hts _ u_467) d_Steps_relation_277 (fun H locs hP hD hwf hS => ?_)
    have hkp := kp_I eM21 hkp
    refine lv_aload_n hx hb d_Steps_relation_280 rfl (lv_at hl 0 rfl) ?_
    refine lv_aload_n hx hb d_Steps_relation_281 rfl (lv_at hl 1 rfl) ?_
    refine g_Cell_0 hx hb hts hown hK hP hwf hy1 (hts _ u_422) d_Steps_relation_282 ?_
    refine lv_bipush (v := 8) hx hb d_Steps_relation_285 (by decide) ?_
    refine lv_icmp_ne (tgt := 297) hx hb d_Steps_relation_287 (by decide) (fun c22 => ?_) (fun c22 => ?_)
    · have h := if_f c22 h
      refine lv_aload_n hx hb d_Steps_relation_297 rfl (lv_at hl 2 rfl) ?_
      refine g_Cell_3 hx hb hts hown hK hP hwf hy2 (hts _ u_430) d_Steps_relation_298 ?_
      exact b_301 M21 (mI M21 10 y2 3) j0 _ _ _ h hj0 hwf hkp hP hD hS (lv_sub hl [0] rfl)
    have h := if_t c22 h
    refine lv_aload_n hx hb d_Steps_relation_290 rfl (lv_at hl 1 rfl) ?_
    refine g_Cell_3 hx hb hts hown hK hP hwf hy1 (hts _ u_430) d_Steps_relation_291 ?_
    refine lv_goto (tgt := 301) hx hb d_Steps_relation_294 (by decide) ?_
    exact b_301 M21 (mI M21 10 y1 3) j0 _ _ _ h hj0 hwf hkp hP hD hS (lv_sub hl [0] rfl)
  have b_259 : ∀ (M : me_M) (y1 : Nat) (y2 : Nat) (H : Heap) (locs : List Loc) (ls : Array Slot), f_Steps_relation_b259 j0 M y1 y2 = (some (MZ, RZ)) → (y1 < N 10) → (y2 < N 10) → me_wf N M → me_kp M0 M → va_P D classes (me_W ad ca M) H → va_D A (me_W ad ca M) → va_S A s.heap H locs → lv_has ls 4 [(0, .ref (ad 7 j0)), (1, .ref (ad 10 y1)), (2, .ref (ad 10 y2))] → W p l e rm_Steps_relation s m [.ref (ad 7 j0)].toArray below meth c H locs 0 0 (MQ below (q_Steps_relation D ad ca N M0 MZ RZ A) [.ref (ad 7 j0)].toArray s rm_Steps_relation.cells rm_Steps_relation.slots A) (F0 m 259 ls []) := by
    intro M y1 y2 H locs ls h hy1 hy2 hwf hkp hP hD hS hl
    unfold f_Steps_relation_b259 at h
    have hkb := hkp
    refine lv_aload_n hx hb d_Steps_relation_259 rfl (lv_at hl 1 rfl) ?_
    obtain ⟨M23, r24, eM23, h⟩ := b2_ob h
    refine me_theni0 (M1 := M23) (me_runV (C := "FilterGuard$Cell") (As := []) (rest := []) ⟨hx, hb, hml, hown, hts⟩ (c_Cell_isZero l D ad ca N M M23 r24 y1 eM23 hwf hy1 _) rfl (by show fg_nm y_Cell_isZero 0; decide +kernel) u_1325 u_1326 u_1327 u_188 u_1328 ⟨Nat.le_of_ble_eq_true rfl, Nat.le_of_ble_eq_true rfl⟩ hX hz hK hP hD hwf hS hA hy1 (by decide) rfl rfl rfl hl.1 (Nat.le_of_ble_eq_true rfl) d_Steps_relation_260 ⟨Nat.le_of_ble_eq_true rfl, Nat.le_of_ble_eq_true rfl⟩) hP hD hK hS hA rfl rfl (fun H locs hw hP hD hS => ?_)
    obtain ⟨hwf, hk9, zr24⟩ := hw
    have hkp := hkp.tr hk9
    refine lv_if_eq (tgt := 325) hx hb d_Steps_relation_263 (by decide) (fun c25 => ?_) (fun c25 => ?_)
    · have h := if_t c25 h
      exact b_325 M23 y1 y2 _ _ _ h hy1 hy2 hwf hkp hP hD hS (lv_sub hl [0, 1, 2] rfl)
    have h := if_f c25 h
    refine lv_aload_n hx hb d_Steps_relation_266 rfl (lv_at hl 2 rfl) ?_
    refine g_Cell_0 hx hb hts hown hK hP hwf hy2 (hts _ u_422) d_Steps_relation_267 ?_
    refine lv_bipush (v := 8) hx hb d_Steps_relation_270 (by decide) ?_
    refine lv_icmp_ne (tgt := 325) hx hb d_Steps_relation_272 (by decide) (fun c26 => ?_) (fun c26 => ?_)
    · have h := if_f c26 h
      exact b_325 M23 y1 y2 _ _ _ h hy1 hy2 hwf hkp hP hD hS (lv_sub hl [0, 1, 2] rfl)
    have h := if_t c26 h
    exact b_275 M23 y1 y2 _ _ _ h hy1 hy2 hwf hkp hP hD hS (lv_sub hl [0, 1, 2] rfl)
  have b_238 : ∀ (M : me_M) (y1 : Nat) (y2 : Nat) (s0 : Int32) (H : Heap) (locs : List Loc) (ls : Array Slot), f_Steps_relation_b238 j0 M y1 y2 s0 = (some (MZ, RZ)) → (y1 < N 10) → (y2 < N 10) → (s0 = 1 ∨ s0 = 0) → me_wf N M → me_kp M0 M → va_P D classes (me_W ad ca M) H → va_D A (me_W ad ca M) → va_S A s.heap H locs → lv_has ls 4 [(0, .ref (ad 7 j0)), (1, .ref (ad 10 y1)), (2, .ref (ad 10 y2))] → W p l e rm_Steps_relation s m [.ref (ad 7 j0)].toArray below meth c H locs 0 0 (MQ below (q_Steps_relation D ad ca N M0 MZ RZ A) [.ref (ad 7 j0)].toArray s rm_Steps_relation.cells rm_Steps_relation.slots A) (F0 m 238 ls [.int s0]) := by
    intro M y1 y2 s0 H locs ls h hy1 hy2 zs0 hwf hkp hP hD hS hl
    unfold f_Steps_relation_b238 at h
    have hkb := hkp
    refine lv_istore_n (lv' := [(3, .int s0), (0, .ref (ad 7 j0)), (1, .ref (ad 10 y1)), (2, .ref (ad 10 y2))]) hx hb d_Steps_relation_238 rfl hl (by decide) rfl (fun ls hl => ?_)
    refine lv_iload_n hx hb d_Steps_relation_239 rfl (lv_at hl 0 rfl) ?_
    refine lv_if_eq (tgt := 325) hx hb d_Steps_relation_240 (by decide) (fun c27 => ?_) (fun c27 => ?_)
    · have h := if_t c27 h
      exact b_325 M y1 y2 _ _ _ h hy1 hy2 hwf hkp hP hD hS (lv_sub hl [1, 2, 3] rfl)
    have h := if_f c27 h
    refine lv_aload_n hx hb d_Steps_relation_243 rfl (lv_at hl 2 rfl) ?_
    refine g_Cell_0 hx hb hts hown hK hP hwf hy1 (hts _ u_422) d_Steps_relation_244 ?_
    refine lv_bipush (v := 8) hx hb d_Steps_relation_247 (by decide) ?_
    refine lv_icmp_ne (tgt := 259) hx hb d_Steps_relation_249 (by decide) (fun c28 => ?_) (fun c28 => ?_)
    · have h := if_f c28 h
      exact b_259 M y1 y2 _ _ _ h hy1 hy2 hwf hkp hP hD hS (lv_sub hl [1, 2, 3] rfl)
    have h := if_t c28 h
    refine lv_aload_n hx hb d_Steps_relation_252 rfl (lv_at hl 3 rfl) ?_
    obtain ⟨M29, r30, eM29, h⟩ := b2_ob h
    refine me_theni0 (M1 := M29) (me_runV (C := "FilterGuard$Cell") (As := []) (rest := []) ⟨hx, hb, hml, hown, hts⟩ (c_Cell_isZero l D ad ca N M M29 r30 y2 eM29 hwf hy2 _) rfl (by show fg_nm y_Cell_isZero 0; decide +kernel) u_1325 u_1326 u_1327 u_188 u_1328 ⟨Nat.le_of_ble_eq_true rfl, Nat.le_of_ble_eq_true rfl⟩ hX hz hK hP hD hwf hS hA hy2 (by decide) rfl rfl rfl hl.1 (Nat.le_of_ble_eq_true rfl) d_Steps_relation_253 ⟨Nat.le_of_ble_eq_true rfl, Nat.le_of_ble_eq_true rfl⟩) hP hD hK hS hA rfl rfl (fun H locs hw hP hD hS => ?_)
    obtain ⟨hwf, hk9, zr30⟩ := hw
    have hkp := hkp.tr hk9
    refine lv_if_ne (tgt := 275) hx hb d_Steps_relation_256 (by decide) (fun c31 => ?_) (fun c31 => ?_)
    · have h := if_f c31 h
      exact b_275 M29 y1 y2 _ _ _ h hy1 hy2 hwf hkp hP hD hS (lv_sub hl [1, 2, 3] rfl)
    have h := if_t c31 h
    exact b_259 M29 y1 y2 _ _ _ h hy1 hy2 hwf hkp hP hD hS (lv_sub hl [1, 2, 3] rfl)
  have b_233 : ∀ (M : me_M) (y1 : Nat) (y2 : Nat) (H : Heap) (locs : List Loc) (ls : Array Slot), f_Steps_relation_b233 j0 M y1 y2 = (some (MZ, RZ)) → (y1 < N 10) → (y2 < N 10) → me_wf N M → me_kp M0 M → va_P D classes (me_W ad ca M) H → va_D A (me_W ad ca M) → va_S A s.heap H locs → lv_has ls 4 [(0, .ref (ad 7 j0)), (1, .ref (ad 10 y1)), (2, .ref (ad 10 y2))] → W p l e rm_Steps_relation s m [.ref (ad 7 j0)].toArray below meth c H locs 0 0 (MQ below (q_Steps_relation D ad ca N M0 MZ RZ A) [.ref (ad 7 j0)].toArray s rm_Steps_relation.cells rm_Steps_relation.slots A) (F0 m 233 ls []) := by
    intro M y1 y2 H locs ls h hy1 hy2 hwf hkp hP hD hS hl
    unfold f_Steps_relation_b233 at h
    have hkb := hkp
    refine lv_iconst (v := 1) hx hb d_Steps_relation_233 (by decide) ?_
    refine lv_goto (tgt := 238) hx hb d_Steps_relation_234 (by decide) ?_
    exact b_238 M y1 y2 (1 : Int32) _ _ _ h hy1 hy2 (by decide) hwf hkp hP hD hS (lv_sub hl [0, 1, 2] rfl)
  have b_199 : ∀ (M : me_M) (y1 : Nat) (y2 : Nat) (H : Heap) (locs : List Loc) (ls : Array Slot), f_Steps_relation_b199 j0 M y1 y2 = (some (MZ, RZ)) → (y1 < N 10) → (y2 < N 10) → me_wf N M → me_kp M0 M → va_P D classes (me_W ad ca M) H → va_D A (me_W ad ca M) → va_S A s.heap H locs → lv_has ls 4 [(0, .ref (ad 7 j0)), (1, .ref (ad 10 y1)), (2, .ref (ad 10 y2))] → W p l e rm_Steps_relation s m [.ref (ad 7 j0)].toArray below meth c H locs 0 0 (MQ below (q_Steps_relation D ad ca N M0 MZ RZ A) [.ref (ad 7 j0)].toArray s rm_Steps_relation.cells rm_Steps_relation.slots A) (F0 m 199 ls []) := by
    intro M y1 y2 H locs ls h hy1 hy2 hwf hkp hP hD hS hl
    unfold f_Steps_relation_b199 at h
    have hkb := hkp
    refine lv_aload_n hx hb d_Steps_relation_199 rfl (lv_at hl 0 rfl) ?_
    refine g_Steps_0 hx hb hts hown hK hP hwf hj0 (hts _ u_455) d_Steps_relation_200 ?_
    obtain ⟨j32, e33, h⟩ := bd_ob h
    have hj32 : j32 < N 2 := (hwf.2.1 7 j0 0 _ e33 (by decide) hj0)
    refine me_opt (j := j32) e33 ?_
    refine g_Code_13 hx hb hts hown hK hP hwf hj32 (hts _ u_266) d_Steps_relation_203 ?_
    have z34 := (hwf.2.2.2 2 j32 13 rfl)
    refine lv_if_eq (tgt := 212) hx hb d_Steps_relation_206 (by decide) (fun c35 => ?_) (fun c35 => ?_)
    · have h := if_t c35 h
      refine lv_aload_n hx hb d_Steps_relation_212 rfl (lv_at hl 0 rfl) ?_
      refine g_Steps_0 hx hb hts hown hK hP hwf hj0 (hts _ u_455) d_Steps_relation_213 ?_
      refine me_opt (j := j32) e33 ?_
      refine g_Code_12 hx hb hts hown hK hP hwf hj32 (hts _ u_262) d_Steps_relation_216 ?_
      refine lv_if_eq (tgt := 233) hx hb d_Steps_relation_219 (by decide) (fun c36 => ?_) (fun c36 => ?_)
      · have h := if_t c36 h
        exact b_233 M y1 y2 _ _ _ h hy1 hy2 hwf hkp hP hD hS (lv_sub hl [0, 1, 2] rfl)
      have h := if_f c36 h
      refine lv_aload_n hx hb d_Steps_relation_222 rfl (lv_at hl 0 rfl) ?_
      refine g_Steps_0 hx hb hts hown hK hP hwf hj0 (hts _ u_455) d_Steps_relation_223 ?_
      refine me_opt (j := j32) e33 ?_
      refine g_Code_12 hx hb hts hown hK hP hwf hj32 (hts _ u_262) d_Steps_relation_226 ?_
      refine lv_iconst (v := 4) hx hb d_Steps_relation_229 (by decide) ?_
      refine lv_icmp_ne (tgt := 237) hx hb d_Steps_relation_230 (by decide) (fun c37 => ?_) (fun c37 => ?_)
      · have h := if_f c37 h
        refine lv_iconst (v := 0) hx hb d_Steps_relation_237 (by decide) ?_
        exact b_238 M y1 y2 (0 : Int32) _ _ _ h hy1 hy2 (by decide) hwf hkp hP hD hS (lv_sub hl [0, 1, 2] rfl)
      have h := if_t c37 h
      exact b_233 M y1 y2 _ _ _ h hy1 hy2 hwf hkp hP hD hS (lv_sub hl [0, 1, 2] rfl)
    have h := if_f c35 h
    refine lv_bipush (v := 12) hx hb d_Steps_relation_209 (by decide) ?_
    exact me_reti (me_kp M0) h hx hb hr hlocks hwf hkp hP hK hD hS d_Steps_relation_211
  have b_78 : ∀ (M : me_M) (y1 : Nat) (y2 : Nat) (H : Heap) (locs : List Loc) (ls : Array Slot), f_Steps_relation_b78 j0 M y1 y2 = (some (MZ, RZ)) → (y1 < N 10) → (y2 < N 10) → me_wf N M → me_kp M0 M → va_P D classes (me_W ad ca M) H → va_D A (me_W ad ca M) → va_S A s.heap H locs → lv_has ls 4 [(0, .ref (ad 7 j0)), (1, .ref (ad 10 y1)), (2, .ref (ad 10 y2))] → W p l e rm_Steps_relation s m [.ref (ad 7 j0)].toArray below meth c H locs 0 0 (MQ below (q_Steps_relation D ad ca N M0 MZ RZ A) [.ref (ad 7 j0)].toArray s rm_Steps_relation.cells rm_Steps_relation.slots A) (F0 m 78 ls []) := by
    intro M y1 y2 H locs ls h hy1 hy2 hwf hkp hP hD hS hl
    unfold f_Steps_relation_b78 at h
    have hkb := hkp
    refine lv_aload_n hx hb d_Steps_relation_78 rfl (lv_at hl 0 rfl) ?_
    refine lv_iconst (v := 1) hx hb d_Steps_relation_79 (by decide) ?_
    obtain ⟨M38, eM38, h⟩ := st_ob h
    refine p_Steps_10 eM38 hx hb hts hown hK hP hD hwf hS hj0 (hts _ u_467) d_Steps_relation_80 (fun H locs hP hD hwf hS => ?_)
    have hkp := kp_I eM38 hkp
    refine lv_aload_n hx hb d_Steps_relation_83 rfl (lv_at hl 0 rfl) ?_
    refine g_Steps_15 hx hb hts hown hK hP hwf hj0 (hts _ u_472) d_Steps_relation_84 ?_
    obtain ⟨j39, e40, h⟩ := bd_ob h
    have hj39 : j39 < N 11 := (hwf.2.1 7 j0 15 _ (kp_r hkb hkp e40) (by decide) hj0)
    refine me_opt (j := j39) (kp_r hkb hkp e40) ?_
    refine lv_aload_n hx hb d_Steps_relation_87 rfl (lv_at hl 1 rfl) ?_
    refine g_Cell_6 hx hb hts hown hK hP hwf hy1 (hts _ u_437) d_Steps_relation_88 ?_
    obtain ⟨j41, e42, h⟩ := bd_ob h
    have hj41 : j41 < N 11 := (hwf.2.1 10 y1 6 _ (kp_r hkb hkp e42) (by decide) hy1)
    refine me_opt (j := j41) (kp_r hkb hkp e42) ?_
    obtain ⟨M43, eM43, h⟩ := bd_ob h
    refine me_thenv0 (M1 := M43) (me_runV (C := "FilterGuard$Num") (As := [.ref (ad 11 j41)]) (rest := []) ⟨hx, hb, hml, hown, hts⟩ (c_Num_copy l D ad ca N M38 M43 j39 j41 eM43 hwf hj39 hj41 _) rfl (by show fg_nm y_Num_copy 1; decide +kernel) u_1261 u_1083 u_1084 u_187 u_1085 ⟨Nat.le_of_ble_eq_true rfl, Nat.le_of_ble_eq_true rfl⟩ hX hz hK hP hD hwf hS hA hj39 (by decide) rfl rfl rfl hl.1 (Nat.le_of_ble_eq_true rfl) d_Steps_relation_91 ⟨Nat.le_of_ble_eq_true rfl, Nat.le_of_ble_eq_true rfl⟩) hP hD hK hS hA rfl rfl (fun H locs hw hP hD hS => ?_)
    obtain ⟨hwf, hk9⟩ := hw
    have hkp := hkp.tr hk9
    refine lv_aload_n hx hb d_Steps_relation_94 rfl (lv_at hl 0 rfl) ?_
    refine g_Steps_16 hx hb hts hown hK hP hwf hj0 (hts _ u_473) d_Steps_relation_95 ?_
    obtain ⟨j44, e45, h⟩ := bd_ob h
    have hj44 : j44 < N 11 := (hwf.2.1 7 j0 16 _ (kp_r hkb hkp e45) (by decide) hj0)
    refine me_opt (j := j44) (kp_r hkb hkp e45) ?_
    refine lv_aload_n hx hb d_Steps_relation_98 rfl (lv_at hl 2 rfl) ?_
    refine g_Cell_6 hx hb hts hown hK hP hwf hy2 (hts _ u_437) d_Steps_relation_99 ?_
    obtain ⟨j46, e47, h⟩ := bd_ob h
    have hj46 : j46 < N 11 := (hwf.2.1 10 y2 6 _ (kp_r hkb hkp e47) (by decide) hy2)
    refine me_opt (j := j46) (kp_r hkb hkp e47) ?_
    obtain ⟨M48, eM48, h⟩ := bd_ob h
    refine me_thenv0 (M1 := M48) (me_runV (C := "FilterGuard$Num") (As := [.ref (ad 11 j46)]) (rest := []) ⟨hx, hb, hml, hown, hts⟩ (c_Num_copy l D ad ca N M43 M48 j44 j46 eM48 hwf hj44 hj46 _) rfl (by show fg_nm y_Num_copy 1; decide +kernel) u_1261 u_1083 u_1084 u_187 u_1085 ⟨Nat.le_of_ble_eq_true rfl, Nat.le_of_ble_eq_true rfl⟩ hX hz hK hP hD hwf hS hA hj44 (by decide) rfl rfl rfl hl.1 (Nat.le_of_ble_eq_true rfl) d_Steps_relation_102 ⟨Nat.le_of_ble_eq_true rfl, Nat.le_of_ble_eq_true rfl⟩) hP hD hK hS hA rfl rfl (fun H locs hw hP hD hS => ?_)
    obtain ⟨hwf, hk9⟩ := hw
    have hkp := hkp.tr hk9
    refine lv_aload_n hx hb d_Steps_relation_105 rfl (lv_at hl 0 rfl) ?_
    refine lv_aload_n hx hb d_Steps_relation_106 rfl (lv_at hl 0 rfl) ?_
    refine g_Steps_2 hx hb hts hown hK hP hwf hj0 (hts _ u_457) d_Steps_relation_107 ?_
    obtain ⟨j49, e50, h⟩ := bd_ob h
    have hj49 : j49 < N 8 := (hwf.2.1 7 j0 2 _ (kp_r hkb hkp e50) (by decide) hj0)
    refine me_opt (j := j49) (kp_r hkb hkp e50) ?_
    refine lv_aload_n hx hb d_Steps_relation_110 rfl (lv_at hl 0 rfl) ?_
    refine g_Steps_0 hx hb hts hown hK hP hwf hj0 (hts _ u_455) d_Steps_relation_111 ?_
    obtain ⟨j51, e52, h⟩ := bd_ob h
    have hj51 : j51 < N 2 := (hwf.2.1 7 j0 0 _ (kp_r hkb hkp e52) (by decide) hj0)
    refine me_opt (j := j51) (kp_r hkb hkp e52) ?_
    refine g_Code_12 hx hb hts hown hK hP hwf hj51 (hts _ u_262) d_Steps_relation_114 ?_
    refine lv_aload_n hx hb d_Steps_relation_117 rfl (lv_at hl 0 rfl) ?_
    refine g_Steps_15 hx hb hts hown hK hP hwf hj0 (hts _ u_472) d_Steps_relation_118 ?_
    refine me_opt (j := j39) (kp_r hkb hkp e40) ?_
    refine lv_aload_n hx hb d_Steps_relation_121 rfl (lv_at hl 0 rfl) ?_
    refine g_Steps_16 hx hb hts hown hK hP hwf hj0 (hts _ u_473) d_Steps_relation_122 ?_
    refine me_opt (j := j44) (kp_r hkb hkp e45) ?_
    refine lv_aload_n hx hb d_Steps_relation_125 rfl (lv_at hl 0 rfl) ?_
    refine g_Steps_0 hx hb hts hown hK hP hwf hj0 (hts _ u_455) d_Steps_relation_126 ?_
    refine me_opt (j := j51) (kp_r hkb hkp e52) ?_
    refine g_Code_13 hx hb hts hown hK hP hwf hj51 (hts _ u_266) d_Steps_relation_129 ?_
    have z53 := (hwf.2.2.2 2 j51 13 rfl)
    obtain ⟨M54, r55, eM54, h⟩ := b2_ob h
    refine me_theni0 (M1 := M54) (me_runV (C := "FilterGuard$Reckoner") (As := [.int (mI M48 2 j51 12), .ref (ad 11 j39), .ref (ad 11 j44), .int (mI M48 2 j51 13)]) (rest := [.ref (ad 7 j0)]) ⟨hx, hb, hml, hown, hts⟩ (c_Reckoner_tell l D ad ca N M48 M54 r55 j49 (mI M48 2 j51 12) j39 j44 (mI M48 2 j51 13) eM54 hwf hj49 hj39 hj44 z53 _) rfl (by show fg_nm y_Reckoner_tell 4; decide +kernel) u_1275 u_1276 u_1277 u_186 u_1278 ⟨Nat.le_of_ble_eq_true rfl, Nat.le_of_ble_eq_true rfl⟩ hX hz hK hP hD hwf hS hA hj49 (by decide) rfl rfl rfl hl.1 (Nat.le_of_ble_eq_true rfl) d_Steps_relation_132 ⟨Nat.le_of_ble_eq_true rfl, Nat.le_of_ble_eq_true rfl⟩) hP hD hK hS hA rfl rfl (fun H locs hw hP hD hS => ?_)
    obtain ⟨hwf, hk9, zr55⟩ := hw
    have hkp := hkp.tr hk9
    obtain ⟨M56, eM56, h⟩ := st_ob h
    refine p_Steps_8 eM56 hx hb hts hown hK hP hD hwf hS hj0 zr55 (hts _ u_464) d_Steps_relation_135 (fun H locs hP hD hwf hS => ?_)
    have hkp := kp_I eM56 hkp
    refine lv_aload_n hx hb d_Steps_relation_138 rfl (lv_at hl 0 rfl) ?_
    refine g_Steps_17 hx hb hts hown hK hP hwf hj0 (hts _ u_474) d_Steps_relation_139 ?_
    obtain ⟨j57, e58, h⟩ := bd_ob h
    have hj57 : j57 < N 11 := (hwf.2.1 7 j0 17 _ (kp_r hkb hkp e58) (by decide) hj0)
    refine me_opt (j := j57) (kp_r hkb hkp e58) ?_
    refine lv_aload_n hx hb d_Steps_relation_142 rfl (lv_at hl 1 rfl) ?_
    refine g_Cell_6 hx hb hts hown hK hP hwf hy1 (hts _ u_437) d_Steps_relation_143 ?_
    refine me_opt (j := j41) (kp_r hkb hkp e42) ?_
    obtain ⟨M59, eM59, h⟩ := bd_ob h
    refine me_thenv0 (M1 := M59) (me_runV (C := "FilterGuard$Num") (As := [.ref (ad 11 j41)]) (rest := []) ⟨hx, hb, hml, hown, hts⟩ (c_Num_copy l D ad ca N M56 M59 j57 j41 eM59 hwf hj57 hj41 _) rfl (by show fg_nm y_Num_copy 1; decide +kernel) u_1261 u_1083 u_1084 u_187 u_1085 ⟨Nat.le_of_ble_eq_true rfl, Nat.le_of_ble_eq_true rfl⟩ hX hz hK hP hD hwf hS hA hj57 (by decide) rfl rfl rfl hl.1 (Nat.le_of_ble_eq_true rfl) d_Steps_relation_146 ⟨Nat.le_of_ble_eq_true rfl, Nat.le_of_ble_eq_true rfl⟩) hP hD hK hS hA rfl rfl (fun H locs hw hP hD hS => ?_)
    obtain ⟨hwf, hk9⟩ := hw
    have hkp := hkp.tr hk9
    refine lv_aload_n hx hb d_Steps_relation_149 rfl (lv_at hl 0 rfl) ?_
    refine g_Steps_18 hx hb hts hown hK hP hwf hj0 (hts _ u_475) d_Steps_relation_150 ?_
    obtain ⟨j60, e61, h⟩ := bd_ob h
    have hj60 : j60 < N 11 := (hwf.2.1 7 j0 18 _ (kp_r hkb hkp e61) (by decide) hj0)
    refine me_opt (j := j60) (kp_r hkb hkp e61) ?_
    refine lv_aload_n hx hb d_Steps_relation_153 rfl (lv_at hl 2 rfl) ?_
    refine g_Cell_6 hx hb hts hown hK hP hwf hy2 (hts _ u_437) d_Steps_relation_154 ?_
    refine me_opt (j := j46) (kp_r hkb hkp e47) ?_
    obtain ⟨M62, eM62, h⟩ := bd_ob h
    refine me_thenv0 (M1 := M62) (me_runV (C := "FilterGuard$Num") (As := [.ref (ad 11 j46)]) (rest := []) ⟨hx, hb, hml, hown, hts⟩ (c_Num_copy l D ad ca N M59 M62 j60 j46 eM62 hwf hj60 hj46 _) rfl (by show fg_nm y_Num_copy 1; decide +kernel) u_1261 u_1083 u_1084 u_187 u_1085 ⟨Nat.le_of_ble_eq_true rfl, Nat.le_of_ble_eq_true rfl⟩ hX hz hK hP hD hwf hS hA hj60 (by decide) rfl rfl rfl hl.1 (Nat.le_of_ble_eq_true rfl) d_Steps_relation_157 ⟨Nat.le_of_ble_eq_true rfl, Nat.le_of_ble_eq_true rfl⟩) hP hD hK hS hA rfl rfl (fun H locs hw hP hD hS => ?_)
    obtain ⟨hwf, hk9⟩ := hw
    have hkp := hkp.tr hk9
    refine lv_aload_n hx hb d_Steps_relation_160 rfl (lv_at hl 0 rfl) ?_
    refine lv_aload_n hx hb d_Steps_relation_161 rfl (lv_at hl 0 rfl) ?_
    refine g_Steps_2 hx hb hts hown hK hP hwf hj0 (hts _ u_457) d_Steps_relation_162 ?_
    refine me_opt (j := j49) (kp_r hkb hkp e50) ?_
    obtain ⟨t63, ht63, hs63, hna63, hnl63⟩ := hz.2.2.2
    refine va_getsN hx hb ht63 hS hown (va_Nw.use rfl (hX _ o_1323 rfl)) (fun _ h9 => h9) d_Steps_relation_165 ?_
    refine lv_aload_n hx hb d_Steps_relation_168 rfl (lv_at hl 0 rfl) ?_
    refine g_Steps_0 hx hb hts hown hK hP hwf hj0 (hts _ u_455) d_Steps_relation_169 ?_
    refine me_opt (j := j51) (kp_r hkb hkp e52) ?_
    refine g_Code_12 hx hb hts hown hK hP hwf hj51 (hts _ u_262) d_Steps_relation_172 ?_
    obtain ⟨g64, h⟩ := gd_ob h
    refine va_sld hx hb hs63 hnl63 hna63 hS g64 d_Steps_relation_175 ?_
    refine lv_aload_n hx hb d_Steps_relation_176 rfl (lv_at hl 0 rfl) ?_
    refine g_Steps_17 hx hb hts hown hK hP hwf hj0 (hts _ u_474) d_Steps_relation_177 ?_
    refine me_opt (j := j57) (kp_r hkb hkp e58) ?_
    refine lv_aload_n hx hb d_Steps_relation_180 rfl (lv_at hl 0 rfl) ?_
    refine g_Steps_18 hx hb hts hown hK hP hwf hj0 (hts _ u_475) d_Steps_relation_181 ?_
    refine me_opt (j := j60) (kp_r hkb hkp e61) ?_
    refine lv_aload_n hx hb d_Steps_relation_184 rfl (lv_at hl 0 rfl) ?_
    refine g_Steps_0 hx hb hts hown hK hP hwf hj0 (hts _ u_455) d_Steps_relation_185 ?_
    refine me_opt (j := j51) (kp_r hkb hkp e52) ?_
    refine g_Code_13 hx hb hts hown hK hP hwf hj51 (hts _ u_266) d_Steps_relation_188 ?_
    have z65 := (hwf.2.2.2 2 j51 13 rfl)
    obtain ⟨M66, r67, eM66, h⟩ := b2_ob h
    refine me_theni0 (M1 := M66) (me_runV (C := "FilterGuard$Reckoner") (As := [.int (fz_k (mI M62 2 j51 12).toNatClampNeg), .ref (ad 11 j57), .ref (ad 11 j60), .int (mI M62 2 j51 13)]) (rest := [.ref (ad 7 j0)]) ⟨hx, hb, hml, hown, hts⟩ (c_Reckoner_tell l D ad ca N M62 M66 r67 j49 (fz_k (mI M62 2 j51 12).toNatClampNeg) j57 j60 (mI M62 2 j51 13) eM66 hwf hj49 hj57 hj60 z65 _) rfl (by show fg_nm y_Reckoner_tell 4; decide +kernel) u_1275 u_1276 u_1277 u_186 u_1278 ⟨Nat.le_of_ble_eq_true rfl, Nat.le_of_ble_eq_true rfl⟩ hX hz hK hP hD hwf hS hA hj49 (by decide) rfl rfl rfl hl.1 (Nat.le_of_ble_eq_true rfl) d_Steps_relation_191 ⟨Nat.le_of_ble_eq_true rfl, Nat.le_of_ble_eq_true rfl⟩) hP hD hK hS hA rfl rfl (fun H locs hw hP hD hS => ?_)
    obtain ⟨hwf, hk9, zr67⟩ := hw
    have hkp := hkp.tr hk9
    obtain ⟨M68, eM68, h⟩ := st_ob h
    refine p_Steps_9 eM68 hx hb hts hown hK hP hD hwf hS hj0 zr67 (hts _ u_466) d_Steps_relation_194 (fun H locs hP hD hwf hS => ?_)
    have hkp := kp_I eM68 hkp
    refine lv_iconst (v := 0) hx hb d_Steps_relation_197 (by decide) ?_
    exact me_reti (me_kp M0) h hx hb hr hlocks hwf hkp hP hK hD hS d_Steps_relation_198
  refine lv_aload_n hx hb d_Steps_relation_0 rfl (lv_at hl 0 rfl) ?_
  refine g_Steps_5 hx hb hts hown hK hP hwf hj0 (hts _ u_460) d_Steps_relation_1 ?_
  obtain ⟨j69, e70, h⟩ := bd_ob h
  have hj69 : j69 < N 18 := (hwf.2.1 7 j0 5 _ e70 (by decide) hj0)
  refine me_opt (j := j69) e70 ?_
  refine lv_aload_n hx hb d_Steps_relation_4 rfl (lv_at hl 0 rfl) ?_
  refine g_Steps_0 hx hb hts hown hK hP hwf hj0 (hts _ u_455) d_Steps_relation_5 ?_
  obtain ⟨j71, e72, h⟩ := bd_ob h
  have hj71 : j71 < N 2 := (hwf.2.1 7 j0 0 _ e72 (by decide) hj0)
  refine me_opt (j := j71) e72 ?_
  refine g_Code_6 hx hb hts hown hK hP hwf hj71 (hts _ u_232) d_Steps_relation_8 ?_
  obtain ⟨g73, h⟩ := gd_ob h
  refine me_aald (k := 18) (t := 10) hx hb hK hP hwf hj69 (by decide) (by decide) rfl (fun _ => rfl) g73 d_Steps_relation_11 ?_
  obtain ⟨j74, e75, h⟩ := bd_ob h
  have hj74 : j74 < N 10 := (hwf.2.1 18 j69 ((mI M0 2 j71 6).toNatClampNeg) _ e75 (by decide) hj69)
  refine me_opt (j := j74) e75 ?_
  refine lv_astore_n (lv' := [(1, .ref (ad 10 j74)), (0, .ref (ad 7 j0))]) hx hb d_Steps_relation_12 rfl hl (by decide) rfl (fun ls hl => ?_)
  refine lv_aload_n hx hb d_Steps_relation_13 rfl (lv_at hl 1 rfl) ?_
  obtain ⟨M76, r77, eM76, h⟩ := b2_ob h
  refine me_thenr0 (M1 := M76) (me_runV (C := "FilterGuard$Steps") (As := []) (rest := []) ⟨hx, hb, hml, hown, hts⟩ (c_Steps_operand l D ad ca N M0 M76 r77 j0 eM76 hwf hj0 _) rfl (by show fg_nm y_Steps_operand 0; decide +kernel) u_1113 u_1115 u_18 u_185 u_1116 ⟨Nat.le_of_ble_eq_true rfl, Nat.le_of_ble_eq_true rfl⟩ hX hz hK hP hD hwf hS hA hj0 (by decide) rfl rfl rfl hl.1 (Nat.le_of_ble_eq_true rfl) d_Steps_relation_14 ⟨Nat.le_of_ble_eq_true rfl, Nat.le_of_ble_eq_true rfl⟩) hP hD hK hS hA rfl rfl (fun H locs hw hP hD hS => ?_)
  obtain ⟨hwf, hk9, hr77⟩ := hw
  have hkp := hkp.tr hk9
  refine lv_astore_n (lv' := [(2, .ref (ad 10 r77)), (1, .ref (ad 10 j74)), (0, .ref (ad 7 j0))]) hx hb d_Steps_relation_17 rfl hl (by decide) rfl (fun ls hl => ?_)
  refine lv_aload_n hx hb d_Steps_relation_18 rfl (lv_at hl 2 rfl) ?_
  refine lv_iconst (v := 1) hx hb d_Steps_relation_19 (by decide) ?_
  obtain ⟨M78, eM78, h⟩ := st_ob h
  refine p_Steps_8 eM78 hx hb hts hown hK hP hD hwf hS hj0 (by decide) (hts _ u_464) d_Steps_relation_20 (fun H locs hP hD hwf hS => ?_)
  have hkp := kp_I eM78 hkp
  refine lv_aload_n hx hb d_Steps_relation_23 rfl (lv_at hl 2 rfl) ?_
  refine lv_iconst (v := 1) hx hb d_Steps_relation_24 (by decide) ?_
  obtain ⟨M79, eM79, h⟩ := st_ob h
  refine p_Steps_9 eM79 hx hb hts hown hK hP hD hwf hS hj0 (by decide) (hts _ u_466) d_Steps_relation_25 (fun H locs hP hD hwf hS => ?_)
  have hkp := kp_I eM79 hkp
  refine lv_aload_n hx hb d_Steps_relation_28 rfl (lv_at hl 2 rfl) ?_
  refine lv_iconst (v := 0) hx hb d_Steps_relation_29 (by decide) ?_
  obtain ⟨M80, eM80, h⟩ := st_ob h
  refine p_Steps_10 eM80 hx hb hts hown hK hP hD hwf hS hj0 (hts _ u_467) d_Steps_relation_30 (fun H locs hP hD hwf hS => ?_)
  have hkp := kp_I eM80 hkp
  refine lv_aload_n hx hb d_Steps_relation_33 rfl (lv_at hl 1 rfl) ?_
  refine g_Cell_0 hx hb hts hown hK hP hwf hj74 (hts _ u_422) d_Steps_relation_34 ?_
  refine lv_iconst (v := 1) hx hb d_Steps_relation_37 (by decide) ?_
  refine lv_icmp_ne (tgt := 199) hx hb d_Steps_relation_38 (by decide) (fun c81 => ?_) (fun c81 => ?_)
  · have h := if_f c81 h
    exact b_199 M80 j74 r77 _ _ _ h hj74 hr77 hwf hkp hP hD hS (lv_sub hl [2, 1, 0] rfl)
  have h := if_t c81 h
  refine lv_aload_n hx hb d_Steps_relation_41 rfl (lv_at hl 0 rfl) ?_
  refine g_Cell_0 hx hb hts hown hK hP hwf hr77 (hts _ u_422) d_Steps_relation_42 ?_
  refine lv_iconst (v := 1) hx hb d_Steps_relation_45 (by decide) ?_
  refine lv_icmp_ne (tgt := 199) hx hb d_Steps_relation_46 (by decide) (fun c82 => ?_) (fun c82 => ?_)
  · have h := if_f c82 h
    exact b_199 M80 j74 r77 _ _ _ h hj74 hr77 hwf hkp hP hD hS (lv_sub hl [2, 1, 0] rfl)
  have h := if_t c82 h
  refine lv_aload_n hx hb d_Steps_relation_49 rfl (lv_at hl 2 rfl) ?_
  refine g_Steps_0 hx hb hts hown hK hP hwf hj0 (hts _ u_455) d_Steps_relation_50 ?_
  refine me_opt (j := j71) (kp_r hkb hkp e72) ?_
  refine g_Code_15 hx hb hts hown hK hP hwf hj71 (hts _ u_272) d_Steps_relation_53 ?_
  have z83 := (hwf.2.2.2 2 j71 15 rfl)
  refine lv_if_eq (tgt := 78) hx hb d_Steps_relation_56 (by decide) (fun c84 => ?_) (fun c84 => ?_)
  · have h := if_t c84 h
    exact b_78 M80 j74 r77 _ _ _ h hj74 hr77 hwf hkp hP hD hS (lv_sub hl [2, 1, 0] rfl)
  have h := if_f c84 h
  refine lv_aload_n hx hb d_Steps_relation_59 rfl (lv_at hl 2 rfl) ?_
  refine g_Steps_0 hx hb hts hown hK hP hwf hj0 (hts _ u_455) d_Steps_relation_60 ?_
  refine me_opt (j := j71) (kp_r hkb hkp e72) ?_
  refine g_Code_6 hx hb hts hown hK hP hwf hj71 (hts _ u_232) d_Steps_relation_63 ?_
  refine lv_aload_n hx hb d_Steps_relation_66 rfl (lv_at hl 2 rfl) ?_
  refine g_Steps_0 hx hb hts hown hK hP hwf hj0 (hts _ u_455) d_Steps_relation_67 ?_
  refine me_opt (j := j71) (kp_r hkb hkp e72) ?_
  refine g_Code_7 hx hb hts hown hK hP hwf hj71 (hts _ u_239) d_Steps_relation_70 ?_
  refine lv_icmp_ne (tgt := 78) hx hb d_Steps_relation_73 (by decide) (fun c85 => ?_) (fun c85 => ?_)
  · have h := if_f c85 h
    exact b_78 M80 j74 r77 _ _ _ h hj74 hr77 hwf hkp hP hD hS (lv_sub hl [2, 1, 0] rfl)
  have h := if_t c85 h
  refine lv_iconst (v := 0) hx hb d_Steps_relation_76 (by decide) ?_
  exact me_reti (me_kp M0) h hx hb hr hlocks hwf hkp hP hK hD hS d_Steps_relation_77
