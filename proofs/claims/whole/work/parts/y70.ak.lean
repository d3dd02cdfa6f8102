theorem d_Cell_hasIdentity_0 : decode prog_2_method_13_code 0 = .ok (.aload_n 0, 1) := by decide +kernel
theorem d_Cell_hasIdentity_1 : decode prog_2_method_13_code 1 = .ok (.getfield 18, 3) := by decide +kernel
theorem d_Cell_hasIdentity_4 : decode prog_2_method_13_code 4 = .ok (.iconst 4, 1) := by decide +kernel
theorem d_Cell_hasIdentity_5 : decode prog_2_method_13_code 5 = .ok (.if_icmp .eq 12, 3) := by decide +kernel
theorem d_Cell_hasIdentity_17 : decode prog_2_method_13_code 17 = .ok (.iconst 1, 1) := by decide +kernel
theorem d_Cell_hasIdentity_18 : decode prog_2_method_13_code 18 = .ok (.goto 4, 3) := by decide +kernel
theorem d_Cell_hasIdentity_22 : decode prog_2_method_13_code 22 = .ok (.ireturn, 1) := by decide +kernel
theorem d_Cell_hasIdentity_8 : decode prog_2_method_13_code 8 = .ok (.aload_n 0, 1) := by decide +kernel
theorem d_Cell_hasIdentity_9 : decode prog_2_method_13_code 9 = .ok (.getfield 18, 3) := by decide +kernel
theorem d_Cell_hasIdentity_12 : decode prog_2_method_13_code 12 = .ok (.bipush 8, 2) := by decide +kernel
theorem d_Cell_hasIdentity_14 : decode prog_2_method_13_code 14 = .ok (.if_icmp .ne 7, 3) := by decide +kernel
theorem d_Cell_hasIdentity_21 : decode prog_2_method_13_code 21 = .ok (.iconst 0, 1) := by decide +kernel
abbrev y_Cell_hasIdentity : MethodName := ⟨"FilterGuard$Cell", "hasIdentity", "()Z"⟩
def rm_Cell_hasIdentity : Room := { frames := 1, cells := 0, slots := 0, locals := 20 }
abbrev q_Cell_hasIdentity (D : va_G) (ad : Nat → Nat → Nat) (ca : Nat → ClassId) (N : Nat → Nat) (M0 MZ : me_M) (RZ : Int32) (A : Nat → Prop) : Array Value → Jvm.State → Outcome → Jvm.State → Prop := va_Qi (fun r (_ : Unit) => r = RZ ∧ me_wf N MZ ∧ me_kp M0 MZ ∧ (RZ = 1 ∨ RZ = 0)) (fg_B D A (fun _ => me_W ad ca MZ) (fun _ => [])) A
set_option maxHeartbeats 4000000 in
set_option maxRecDepth 100000 in
theorem c_Cell_hasIdentity (l : Launch) (D : va_G) (ad : Nat → Nat → Nat) (ca : Nat → ClassId) (N : Nat → Nat) (M0 MZ : me_M) (RZ : Int32) (j0 : Nat) (h : f_Cell_hasIdentity M0 j0 = (some (MZ, RZ))) (hwf : me_wf N M0) (hj0 : j0 < N 10) (sz : Nat) : Met l y_Cell_hasIdentity (fg_w y_Cell_hasIdentity prog_2_method_13_code 1 (some .boolean)) rm_Cell_hasIdentity (va_Pc [.ref (ad 10 j0)] (fz_P D (me_T ca) (me_W ad ca M0) sz)) (q_Cell_hasIdentity D ad ca N M0 MZ RZ (va_A (me_W ad ca M0) sz)) rm_Cell_hasIdentity.cells rm_Cell_hasIdentity.slots (va_A (me_W ad ca M0) sz) := by
  refine fz_enter (fun A => q_Cell_hasIdentity D ad ca N M0 MZ RZ A) (by decide +kernel) (Nat.le_of_ble_eq_true rfl) ?_
  intro p e s m below meth c ls A hx hb hml hown hts hr hlocks hin hP hK hD hS hA hX hl hz
  have hl : lv_has ls 1 [(0, .ref (ad 10 j0))] := hl
  unfold f_Cell_hasIdentity at h
  have hkp : me_kp M0 M0 := me_kp.rf
  have hkb := hkp
  refine lv_aload_n hx hb d_Cell_hasIdentity_0 rfl (lv_at hl 0 rfl) ?_
  refine g_Cell_0 hx hb hts hown hK hP hwf hj0 (hts _ u_420) d_Cell_hasIdentity_1 ?_
  refine lv_iconst (v := 4) hx hb d_Cell_hasIdentity_4 (by decide) ?_
  refine lv_icmp_eq (tgt := 17) hx hb d_Cell_hasIdentity_5 (by decide) (fun c1 => ?_) (fun c1 => ?_)
  · have h := if_t c1 h
    refine lv_iconst (v := 1) hx hb d_Cell_hasIdentity_17 (by decide) ?_
    refine lv_goto (tgt := 22) hx hb d_Cell_hasIdentity_18 (by decide) ?_
    exact me_retz (me_kp M0) h (by decide) hx hb hr hlocks hwf hkp hP hK hD hS d_Cell_hasIdentity_22
  have h := if_f c1 h
  refine lv_aload_n hx hb d_Cell_hasIdentity_8 rfl (lv_at hl 0 rfl) ?_
  refine g_Cell_0 hx hb hts hown hK hP hwf hj0 (hts _ u_420) d_Cell_hasIdentity_9 ?_
  refine lv_bipush (v := 8) hx hb d_Cell_hasIdentity_12 (by decide) ?_
  refine lv_icmp_ne (tgt := 21) hx hb d_Cell_hasIdentity_14 (by decide) (fun c2 => ?_) (fun c2 => ?_)
  · have h := if_f c2 h
    refine lv_iconst (v := 0) hx hb d_Cell_hasIdentity_21 (by decide) ?_
    exact me_retz (me_kp M0) h (by decide) hx hb hr hlocks hwf hkp hP hK hD hS d_Cell_hasIdentity_22
  have h := if_t c2 h
  refine lv_iconst (v := 1) hx hb d_Cell_hasIdentity_17 (by decide) ?_
  refine lv_goto (tgt := 22) hx hb d_Cell_hasIdentity_18 (by decide) ?_
  exact me_retz (me_kp M0) h (by decide) hx hb hr hlocks hwf hkp hP hK hD hS d_Cell_hasIdentity_22
theorem d_Explorer_isPaired_30 : decode prog_5_method_7_code 30 = .ok (.aload_n 0, 1) := by decide +kernel
theorem d_Explorer_isPaired_31 : decode prog_5_method_7_code 31 = .ok (.getfield 20, 3) := by decide +kernel
theorem g_Explorer_5 {p : Program} {l : Launch} {e : Env} {R : Room} {s : Jvm.State} {m : MethodId} {args : Array Value} {below : List Frame} {meth : Method} {c : Code} {H : Heap} {locs : List Loc} {cells slots : Nat} {Q : Jvm.State → Prop} {cc : ByteArray} {pc : Nat} {ls : Array Slot} {rest : List Value} {D : va_G} {ad : Nat → Nat → Nat} {ca : Nat → ClassId} {M : me_M} {N : Nat → Nat} {own : String} {index j : Nat} (hexec : p.tables.exec = Jvm.exec) (hb : c.code = cc) (hts : ∀ w ∈ fg_g, w.before args s = true) (hown : s.vm.findClass own = some m.cls) (hK : va_K D classes (me_T ca) s) (hP : va_P D classes (me_W ad ca M) H) (hwf : me_wf N M) (hj : j < N 4) (hlink : (Cond.fieldLink own index "FilterGuard$Explorer" "keptIdentities" "[I").before args s = true) (hdg : decode cc pc = .ok (.getfield index, 3)) (kk : W p l e R s m args below meth c H locs cells slots Q (F0 m (pc + 3) ls (va_rf ((mR M 4 j 5).map (ad 13)) :: rest))) : W p l e R s m args below meth c H locs cells slots Q (F0 m pc ls (.ref (ad 4 j) :: rest)) := me_get (k := 4) (f := 5) (C := "FilterGuard$Explorer") (T := F_Explorer) (Nf := 15) hexec hb hts i_Explorer hown hK hP hwf hj (by decide) rfl (by decide) (by decide) hlink (fun _ h9 => h9) hdg kk
theorem d_Explorer_isPaired_34 : decode prog_5_method_7_code 34 = .ok (.iload_n 3, 1) := by decide +kernel
theorem d_Explorer_isPaired_35 : decode prog_5_method_7_code 35 = .ok (.iaload, 1) := by decide +kernel
theorem d_Explorer_isPaired_36 : decode prog_5_method_7_code 36 = .ok (.iload_n 1, 1) := by decide +kernel
theorem d_Explorer_isPaired_37 : decode prog_5_method_7_code 37 = .ok (.if_icmp .ne 17, 3) := by decide +kernel
theorem d_Explorer_isPaired_54 : decode prog_5_method_7_code 54 = .ok (.iconst 0, 1) := by decide +kernel
theorem d_Explorer_isPaired_55 : decode prog_5_method_7_code 55 = .ok (.ireturn, 1) := by decide +kernel
theorem d_Explorer_isPaired_40 : decode prog_5_method_7_code 40 = .ok (.aload_n 0, 1) := by decide +kernel
theorem d_Explorer_isPaired_41 : decode prog_5_method_7_code 41 = .ok (.getfield 24, 3) := by decide +kernel
theorem g_Explorer_6 {p : Program} {l : Launch} {e : Env} {R : Room} {s : Jvm.State} {m : MethodId} {args : Array Value} {below : List Frame} {meth : Method} {c : Code} {H : Heap} {locs : List Loc} {cells slots : Nat} {Q : Jvm.State → Prop} {cc : ByteArray} {pc : Nat} {ls : Array Slot} {rest : List Value} {D : va_G} {ad : Nat → Nat → Nat} {ca : Nat → ClassId} {M : me_M} {N : Nat → Nat} {own : String} {index j : Nat} (hexec : p.tables.exec = Jvm.exec) (hb : c.code = cc) (hts : ∀ w ∈ fg_g, w.before args s = true) (hown : s.vm.findClass own = some m.cls) (hK : va_K D classes (me_T ca) s) (hP : va_P D classes (me_W ad ca M) H) (hwf : me_wf N M) (hj : j < N 4) (hlink : (Cond.fieldLink own index "FilterGuard$Explorer" "itsIdentities" "[I").before args s = true) (hdg : decode cc pc = .ok (.getfield index, 3)) (kk : W p l e R s m args below meth c H locs cells slots Q (F0 m (pc + 3) ls (va_rf ((mR M 4 j 6).map (ad 13)) :: rest))) : W p l e R s m args below meth c H locs cells slots Q (F0 m pc ls (.ref (ad 4 j) :: rest)) := me_get (k := 4) (f := 6) (C := "FilterGuard$Explorer") (T := F_Explorer) (Nf := 15) hexec hb hts i_Explorer hown hK hP hwf hj (by decide) rfl (by decide) (by decide) hlink (fun _ h9 => h9) hdg kk
theorem d_Explorer_isPaired_44 : decode prog_5_method_7_code 44 = .ok (.iload_n 3, 1) := by decide +kernel
theorem d_Explorer_isPaired_45 : decode prog_5_method_7_code 45 = .ok (.iaload, 1) := by decide +kernel
theorem d_Explorer_isPaired_46 : decode prog_5_method_7_code 46 = .ok (.iload_n 2, 1) := by decide +kernel
theorem d_Explorer_isPaired_47 : decode prog_5_method_7_code 47 = .ok (.if_icmp .ne 7, 3) := by decide +kernel
theorem d_Explorer_isPaired_50 : decode prog_5_method_7_code 50 = .ok (.iconst 1, 1) := by decide +kernel
theorem d_Explorer_isPaired_51 : decode prog_5_method_7_code 51 = .ok (.goto 4, 3) := by decide +kernel
theorem d_Explorer_isPaired_2 : decode prog_5_method_7_code 2 = .ok (.iload_n 3, 1) := by decide +kernel
theorem d_Explorer_isPaired_3 : decode prog_5_method_7_code 3 = .ok (.aload_n 0, 1) := by decide +kernel
theorem d_Explorer_isPaired_4 : decode prog_5_method_7_code 4 = .ok (.getfield 124, 3) := by decide +kernel
theorem u_553 : Cond.fieldLink "FilterGuard$Explorer" 124 "FilterGuard$Explorer" "pairs" "I" ∈ fg_g := fg_in (List.mem_of_getElem? (i := 553) (by decide +kernel)) rfl
theorem g_Explorer_7 {p : Program} {l : Launch} {e : Env} {R : Room} {s : Jvm.State} {m : MethodId} {args : Array Value} {below : List Frame} {meth : Method} {c : Code} {H : Heap} {locs : List Loc} {cells slots : Nat} {Q : Jvm.State → Prop} {cc : ByteArray} {pc : Nat} {ls : Array Slot} {rest : List Value} {D : va_G} {ad : Nat → Nat → Nat} {ca : Nat → ClassId} {M : me_M} {N : Nat → Nat} {own : String} {index j : Nat} (hexec : p.tables.exec = Jvm.exec) (hb : c.code = cc) (hts : ∀ w ∈ fg_g, w.before args s = true) (hown : s.vm.findClass own = some m.cls) (hK : va_K D classes (me_T ca) s) (hP : va_P D classes (me_W ad ca M) H) (hwf : me_wf N M) (hj : j < N 4) (hlink : (Cond.fieldLink own index "FilterGuard$Explorer" "pairs" "I").before args s = true) (hdg : decode cc pc = .ok (.getfield index, 3)) (kk : W p l e R s m args below meth c H locs cells slots Q (F0 m (pc + 3) ls (.int (mI M 4 j 7) :: rest))) : W p l e R s m args below meth c H locs cells slots Q (F0 m pc ls (.ref (ad 4 j) :: rest)) := me_get (k := 4) (f := 7) (C := "FilterGuard$Explorer") (T := F_Explorer) (Nf := 15) hexec hb hts i_Explorer hown hK hP hwf hj (by decide) rfl (by decide) (by decide) hlink (fun _ h9 => h9) hdg kk
theorem d_Explorer_isPaired_7 : decode prog_5_method_7_code 7 = .ok (.if_icmp .ge 55, 3) := by decide +kernel
theorem d_Explorer_isPaired_62 : decode prog_5_method_7_code 62 = .ok (.aload_n 0, 1) := by decide +kernel
theorem d_Explorer_isPaired_63 : decode prog_5_method_7_code 63 = .ok (.getfield 20, 3) := by decide +kernel
theorem d_Explorer_isPaired_66 : decode prog_5_method_7_code 66 = .ok (.aload_n 0, 1) := by decide +kernel
theorem d_Explorer_isPaired_67 : decode prog_5_method_7_code 67 = .ok (.getfield 124, 3) := by decide +kernel
theorem d_Explorer_isPaired_70 : decode prog_5_method_7_code 70 = .ok (.iload_n 1, 1) := by decide +kernel
theorem d_Explorer_isPaired_71 : decode prog_5_method_7_code 71 = .ok (.iastore, 1) := by decide +kernel
theorem d_Explorer_isPaired_72 : decode prog_5_method_7_code 72 = .ok (.aload_n 0, 1) := by decide +kernel
theorem d_Explorer_isPaired_73 : decode prog_5_method_7_code 73 = .ok (.getfield 24, 3) := by decide +kernel
theorem d_Explorer_isPaired_76 : decode prog_5_method_7_code 76 = .ok (.aload_n 0, 1) := by decide +kernel
theorem d_Explorer_isPaired_77 : decode prog_5_method_7_code 77 = .ok (.getfield 124, 3) := by decide +kernel
theorem d_Explorer_isPaired_80 : decode prog_5_method_7_code 80 = .ok (.iload_n 2, 1) := by decide +kernel
theorem d_Explorer_isPaired_81 : decode prog_5_method_7_code 81 = .ok (.iastore, 1) := by decide +kernel
theorem d_Explorer_isPaired_82 : decode prog_5_method_7_code 82 = .ok (.aload_n 0, 1) := by decide +kernel
theorem d_Explorer_isPaired_83 : decode prog_5_method_7_code 83 = .ok (.dup, 1) := by decide +kernel
theorem d_Explorer_isPaired_84 : decode prog_5_method_7_code 84 = .ok (.getfield 124, 3) := by decide +kernel
theorem d_Explorer_isPaired_87 : decode prog_5_method_7_code 87 = .ok (.iconst 1, 1) := by decide +kernel
theorem d_Explorer_isPaired_88 : decode prog_5_method_7_code 88 = .ok (.iadd, 1) := by decide +kernel
theorem d_Explorer_isPaired_89 : decode prog_5_method_7_code 89 = .ok (.putfield 124, 3) := by decide +kernel
theorem p_Explorer_7 {p : Program} {l : Launch} {e : Env} {R : Room} {s : Jvm.State} {m : MethodId} {args : Array Value} {below : List Frame} {meth : Method} {c : Code} {H : Heap} {locs : List Loc} {cells slots : Nat} {Q : Jvm.State → Prop} {cc : ByteArray} {pc : Nat} {ls : Array Slot} {rest : List Value} {D : va_G} {A : Nat → Prop} {H0 : Heap} {ad : Nat → Nat → Nat} {ca : Nat → ClassId} {M M1 : me_M} {N : Nat → Nat} {own : String} {index j : Nat} {v : Int32} (he : M1 = wI M 4 j 7 v) (hexec : p.tables.exec = Jvm.exec) (hb : c.code = cc) (hts : ∀ w ∈ fg_g, w.before args s = true) (hown : s.vm.findClass own = some m.cls) (hK : va_K D classes (me_T ca) s) (hP : va_P D classes (me_W ad ca M) H) (hD : va_D A (me_W ad ca M)) (hwf : me_wf N M) (hS : va_S A H0 H locs) (hj : j < N 4) (hlink : (Cond.fieldLink own index "FilterGuard$Explorer" "pairs" "I").before args s = true) (hdg : decode cc pc = .ok (.putfield index, 3)) (kk : ∀ (H1 : Heap) (locs1 : List Loc), va_P D classes (me_W ad ca M1) H1 → va_D A (me_W ad ca M1) → me_wf N M1 → va_S A H0 H1 locs1 → W p l e R s m args below meth c H1 locs1 cells slots Q (F0 m (pc + 3) ls rest)) : W p l e R s m args below meth c H locs cells slots Q (F0 m pc ls (.int v :: .ref (ad 4 j) :: rest)) := by
  subst he
  exact me_put (M1 := wI M 4 j 7 v) (k := 4) (f := 7) (C := "FilterGuard$Explorer") (T := F_Explorer) (Nf := 15) hexec hb hts i_Explorer t_Explorer t_Explorer_ok n_Explorer hown hK hP hD hwf hS hj (by decide) rfl (by decide) (by decide) hlink (fun _ h9 => h9) rfl rfl rfl rfl (fun a b h => me_wIE h) (me_fIw (by decide) (by decide)) hdg (fun H1 locs1 a1 a2 a3 => kk H1 locs1 a1 a2 (me_wfI hwf (fun z => absurd z (by decide)) (fun z => absurd z (by decide))) a3)
theorem d_Explorer_isPaired_92 : decode prog_5_method_7_code 92 = .ok (.iconst 1, 1) := by decide +kernel
theorem d_Explorer_isPaired_93 : decode prog_5_method_7_code 93 = .ok (.ireturn, 1) := by decide +kernel
theorem d_Explorer_isPaired_10 : decode prog_5_method_7_code 10 = .ok (.aload_n 0, 1) := by decide +kernel
theorem d_Explorer_isPaired_11 : decode prog_5_method_7_code 11 = .ok (.getfield 20, 3) := by decide +kernel
theorem d_Explorer_isPaired_14 : decode prog_5_method_7_code 14 = .ok (.iload_n 3, 1) := by decide +kernel
theorem d_Explorer_isPaired_15 : decode prog_5_method_7_code 15 = .ok (.iaload, 1) := by decide +kernel
theorem d_Explorer_isPaired_16 : decode prog_5_method_7_code 16 = .ok (.iload_n 1, 1) := by decide +kernel
theorem d_Explorer_isPaired_17 : decode prog_5_method_7_code 17 = .ok (.if_icmp .eq 13, 3) := by decide +kernel
theorem d_Explorer_isPaired_20 : decode prog_5_method_7_code 20 = .ok (.aload_n 0, 1) := by decide +kernel
theorem d_Explorer_isPaired_21 : decode prog_5_method_7_code 21 = .ok (.getfield 24, 3) := by decide +kernel
theorem d_Explorer_isPaired_24 : decode prog_5_method_7_code 24 = .ok (.iload_n 3, 1) := by decide +kernel
theorem d_Explorer_isPaired_25 : decode prog_5_method_7_code 25 = .ok (.iaload, 1) := by decide +kernel
theorem d_Explorer_isPaired_26 : decode prog_5_method_7_code 26 = .ok (.iload_n 2, 1) := by decide +kernel
theorem d_Explorer_isPaired_27 : decode prog_5_method_7_code 27 = .ok (.if_icmp .ne 29, 3) := by decide +kernel
theorem d_Explorer_isPaired_56 : decode prog_5_method_7_code 56 = .ok (.iinc 3 1, 3) := by decide +kernel
theorem d_Explorer_isPaired_59 : decode prog_5_method_7_code 59 = .ok (.goto (-57), 3) := by decide +kernel
theorem d_Explorer_isPaired_0 : decode prog_5_method_7_code 0 = .ok (.iconst 0, 1) := by decide +kernel
theorem d_Explorer_isPaired_1 : decode prog_5_method_7_code 1 = .ok (.istore_n 3, 1) := by decide +kernel
abbrev y_Explorer_isPaired : MethodName := ⟨"FilterGuard$Explorer", "isPaired", "(II)Z"⟩
def rm_Explorer_isPaired : Room := { frames := 1, cells := 0, slots := 0, locals := 20 }
abbrev q_Explorer_isPaired (D : va_G) (ad : Nat → Nat → Nat) (ca : Nat → ClassId) (N : Nat → Nat) (M0 MZ : me_M) (RZ : Int32) (A : Nat → Prop) : Array Value → Jvm.State → Outcome → Jvm.State → Prop := va_Qi (fun r (_ : Unit) => r = RZ ∧ me_wf N MZ ∧ me_kp M0 MZ ∧ (RZ = 1 ∨ RZ = 0)) (fg_B D A (fun _ => me_W ad ca MZ) (fun _ => [])) A
set_option maxHeartbeats 4000000 in
set_option maxRecDepth 100000 in
theorem c_Explorer_isPaired (l : Launch) (D : va_G) (ad : Nat → Nat → Nat) (ca : Nat → ClassId) (N : Nat → Nat) (M0 MZ : me_M) (RZ : Int32) (j0 : Nat) (x1 : Int32) (x2 : Int32) (h : f_Explorer_isPaired M0 j0 x1 x2 = (some (MZ, RZ))) (hwf : me_wf N M0) (hj0 : j0 < N 4) (sz : Nat) : Met l y_Explorer_isPaired (fg_w y_Explorer_isPaired prog_5_method_7_code 4 (some .boolean)) rm_Explorer_isPaired (va_Pc [.ref (ad 4 j0), .int x1, .int x2] (fz_P D (me_T ca) (me_W ad ca M0) sz)) (q_Explorer_isPaired D ad ca N M0 MZ RZ (va_A (me_W ad ca M0) sz)) rm_Explorer_isPaired.cells rm_Explorer_isPaired.slots (va_A (me_W ad ca M0) sz) := by
  refine fz_enter (fun A => q_Explorer_isPaired D ad ca N M0 MZ RZ A) (by decide +kernel) (Nat.le_of_ble_eq_true rfl) ?_
  intro p e s m below meth c ls A hx hb hml hown hts hr hlocks hin hP hK hD hS hA hX hl hz
  have hl : lv_has ls 4 [(0, .ref (ad 4 j0)), (1, .int x1), (2, .int x2)] := hl
  unfold f_Explorer_isPaired at h
  have hkp : me_kp M0 M0 := me_kp.rf
  have hkb := hkp
  have b_30 : ∀ (M : me_M) (y3 : Int32) (H : Heap) (locs : List Loc) (ls : Array Slot), f_Explorer_isPaired_b30 j0 x1 x2 M y3 = (some (MZ, RZ)) → me_wf N M → me_kp M0 M → va_P D classes (me_W ad ca M) H → va_D A (me_W ad ca M) → va_S A s.heap H locs → lv_has ls 4 [(0, .ref (ad 4 j0)), (1, .int x1), (2, .int x2), (3, .int y3)] → W p l e rm_Explorer_isPaired s m [.ref (ad 4 j0), .int x1, .int x2].toArray below meth c H locs 0 0 (MQ below (q_Explorer_isPaired D ad ca N M0 MZ RZ A) [.ref (ad 4 j0), .int x1, .int x2].toArray s rm_Explorer_isPaired.cells rm_Explorer_isPaired.slots A) (F0 m 30 ls []) := by
    intro M y3 H locs ls h hwf hkp hP hD hS hl
    unfold f_Explorer_isPaired_b30 at h
    have hkb := hkp
    refine lv_aload_n hx hb d_Explorer_isPaired_30 rfl (lv_at hl 0 rfl) ?_
    refine g_Explorer_5 hx hb hts hown hK hP hwf hj0 (hts _ u_551) d_Explorer_isPaired_31 ?_
    obtain ⟨j1, e2, h⟩ := bd_ob h
    have hj1 : j1 < N 13 := (hwf.2.1 4 j0 5 _ e2 (by decide) hj0)
    refine me_opt (j := j1) e2 ?_
    refine lv_iload_n hx hb d_Explorer_isPaired_34 rfl (lv_at hl 3 rfl) ?_
    obtain ⟨g3, h⟩ := gd_ob h
    refine me_iald hx hb hK hP hwf hj1 g3 d_Explorer_isPaired_35 ?_
    refine lv_iload_n hx hb d_Explorer_isPaired_36 rfl (lv_at hl 1 rfl) ?_
    refine lv_icmp_ne (tgt := 54) hx hb d_Explorer_isPaired_37 (by decide) (fun c4 => ?_) (fun c4 => ?_)
    · have h := if_f c4 h
      refine lv_iconst (v := 0) hx hb d_Explorer_isPaired_54 (by decide) ?_
      exact me_retz (me_kp M0) h (by decide) hx hb hr hlocks hwf hkp hP hK hD hS d_Explorer_isPaired_55
    have h := if_t c4 h
    refine lv_aload_n hx hb d_Explorer_isPaired_40 rfl (lv_at hl 0 rfl) ?_
    refine g_Explorer_6 hx hb hts hown hK hP hwf hj0 (hts _ u_552) d_Explorer_isPaired_41 ?_
    obtain ⟨j5, e6, h⟩ := bd_ob h
    have hj5 : j5 < N 13 := (hwf.2.1 4 j0 6 _ e6 (by decide) hj0)
    refine me_opt (j := j5) e6 ?_
    refine lv_iload_n hx hb d_Explorer_isPaired_44 rfl (lv_at hl 3 rfl) ?_
    obtain ⟨g7, h⟩ := gd_ob h
    refine me_iald hx hb hK hP hwf hj5 g7 d_Explorer_isPaired_45 ?_
    refine lv_iload_n hx hb d_Explorer_isPaired_46 rfl (lv_at hl 2 rfl) ?_
    refine lv_icmp_ne (tgt := 54) hx hb d_Explorer_isPaired_47 (by decide) (fun c8 => ?_) (fun c8 => ?_)
    · have h := if_f c8 h
      refine lv_iconst (v := 0) hx hb d_Explorer_isPaired_54 (by decide) ?_
      exact me_retz (me_kp M0) h (by decide) hx hb hr hlocks hwf hkp hP hK hD hS d_Explorer_isPaired_55
    have h := if_t c8 h
    refine lv_iconst (v := 1) hx hb d_Explorer_isPaired_50 (by decide) ?_
    refine lv_goto (tgt := 55) hx hb d_Explorer_isPaired_51 (by decide) ?_
    exact me_retz (me_kp M0) h (by decide) hx hb hr hlocks hwf hkp hP hK hD hS d_Explorer_isPaired_55
  have b_2 : ∀ (fu : Nat), ∀ (M : me_M) (y3 : Int32) (H : Heap) (locs : List Loc) (ls : Array Slot), f_Explorer_isPaired_l2 j0 x1 x2 fu M y3 = (some (MZ, RZ)) → me_wf N M → me_kp M0 M → va_P D classes (me_W ad ca M) H → va_D A (me_W ad ca M) → va_S A s.heap H locs → lv_has ls 4 [(0, .ref (ad 4 j0)), (1, .int x1), (2, .int x2), (3, .int y3)] → W p l e rm_Explorer_isPaired s m [.ref (ad 4 j0), .int x1, .int x2].toArray below meth c H locs 0 0 (MQ below (q_Explorer_isPaired D ad ca N M0 MZ RZ A) [.ref (ad 4 j0), .int x1, .int x2].toArray s rm_Explorer_isPaired.cells rm_Explorer_isPaired.slots A) (F0 m 2 ls []) := by
    intro fu
    induction fu with
    | zero =>
      intro M y3 H locs ls h hwf hkp hP hD hS hl
      cases h
    | succ fu ih =>
      intro M y3 H locs ls h hwf hkp hP hD hS hl
      unfold f_Explorer_isPaired_l2 at h
      have hkb := hkp
      refine lv_iload_n hx hb d_Explorer_isPaired_2 rfl (lv_at hl 3 rfl) ?_
      refine lv_aload_n hx hb d_Explorer_isPaired_3 rfl (lv_at hl 0 rfl) ?_
      refine g_Explorer_7 hx hb hts hown hK hP hwf hj0 (hts _ u_553) d_Explorer_isPaired_4 ?_
      refine lv_icmp_ge (tgt := 62) hx hb d_Explorer_isPaired_7 (by decide) (fun c9 => ?_) (fun c9 => ?_)
      · have h := if_t c9 h
        refine lv_aload_n hx hb d_Explorer_isPaired_62 rfl (lv_at hl 0 rfl) ?_
        refine g_Explorer_5 hx hb hts hown hK hP hwf hj0 (hts _ u_551) d_Explorer_isPaired_63 ?_
        obtain ⟨j10, e11, h⟩ := bd_ob h
        have hj10 : j10 < N 13 := (hwf.2.1 4 j0 5 _ e11 (by decide) hj0)
        refine me_opt (j := j10) e11 ?_
        refine lv_aload_n hx hb d_Explorer_isPaired_66 rfl (lv_at hl 0 rfl) ?_
        refine g_Explorer_7 hx hb hts hown hK hP hwf hj0 (hts _ u_553) d_Explorer_isPaired_67 ?_
        refine lv_iload_n hx hb d_Explorer_isPaired_70 rfl (lv_at hl 1 rfl) ?_
        obtain ⟨g12, h⟩ := gd_ob h
        obtain ⟨M13, eM13, h⟩ := st_ob h
        refine me_iast eM13 hx hb hK hP hD hwf hS hj10 g12 d_Explorer_isPaired_71 (fun H locs hP hD hwf hS => ?_)
        have hkp := kp_I eM13 hkp
        refine lv_aload_n hx hb d_Explorer_isPaired_72 rfl (lv_at hl 0 rfl) ?_
        refine g_Explorer_6 hx hb hts hown hK hP hwf hj0 (hts _ u_552) d_Explorer_isPaired_73 ?_
        obtain ⟨j14, e15, h⟩ := bd_ob h
        have hj14 : j14 < N 13 := (hwf.2.1 4 j0 6 _ (kp_r hkb hkp e15) (by decide) hj0)
        refine me_opt (j := j14) (kp_r hkb hkp e15) ?_
        refine lv_aload_n hx hb d_Explorer_isPaired_76 rfl (lv_at hl 0 rfl) ?_
        refine g_Explorer_7 hx hb hts hown hK hP hwf hj0 (hts _ u_553) d_Explorer_isPaired_77 ?_
        refine lv_iload_n hx hb d_Explorer_isPaired_80 rfl (lv_at hl 2 rfl) ?_
        obtain ⟨g16, h⟩ := gd_ob h
        obtain ⟨M17, eM17, h⟩ := st_ob h
        refine me_iast eM17 hx hb hK hP hD hwf hS hj14 (kp_z hkb.z hkp.z g16) d_Explorer_isPaired_81 (fun H locs hP hD hwf hS => ?_)
        have hkp := kp_I eM17 hkp
        refine lv_aload_n hx hb d_Explorer_isPaired_82 rfl (lv_at hl 0 rfl) ?_
        refine lv_dup hx hb d_Explorer_isPaired_83 rfl ?_
        refine g_Explorer_7 hx hb hts hown hK hP hwf hj0 (hts _ u_553) d_Explorer_isPaired_84 ?_
        refine lv_iconst (v := 1) hx hb d_Explorer_isPaired_87 (by decide) ?_
        refine lv_iadd hx hb d_Explorer_isPaired_88 ?_
        obtain ⟨M18, eM18, h⟩ := st_ob h
        refine p_Explorer_7 eM18 hx hb hts hown hK hP hD hwf hS hj0 (hts _ u_553) d_Explorer_isPaired_89 (fun H locs hP hD hwf hS => ?_)
        have hkp := kp_I eM18 hkp
        refine lv_iconst (v := 1) hx hb d_Explorer_isPaired_92 (by decide) ?_
        exact me_retz (me_kp M0) h (by decide) hx hb hr hlocks hwf hkp hP hK hD hS d_Explorer_isPaired_93
      have h := if_f c9 h
      refine lv_aload_n hx hb d_Explorer_isPaired_10 rfl (lv_at hl 0 rfl) ?_
      refine g_Explorer_5 hx hb hts hown hK hP hwf hj0 (hts _ u_551) d_Explorer_isPaired_11 ?_
      obtain ⟨j19, e20, h⟩ := bd_ob h
      have hj19 : j19 < N 13 := (hwf.2.1 4 j0 5 _ e20 (by decide) hj0)
      refine me_opt (j := j19) e20 ?_
      refine lv_iload_n hx hb d_Explorer_isPaired_14 rfl (lv_at hl 3 rfl) ?_
      obtain ⟨g21, h⟩ := gd_ob h
      refine me_iald hx hb hK hP hwf hj19 g21 d_Explorer_isPaired_15 ?_
      refine lv_iload_n hx hb d_Explorer_isPaired_16 rfl (lv_at hl 1 rfl) ?_
      refine lv_icmp_eq (tgt := 30) hx hb d_Explorer_isPaired_17 (by decide) (fun c22 => ?_) (fun c22 => ?_)
      · have h := if_t c22 h
        exact b_30 M y3 _ _ _ h hwf hkp hP hD hS (lv_sub hl [0, 1, 2, 3] rfl)
      have h := if_f c22 h
      refine lv_aload_n hx hb d_Explorer_isPaired_20 rfl (lv_at hl 0 rfl) ?_
      refine g_Explorer_6 hx hb hts hown hK hP hwf hj0 (hts _ u_552) d_Explorer_isPaired_21 ?_
      obtain ⟨j23, e24, h⟩ := bd_ob h
      have hj23 : j23 < N 13 := (hwf.2.1 4 j0 6 _ e24 (by decide) hj0)
      refine me_opt (j := j23) e24 ?_
      refine lv_iload_n hx hb d_Explorer_isPaired_24 rfl (lv_at hl 3 rfl) ?_
      obtain ⟨g25, h⟩ := gd_ob h
      refine me_iald hx hb hK hP hwf hj23 g25 d_Explorer_isPaired_25 ?_
      refine lv_iload_n hx hb d_Explorer_isPaired_26 rfl (lv_at hl 2 rfl) ?_
      refine lv_icmp_ne (tgt := 56) hx hb d_Explorer_isPaired_27 (by decide) (fun c26 => ?_) (fun c26 => ?_)
      · have h := if_f c26 h
        refine lv_iinc (v := y3 + 1) (lv' := [(3, .int (y3 + 1)), (0, .ref (ad 4 j0)), (1, .int x1), (2, .int x2)]) hx hb d_Explorer_isPaired_56 hl (k := 3) rfl (by rfl) (by decide) rfl (fun ls hl => ?_)
        refine lv_goto (tgt := 2) hx hb d_Explorer_isPaired_59 (by decide) ?_
        exact ih M (y3 + 1) _ _ _ h hwf hkp hP hD hS (lv_sub hl [1, 2, 3, 0] rfl)
      have h := if_t c26 h
      exact b_30 M y3 _ _ _ h hwf hkp hP hD hS (lv_sub hl [0, 1, 2, 3] rfl)
  refine lv_iconst (v := 0) hx hb d_Explorer_isPaired_0 (by decide) ?_
  refine lv_istore_n (lv' := [(3, .int 0), (0, .ref (ad 4 j0)), (1, .int x1), (2, .int x2)]) hx hb d_Explorer_isPaired_1 rfl hl (by decide) rfl (fun ls hl => ?_)
  exact b_2 _ M0 (0 : Int32) _ _ _ h hwf hkp hP hD hS (lv_sub hl [1, 2, 3, 0] rfl)
theorem d_Explorer_isWithin_7 : decode prog_5_method_6_code 7 = .ok (.iload_n 2, 1) := by decide +kernel
theorem d_Explorer_isWithin_8 : decode prog_5_method_6_code 8 = .ok (.aload_n 1, 1) := by decide +kernel
theorem d_Explorer_isWithin_9 : decode prog_5_method_6_code 9 = .ok (.getfield 127, 3) := by decide +kernel
theorem u_528 : Cond.fieldLink "FilterGuard$Explorer" 127 "FilterGuard$State" "used" "I" ∈ fg_g := fg_in (List.mem_of_getElem? (i := 528) (by decide +kernel)) rfl
theorem d_Explorer_isWithin_12 : decode prog_5_method_6_code 12 = .ok (.if_icmp .ge 61, 3) := by decide +kernel
theorem d_Explorer_isWithin_73 : decode prog_5_method_6_code 73 = .ok (.iconst 1, 1) := by decide +kernel
theorem d_Explorer_isWithin_74 : decode prog_5_method_6_code 74 = .ok (.ireturn, 1) := by decide +kernel
theorem d_Explorer_isWithin_15 : decode prog_5_method_6_code 15 = .ok (.aload_n 1, 1) := by decide +kernel
theorem d_Explorer_isWithin_16 : decode prog_5_method_6_code 16 = .ok (.getfield 130, 3) := by decide +kernel
theorem u_526 : Cond.fieldLink "FilterGuard$Explorer" 130 "FilterGuard$State" "cells" "[LFilterGuard$Cell;" ∈ fg_g := fg_in (List.mem_of_getElem? (i := 526) (by decide +kernel)) rfl
theorem d_Explorer_isWithin_19 : decode prog_5_method_6_code 19 = .ok (.iload_n 2, 1) := by decide +kernel
theorem d_Explorer_isWithin_20 : decode prog_5_method_6_code 20 = .ok (.aaload, 1) := by decide +kernel
theorem d_Explorer_isWithin_21 : decode prog_5_method_6_code 21 = .ok (.astore_n 3, 1) := by decide +kernel
theorem d_Explorer_isWithin_22 : decode prog_5_method_6_code 22 = .ok (.aload_n 0, 1) := by decide +kernel
theorem d_Explorer_isWithin_23 : decode prog_5_method_6_code 23 = .ok (.getfield 45, 3) := by decide +kernel
theorem g_Explorer_8 {p : Program} {l : Launch} {e : Env} {R : Room} {s : Jvm.State} {m : MethodId} {args : Array Value} {below : List Frame} {meth : Method} {c : Code} {H : Heap} {locs : List Loc} {cells slots : Nat} {Q : Jvm.State → Prop} {cc : ByteArray} {pc : Nat} {ls : Array Slot} {rest : List Value} {D : va_G} {ad : Nat → Nat → Nat} {ca : Nat → ClassId} {M : me_M} {N : Nat → Nat} {own : String} {index j : Nat} (hexec : p.tables.exec = Jvm.exec) (hb : c.code = cc) (hts : ∀ w ∈ fg_g, w.before args s = true) (hown : s.vm.findClass own = some m.cls) (hK : va_K D classes (me_T ca) s) (hP : va_P D classes (me_W ad ca M) H) (hwf : me_wf N M) (hj : j < N 4) (hlink : (Cond.fieldLink own index "FilterGuard$Explorer" "now" "LFilterGuard$State;").before args s = true) (hdg : decode cc pc = .ok (.getfield index, 3)) (kk : W p l e R s m args below meth c H locs cells slots Q (F0 m (pc + 3) ls (va_rf ((mR M 4 j 8).map (ad 9)) :: rest))) : W p l e R s m args below meth c H locs cells slots Q (F0 m pc ls (.ref (ad 4 j) :: rest)) := me_get (k := 4) (f := 8) (C := "FilterGuard$Explorer") (T := F_Explorer) (Nf := 15) hexec hb hts i_Explorer hown hK hP hwf hj (by decide) rfl (by decide) (by decide) hlink (fun _ h9 => h9) hdg kk
theorem d_Explorer_isWithin_26 : decode prog_5_method_6_code 26 = .ok (.getfield 130, 3) := by decide +kernel
theorem d_Explorer_isWithin_29 : decode prog_5_method_6_code 29 = .ok (.iload_n 2, 1) := by decide +kernel
theorem d_Explorer_isWithin_30 : decode prog_5_method_6_code 30 = .ok (.aaload, 1) := by decide +kernel
theorem d_Explorer_isWithin_31 : decode prog_5_method_6_code 31 = .ok (.astore 4, 2) := by decide +kernel
theorem d_Explorer_isWithin_33 : decode prog_5_method_6_code 33 = .ok (.aload_n 3, 1) := by decide +kernel
theorem d_Explorer_isWithin_34 : decode prog_5_method_6_code 34 = .ok (.aload 4, 2) := by decide +kernel
theorem d_Explorer_isWithin_36 : decode prog_5_method_6_code 36 = .ok (.invokevirtual 134, 3) := by decide +kernel
theorem u_1053 : Cond.methodLink "FilterGuard$Explorer" 134 ⟨"FilterGuard$Cell", "isAround", "(LFilterGuard$Cell;)Z"⟩ ∈ fg_g := fg_in (List.mem_of_getElem? (i := 1053) (by decide +kernel)) rfl
theorem u_1056 : Cond.code ⟨"FilterGuard$Cell", "isAround", "(LFilterGuard$Cell;)Z"⟩ prog_2_method_14_code 3 (some .boolean) ∈ fg_g := fg_in (List.mem_of_getElem? (i := 1056) (by decide +kernel)) rfl
theorem u_1054 : Cond.instanceMethod ⟨"FilterGuard$Cell", "isAround", "(LFilterGuard$Cell;)Z"⟩ ∈ fg_g := fg_in (List.mem_of_getElem? (i := 1054) (by decide +kernel)) rfl
theorem u_1055 : Cond.selects "FilterGuard$Cell" ⟨"FilterGuard$Cell", "isAround", "(LFilterGuard$Cell;)Z"⟩ ⟨"FilterGuard$Cell", "isAround", "(LFilterGuard$Cell;)Z"⟩ ∈ fg_g := fg_in (List.mem_of_getElem? (i := 1055) (by decide +kernel)) rfl
theorem d_Explorer_isWithin_39 : decode prog_5_method_6_code 39 = .ok (.ifCond .eq 26, 3) := by decide +kernel
theorem d_Explorer_isWithin_65 : decode prog_5_method_6_code 65 = .ok (.iconst 0, 1) := by decide +kernel
theorem d_Explorer_isWithin_66 : decode prog_5_method_6_code 66 = .ok (.ireturn, 1) := by decide +kernel
theorem d_Explorer_isWithin_42 : decode prog_5_method_6_code 42 = .ok (.aload_n 3, 1) := by decide +kernel
theorem d_Explorer_isWithin_43 : decode prog_5_method_6_code 43 = .ok (.invokevirtual 140, 3) := by decide +kernel
theorem u_1066 : Cond.methodLink "FilterGuard$Explorer" 140 ⟨"FilterGuard$Cell", "hasIdentity", "()Z"⟩ ∈ fg_g := fg_in (List.mem_of_getElem? (i := 1066) (by decide +kernel)) rfl
theorem u_1069 : Cond.code ⟨"FilterGuard$Cell", "hasIdentity", "()Z"⟩ prog_2_method_13_code 1 (some .boolean) ∈ fg_g := fg_in (List.mem_of_getElem? (i := 1069) (by decide +kernel)) rfl
theorem u_1067 : Cond.instanceMethod ⟨"FilterGuard$Cell", "hasIdentity", "()Z"⟩ ∈ fg_g := fg_in (List.mem_of_getElem? (i := 1067) (by decide +kernel)) rfl
theorem u_1068 : Cond.selects "FilterGuard$Cell" ⟨"FilterGuard$Cell", "hasIdentity", "()Z"⟩ ⟨"FilterGuard$Cell", "hasIdentity", "()Z"⟩ ∈ fg_g := fg_in (List.mem_of_getElem? (i := 1068) (by decide +kernel)) rfl
theorem d_Explorer_isWithin_46 : decode prog_5_method_6_code 46 = .ok (.ifCond .eq 21, 3) := by decide +kernel
theorem d_Explorer_isWithin_67 : decode prog_5_method_6_code 67 = .ok (.iinc 2 1, 3) := by decide +kernel
theorem d_Explorer_isWithin_70 : decode prog_5_method_6_code 70 = .ok (.goto (-63), 3) := by decide +kernel
theorem d_Explorer_isWithin_49 : decode prog_5_method_6_code 49 = .ok (.aload_n 0, 1) := by decide +kernel
theorem d_Explorer_isWithin_50 : decode prog_5_method_6_code 50 = .ok (.aload_n 3, 1) := by decide +kernel
theorem d_Explorer_isWithin_51 : decode prog_5_method_6_code 51 = .ok (.getfield 143, 3) := by decide +kernel
theorem u_429 : Cond.fieldLink "FilterGuard$Explorer" 143 "FilterGuard$Cell" "identity" "I" ∈ fg_g := fg_in (List.mem_of_getElem? (i := 429) (by decide +kernel)) rfl
theorem g_Cell_3 {p : Program} {l : Launch} {e : Env} {R : Room} {s : Jvm.State} {m : MethodId} {args : Array Value} {below : List Frame} {meth : Method} {c : Code} {H : Heap} {locs : List Loc} {cells slots : Nat} {Q : Jvm.State → Prop} {cc : ByteArray} {pc : Nat} {ls : Array Slot} {rest : List Value} {D : va_G} {ad : Nat → Nat → Nat} {ca : Nat → ClassId} {M : me_M} {N : Nat → Nat} {own : String} {index j : Nat} (hexec : p.tables.exec = Jvm.exec) (hb : c.code = cc) (hts : ∀ w ∈ fg_g, w.before args s = true) (hown : s.vm.findClass own = some m.cls) (hK : va_K D classes (me_T ca) s) (hP : va_P D classes (me_W ad ca M) H) (hwf : me_wf N M) (hj : j < N 10) (hlink : (Cond.fieldLink own index "FilterGuard$Cell" "identity" "I").before args s = true) (hdg : decode cc pc = .ok (.getfield index, 3)) (kk : W p l e R s m args below meth c H locs cells slots Q (F0 m (pc + 3) ls (.int (mI M 10 j 3) :: rest))) : W p l e R s m args below meth c H locs cells slots Q (F0 m pc ls (.ref (ad 10 j) :: rest)) := me_get (k := 10) (f := 3) (C := "FilterGuard$Cell") (T := F_Cell) (Nf := 7) hexec hb hts i_Cell hown hK hP hwf hj (by decide) rfl (by decide) (by decide) hlink (fun _ h9 => h9) hdg kk
theorem d_Explorer_isWithin_54 : decode prog_5_method_6_code 54 = .ok (.aload 4, 2) := by decide +kernel
theorem d_Explorer_isWithin_56 : decode prog_5_method_6_code 56 = .ok (.getfield 143, 3) := by decide +kernel
theorem d_Explorer_isWithin_59 : decode prog_5_method_6_code 59 = .ok (.invokevirtual 146, 3) := by decide +kernel
theorem u_1070 : Cond.methodLink "FilterGuard$Explorer" 146 ⟨"FilterGuard$Explorer", "isPaired", "(II)Z"⟩ ∈ fg_g := fg_in (List.mem_of_getElem? (i := 1070) (by decide +kernel)) rfl
theorem u_1073 : Cond.code ⟨"FilterGuard$Explorer", "isPaired", "(II)Z"⟩ prog_5_method_7_code 4 (some .boolean) ∈ fg_g := fg_in (List.mem_of_getElem? (i := 1073) (by decide +kernel)) rfl
theorem u_1072 : Cond.instanceMethod ⟨"FilterGuard$Explorer", "isPaired", "(II)Z"⟩ ∈ fg_g := fg_in (List.mem_of_getElem? (i := 1072) (by decide +kernel)) rfl
theorem u_15 : Cond.selects "FilterGuard$Explorer" ⟨"FilterGuard$Explorer", "isPaired", "(II)Z"⟩ ⟨"FilterGuard$Explorer", "isPaired", "(II)Z"⟩ ∈ fg_g := fg_in (List.mem_of_getElem? (i := 15) (by decide +kernel)) rfl
theorem d_Explorer_isWithin_62 : decode prog_5_method_6_code 62 = .ok (.ifCond .ne 5, 3) := by decide +kernel
theorem d_Explorer_isWithin_0 : decode prog_5_method_6_code 0 = .ok (.aload_n 0, 1) := by decide +kernel
theorem d_Explorer_isWithin_1 : decode prog_5_method_6_code 1 = .ok (.iconst 1, 1) := by decide +kernel
theorem d_Explorer_isWithin_2 : decode prog_5_method_6_code 2 = .ok (.putfield 124, 3) := by decide +kernel
theorem d_Explorer_isWithin_5 : decode prog_5_method_6_code 5 = .ok (.iconst 0, 1) := by decide +kernel
theorem d_Explorer_isWithin_6 : decode prog_5_method_6_code 6 = .ok (.istore_n 2, 1) := by decide +kernel
abbrev y_Explorer_isWithin : MethodName := ⟨"FilterGuard$Explorer", "isWithin", "(LFilterGuard$State;)Z"⟩
def rm_Explorer_isWithin : Room := { frames := 4, cells := 0, slots := 0, locals := 86 }
abbrev q_Explorer_isWithin (D : va_G) (ad : Nat → Nat → Nat) (ca : Nat → ClassId) (N : Nat → Nat) (M0 MZ : me_M) (RZ : Int32) (A : Nat → Prop) : Array Value → Jvm.State → Outcome → Jvm.State → Prop := va_Qi (fun r (_ : Unit) => r = RZ ∧ me_wf N MZ ∧ me_kp M0 MZ ∧ (RZ = 1 ∨ RZ = 0)) (fg_B D A (fun _ => me_W ad ca MZ) (fun _ => [])) A
set_option maxHeartbeats 4000000 in
set_option maxRecDepth 100000 in
theorem c_Explorer_isWithin (l : Launch) (D : va_G) (ad : Nat → Nat → Nat) (ca : Nat → ClassId) (N : Nat → Nat) (M0 MZ : me_M) (RZ : Int32) (j0 : Nat) (j1 : Nat) (h : f_Explorer_isWithin M0 j0 j1 = (some (MZ, RZ))) (hwf : me_wf N M0) (hj0 : j0 < N 4) (hj1 : j1 < N 9) (sz : Nat) : Met l y_Explorer_isWithin (fg_w y_Explorer_isWithin prog_5_method_6_code 5 (some .boolean)) rm_Explorer_isWithin (va_Pc [.ref (ad 4 j0), .ref (ad 9 j1)] (fz_P D (me_T ca) (me_W ad ca M0) sz)) (q_Explorer_isWithin D ad ca N M0 MZ RZ (va_A (me_W ad ca M0) sz)) rm_Explorer_isWithin.cells rm_Explorer_isWithin.slots (va_A (me_W ad ca M0) sz) := by
  refine fz_enter (fun A => q_Explorer_isWithin D ad ca N M0 MZ RZ A) (by decide +kernel) (Nat.le_of_ble_eq_true rfl) ?_
  intro p e s m below meth c ls A hx hb hml hown hts hr hlocks hin hP hK hD hS hA hX hl hz
  have hl : lv_has ls 5 [(0, .ref (ad 4 j0)), (1, .ref (ad 9 j1))] := hl
  unfold f_Explorer_isWithin at h
  have hkp : me_kp M0 M0 := me_kp.rf
  have hkb := hkp
  have b_7 : ∀ (fu : Nat), ∀ (M : me_M) (y2 : Int32) (H : Heap) (locs : List Loc) (ls : Array Slot), f_Explorer_isWithin_l7 j0 j1 fu M y2 = (some (MZ, RZ)) → me_wf N M → me_kp M0 M → va_P D classes (me_W ad ca M) H → va_D A (me_W ad ca M) → va_S A s.heap H locs → lv_has ls 5 [(0, .ref (ad 4 j0)), (1, .ref (ad 9 j1)), (2, .int y2)] → W p l e rm_Explorer_isWithin s m [.ref (ad 4 j0), .ref (ad 9 j1)].toArray below meth c H locs 0 0 (MQ below (q_Explorer_isWithin D ad ca N M0 MZ RZ A) [.ref (ad 4 j0), .ref (ad 9 j1)].toArray s rm_Explorer_isWithin.cells rm_Explorer_isWithin.slots A) (F0 m 7 ls []) := by
    intro fu
    induction fu with
    | zero =>
      intro M y2 H locs ls h hwf hkp hP hD hS hl
      cases h
    | succ fu ih =>
      intro M y2 H locs ls h hwf hkp hP hD hS hl
      unfold f_Explorer_isWithin_l7 at h
      have hkb := hkp
      refine lv_iload_n hx hb d_Explorer_isWithin_7 rfl (lv_at hl 2 rfl) ?_
      refine lv_aload_n hx hb d_Explorer_isWithin_8 rfl (lv_at hl 1 rfl) ?_
      refine g_State_1 hx hb hts hown hK hP hwf hj1 (hts _ u_528) d_Explorer_isWithin_9 ?_
      refine lv_icmp_ge (tgt := 73) hx hb d_Explorer_isWithin_12 (by decide) (fun c1 => ?_) (fun c1 => ?_)
      · have h := if_t c1 h
        refine lv_iconst (v := 1) hx hb d_Explorer_isWithin_73 (by decide) ?_
        exact me_retz (me_kp M0) h (by decide) hx hb hr hlocks hwf hkp hP hK hD hS d_Explorer_isWithin_74
      have h := if_f c1 h
      refine lv_aload_n hx hb d_Explorer_isWithin_15 rfl (lv_at hl 1 rfl) ?_
      refine g_State_0 hx hb hts hown hK hP hwf hj1 (hts _ u_526) d_Explorer_isWithin_16 ?_
      obtain ⟨j2, e3, h⟩ := bd_ob h
      have hj2 : j2 < N 18 := (hwf.2.1 9 j1 0 _ e3 (by decide) hj1)
      refine me_opt (j := j2) e3 ?_
      refine lv_iload_n hx hb d_Explorer_isWithin_19 rfl (lv_at hl 2 rfl) ?_
      obtain ⟨g4, h⟩ := gd_ob h
      refine me_aald (k := 18) (t := 10) hx hb hK hP hwf hj2 (by decide) (by decide) rfl (fun _ => rfl) g4 d_Explorer_isWithin_20 ?_
      obtain ⟨j5, e6, h⟩ := bd_ob h
      have hj5 : j5 < N 10 := (hwf.2.1 18 j2 y2.toNatClampNeg _ e6 (by decide) hj2)
      refine me_opt (j := j5) e6 ?_
      refine lv_astore_n (lv' := [(3, .ref (ad 10 j5)), (0, .ref (ad 4 j0)), (1, .ref (ad 9 j1)), (2, .int y2)]) hx hb d_Explorer_isWithin_21 rfl hl (by decide) rfl (fun ls hl => ?_)
      refine lv_aload_n hx hb d_Explorer_isWithin_22 rfl (lv_at hl 1 rfl) ?_
      refine g_Explorer_8 hx hb hts hown hK hP hwf hj0 (hts _ u_554) d_Explorer_isWithin_23 ?_
      obtain ⟨j7, e8, h⟩ := bd_ob h
      have hj7 : j7 < N 9 := (hwf.2.1 4 j0 8 _ e8 (by decide) hj0)
      refine me_opt (j := j7) e8 ?_
      refine g_State_0 hx hb hts hown hK hP hwf hj7 (hts _ u_526) d_Explorer_isWithin_26 ?_
      obtain ⟨j9, e10, h⟩ := bd_ob h
      have hj9 : j9 < N 18 := (hwf.2.1 9 j7 0 _ e10 (by decide) hj7)
      refine me_opt (j := j9) e10 ?_
      refine lv_iload_n hx hb d_Explorer_isWithin_29 rfl (lv_at hl 3 rfl) ?_
      obtain ⟨g11, h⟩ := gd_ob h
      refine me_aald (k := 18) (t := 10) hx hb hK hP hwf hj9 (by decide) (by decide) rfl (fun _ => rfl) g11 d_Explorer_isWithin_30 ?_
      obtain ⟨j12, e13, h⟩ := bd_ob h
      have hj12 : j12 < N 10 := (hwf.2.1 18 j9 y2.toNatClampNeg _ e13 (by decide) hj9)
      refine me_opt (j := j12) e13 ?_
      refine lv_astore (lv' := [(4, .ref (ad 10 j12)), (3, .ref (ad 10 j5)), (0, .ref (ad 4 j0)), (1, .ref (ad 9 j1)), (2, .int y2)]) hx hb d_Explorer_isWithin_31 hl (by decide) rfl (fun ls hl => ?_)
      refine lv_aload_n hx hb d_Explorer_isWithin_33 rfl (lv_at hl 1 rfl) ?_
      refine lv_aload hx hb d_Explorer_isWithin_34 (lv_at hl 0 rfl) ?_
      obtain ⟨M14, r15, eM14, h⟩ := b2_ob h
      refine me_theni0 (M1 := M14) (me_runV (C := "FilterGuard$Cell") (As := [.ref (ad 10 j12)]) (rest := []) ⟨hx, hb, hml, hown, hts⟩ (c_Cell_isAround l D ad ca N M M14 r15 j5 j12 eM14 hwf hj5 hj12 _) rfl (by show fg_nm y_Cell_isAround 1; decide +kernel) u_1053 u_1054 u_1055 u_188 u_1056 ⟨Nat.le_of_ble_eq_true rfl, Nat.le_of_ble_eq_true rfl⟩ hX hz hK hP hD hwf hS hA hj5 (by decide) rfl rfl rfl hl.1 (Nat.le_of_ble_eq_true rfl) d_Explorer_isWithin_36 ⟨Nat.le_of_ble_eq_true rfl, Nat.le_of_ble_eq_true rfl⟩) hP hD hK hS hA rfl rfl (fun H locs hw hP hD hS => ?_)
      obtain ⟨hwf, hk9, zr15⟩ := hw
      have hkp := hkp.tr hk9
      refine lv_if_eq (tgt := 65) hx hb d_Explorer_isWithin_39 (by decide) (fun c16 => ?_) (fun c16 => ?_)
      · have h := if_t c16 h
        refine lv_iconst (v := 0) hx hb d_Explorer_isWithin_65 (by decide) ?_
        exact me_retz (me_kp M0) h (by decide) hx hb hr hlocks hwf hkp hP hK hD hS d_Explorer_isWithin_66
      have h := if_f c16 h
      refine lv_aload_n hx hb d_Explorer_isWithin_42 rfl (lv_at hl 1 rfl) ?_
      obtain ⟨M17, r18, eM17, h⟩ := b2_ob h
      refine me_theni0 (M1 := M17) (me_runV (C := "FilterGuard$Cell") (As := []) (rest := []) ⟨hx, hb, hml, hown, hts⟩ (c_Cell_hasIdentity l D ad ca N M14 M17 r18 j5 eM17 hwf hj5 _) rfl (by show fg_nm y_Cell_hasIdentity 0; decide +kernel) u_1066 u_1067 u_1068 u_188 u_1069 ⟨Nat.le_of_ble_eq_true rfl, Nat.le_of_ble_eq_true rfl⟩ hX hz hK hP hD hwf hS hA hj5 (by decide) rfl rfl rfl hl.1 (Nat.le_of_ble_eq_true rfl) d_Explorer_isWithin_43 ⟨Nat.le_of_ble_eq_true rfl, Nat.le_of_ble_eq_true rfl⟩) hP hD hK hS hA rfl rfl (fun H locs hw hP hD hS => ?_)
      obtain ⟨hwf, hk9, zr18⟩ := hw
      have hkp := hkp.tr hk9
      refine lv_if_eq (tgt := 67) hx hb d_Explorer_isWithin_46 (by decide) (fun c19 => ?_) (fun c19 => ?_)
      · have h := if_t c19 h
        refine lv_iinc (v := y2 + 1) (lv' := [(2, .int (y2 + 1)), (4, .ref (ad 10 j12)), (3, .ref (ad 10 j5)), (0, .ref (ad 4 j0)), (1, .ref (ad 9 j1))]) hx hb d_Explorer_isWithin_67 hl (k := 4) rfl (by rfl) (by decide) rfl (fun ls hl => ?_)
        refine lv_goto (tgt := 7) hx hb d_Explorer_isWithin_70 (by decide) ?_
        exact ih M17 (y2 + 1) _ _ _ h hwf hkp hP hD hS (lv_sub hl [3, 4, 0] rfl)
      have h := if_f c19 h
      refine lv_aload_n hx hb d_Explorer_isWithin_49 rfl (lv_at hl 2 rfl) ?_
      refine lv_aload_n hx hb d_Explorer_isWithin_50 rfl (lv_at hl 1 rfl) ?_
      refine g_Cell_3 hx hb hts hown hK hP hwf hj5 (hts _ u_429) d_Explorer_isWithin_51 ?_
      refine lv_aload hx hb d_Explorer_isWithin_54 (lv_at hl 0 rfl) ?_
      refine g_Cell_3 hx hb hts hown hK hP hwf hj12 (hts _ u_429) d_Explorer_isWithin_56 ?_
      obtain ⟨M20, r21, eM20, h⟩ := b2_ob h
      refine me_theni0 (M1 := M20) (me_runV (C := "FilterGuard$Explorer") (As := [.int (mI M17 10 j5 3), .int (mI M17 10 j12 3)]) (rest := []) ⟨hx, hb, hml, hown, hts⟩ (c_Explorer_isPaired l D ad ca N M17 M20 r21 j0 (mI M17 10 j5 3) (mI M17 10 j12 3) eM20 hwf hj0 _) rfl (by show fg_nm y_Explorer_isPaired 2; decide +kernel) u_1070 u_1072 u_15 u_184 u_1073 ⟨Nat.le_of_ble_eq_true rfl, Nat.le_of_ble_eq_true rfl⟩ hX hz hK hP hD hwf hS hA hj0 (by decide) rfl rfl rfl hl.1 (Nat.le_of_ble_eq_true rfl) d_Explorer_isWithin_59 ⟨Nat.le_of_ble_eq_true rfl, Nat.le_of_ble_eq_true rfl⟩) hP hD hK hS hA rfl rfl (fun H locs hw hP hD hS => ?_)
      obtain ⟨hwf, hk9, zr21⟩ := hw
      have hkp := hkp.tr hk9
      refine lv_if_ne (tgt := 67) hx hb d_Explorer_isWithin_62 (by decide) (fun c22 => ?_) (fun c22 => ?_)
      · have h := if_f c22 h
        refine lv_iinc (v := y2 + 1) (lv' := [(2, .int (y2 + 1)), (4, .ref (ad 10 j12)), (3, .ref (ad 10 j5)), (0, .ref (ad 4 j0)), (1, .ref (ad 9 j1))]) hx hb d_Explorer_isWithin_67 hl (k := 4) rfl (by rfl) (by decide) rfl (fun ls hl => ?_)
        refine lv_goto (tgt := 7) hx hb d_Explorer_isWithin_70 (by decide) ?_
        exact ih M20 (y2 + 1) _ _ _ h hwf hkp hP hD hS (lv_sub hl [3, 4, 0] rfl)
      have h := if_t c22 h
      refine lv_iconst (v := 0) hx hb d_Explorer_isWithin_65 (by decide) ?_
      exact me_retz (me_kp M0) h (by decide) hx hb hr hlocks hwf hkp hP hK hD hS d_Explorer_isWithin_66
  refine lv_aload_n hx hb d_Explorer_isWithin_0 rfl (lv_at hl 0 rfl) ?_
  refine lv_iconst (v := 1) hx hb d_Explorer_isWithin_1 (by decide) ?_
  obtain ⟨M23, eM23, h⟩ := st_ob h
  refine p_Explorer_7 eM23 hx hb hts hown hK hP hD hwf hS hj0 (hts _ u_553) d_Explorer_isWithin_2 (fun H locs hP hD hwf hS => ?_)
  have hkp := kp_I eM23 hkp
  refine lv_iconst (v := 0) hx hb d_Explorer_isWithin_5 (by decide) ?_
  refine lv_istore_n (lv' := [(2, .int 0), (0, .ref (ad 4 j0)), (1, .ref (ad 9 j1))]) hx hb d_Explorer_isWithin_6 rfl hl (by decide) rfl (fun ls hl => ?_)
  exact b_7 _ M23 (0 : Int32) _ _ _ h hwf hkp hP hD hS (lv_sub hl [1, 2, 0] rfl)
theorem d_Num_copy_0 : decode prog_8_method_6_code 0 = .ok (.aload_n 0, 1) := by decide +kernel
theorem d_Num_copy_1 : decode prog_8_method_6_code 1 = .ok (.aload_n 1, 1) := by decide +kernel
theorem d_Num_copy_2 : decode prog_8_method_6_code 2 = .ok (.getfield 9, 3) := by decide +kernel
theorem d_Num_copy_5 : decode prog_8_method_6_code 5 = .ok (.putfield 9, 3) := by decide +kernel
theorem d_Num_copy_8 : decode prog_8_method_6_code 8 = .ok (.aload_n 0, 1) := by decide +kernel
theorem d_Num_copy_9 : decode prog_8_method_6_code 9 = .ok (.aload_n 1, 1) := by decide +kernel
theorem d_Num_copy_10 : decode prog_8_method_6_code 10 = .ok (.getfield 15, 3) := by decide +kernel
theorem d_Num_copy_13 : decode prog_8_method_6_code 13 = .ok (.putfield 15, 3) := by decide +kernel
theorem d_Num_copy_16 : decode prog_8_method_6_code 16 = .ok (.aload_n 0, 1) := by decide +kernel
theorem d_Num_copy_17 : decode prog_8_method_6_code 17 = .ok (.aload_n 1, 1) := by decide +kernel
theorem d_Num_copy_18 : decode prog_8_method_6_code 18 = .ok (.getfield 18, 3) := by decide +kernel
theorem d_Num_copy_21 : decode prog_8_method_6_code 21 = .ok (.putfield 18, 3) := by decide +kernel
theorem d_Num_copy_24 : decode prog_8_method_6_code 24 = .ok (.aload_n 0, 1) := by decide +kernel
theorem d_Num_copy_25 : decode prog_8_method_6_code 25 = .ok (.aload_n 1, 1) := by decide +kernel
theorem d_Num_copy_26 : decode prog_8_method_6_code 26 = .ok (.getfield 21, 3) := by decide +kernel
theorem d_Num_copy_29 : decode prog_8_method_6_code 29 = .ok (.putfield 21, 3) := by decide +kernel
theorem d_Num_copy_32 : decode prog_8_method_6_code 32 = .ok (.aload_n 0, 1) := by decide +kernel
theorem d_Num_copy_33 : decode prog_8_method_6_code 33 = .ok (.aload_n 1, 1) := by decide +kernel
theorem d_Num_copy_34 : decode prog_8_method_6_code 34 = .ok (.getfield 24, 3) := by decide +kernel
theorem d_Num_copy_37 : decode prog_8_method_6_code 37 = .ok (.putfield 24, 3) := by decide +kernel
theorem d_Num_copy_40 : decode prog_8_method_6_code 40 = .ok (.aload_n 0, 1) := by decide +kernel
theorem d_Num_copy_41 : decode prog_8_method_6_code 41 = .ok (.aload_n 1, 1) := by decide +kernel
theorem d_Num_copy_42 : decode prog_8_method_6_code 42 = .ok (.getfield 27, 3) := by decide +kernel
theorem d_Num_copy_45 : decode prog_8_method_6_code 45 = .ok (.putfield 27, 3) := by decide +kernel
theorem d_Num_copy_48 : decode prog_8_method_6_code 48 = .ok (.return_, 1) := by decide +kernel
abbrev y_Num_copy : MethodName := ⟨"FilterGuard$Num", "copy", "(LFilterGuard$Num;)V"⟩
def rm_Num_copy : Room := { frames := 1, cells := 0, slots := 0, locals := 20 }
abbrev q_Num_copy (D : va_G) (ad : Nat → Nat → Nat) (ca : Nat → ClassId) (N : Nat → Nat) (M0 MZ : me_M) (A : Nat → Prop) : Array Value → Jvm.State → Outcome → Jvm.State → Prop := va_Qv (fun (_ : Unit) => me_wf N MZ ∧ me_kp M0 MZ) (fg_B D A (fun _ => me_W ad ca MZ) (fun _ => [])) A
set_option maxHeartbeats 4000000 in
set_option maxRecDepth 100000 in
theorem c_Num_copy (l : Launch) (D : va_G) (ad : Nat → Nat → Nat) (ca : Nat → ClassId) (N : Nat → Nat) (M0 MZ : me_M) (j0 : Nat) (j1 : Nat) (h : f_Num_copy M0 j0 j1 = (some MZ)) (hwf : me_wf N M0) (hj0 : j0 < N 11) (hj1 : j1 < N 11) (sz : Nat) : Met l y_Num_copy (fg_w y_Num_copy prog_8_method_6_code 2 none) rm_Num_copy (va_Pc [.ref (ad 11 j0), .ref (ad 11 j1)] (fz_P D (me_T ca) (me_W ad ca M0) sz)) (q_Num_copy D ad ca N M0 MZ (va_A (me_W ad ca M0) sz)) rm_Num_copy.cells rm_Num_copy.slots (va_A (me_W ad ca M0) sz) := by
  refine fz_enter (fun A => q_Num_copy D ad ca N M0 MZ A) (by decide +kernel) (Nat.le_of_ble_eq_true rfl) ?_
  intro p e s m below meth c ls A hx hb hml hown hts hr hlocks hin hP hK hD hS hA hX hl hz
  have hl : lv_has ls 2 [(0, .ref (ad 11 j0)), (1, .ref (ad 11 j1))] := hl
  unfold f_Num_copy at h
  have hkp : me_kp M0 M0 := me_kp.rf
  have hkb := hkp
  refine lv_aload_n hx hb d_Num_copy_0 rfl (lv_at hl 0 rfl) ?_
  refine lv_aload_n hx hb d_Num_copy_1 rfl (lv_at hl 1 rfl) ?_
  refine g_Num_0 hx hb hts hown hK hP hwf hj1 (hts _ u_367) d_Num_copy_2 ?_
  obtain ⟨M1, eM1, h⟩ := st_ob h
  refine p_Num_0 eM1 hx hb hts hown hK hP hD hwf hS hj0 (hts _ u_367) d_Num_copy_5 (fun H locs hP hD hwf hS => ?_)
  have hkp := kp_L eM1 hkp
  refine lv_aload_n hx hb d_Num_copy_8 rfl (lv_at hl 0 rfl) ?_
  refine lv_aload_n hx hb d_Num_copy_9 rfl (lv_at hl 1 rfl) ?_
  refine g_Num_1 hx hb hts hown hK hP hwf hj1 (hts _ u_371) d_Num_copy_10 ?_
  obtain ⟨M2, eM2, h⟩ := st_ob h
  refine p_Num_1 eM2 hx hb hts hown hK hP hD hwf hS hj0 (hts _ u_371) d_Num_copy_13 (fun H locs hP hD hwf hS => ?_)
  have hkp := kp_L eM2 hkp
  refine lv_aload_n hx hb d_Num_copy_16 rfl (lv_at hl 0 rfl) ?_
  refine lv_aload_n hx hb d_Num_copy_17 rfl (lv_at hl 1 rfl) ?_
  refine g_Num_2 hx hb hts hown hK hP hwf hj1 (hts _ u_373) d_Num_copy_18 ?_
  obtain ⟨M3, eM3, h⟩ := st_ob h
  refine p_Num_2 eM3 hx hb hts hown hK hP hD hwf hS hj0 (hts _ u_373) d_Num_copy_21 (fun H locs hP hD hwf hS => ?_)
  have hkp := kp_L eM3 hkp
  refine lv_aload_n hx hb d_Num_copy_24 rfl (lv_at hl 0 rfl) ?_
  refine lv_aload_n hx hb d_Num_copy_25 rfl (lv_at hl 1 rfl) ?_
  refine g_Num_3 hx hb hts hown hK hP hwf hj1 (hts _ u_376) d_Num_copy_26 ?_
  obtain ⟨M4, eM4, h⟩ := st_ob h
  refine p_Num_3 eM4 hx hb hts hown hK hP hD hwf hS hj0 (hts _ u_376) d_Num_copy_29 (fun H locs hP hD hwf hS => ?_)
  have hkp := kp_L eM4 hkp
  refine lv_aload_n hx hb d_Num_copy_32 rfl (lv_at hl 0 rfl) ?_
  refine lv_aload_n hx hb d_Num_copy_33 rfl (lv_at hl 1 rfl) ?_
  refine g_Num_4 hx hb hts hown hK hP hwf hj1 (hts _ u_379) d_Num_copy_34 ?_
  obtain ⟨M5, eM5, h⟩ := st_ob h
  refine p_Num_4 eM5 hx hb hts hown hK hP hD hwf hS hj0 (hts _ u_379) d_Num_copy_37 (fun H locs hP hD hwf hS => ?_)
  have hkp := kp_L eM5 hkp
  refine lv_aload_n hx hb d_Num_copy_40 rfl (lv_at hl 0 rfl) ?_
  refine lv_aload_n hx hb d_Num_copy_41 rfl (lv_at hl 1 rfl) ?_
  refine g_Num_5 hx hb hts hown hK hP hwf hj1 (hts _ u_381) d_Num_copy_42 ?_
  obtain ⟨M6, eM6, h⟩ := st_ob h
  refine p_Num_5 eM6 hx hb hts hown hK hP hD hwf hS hj0 (hts _ u_381) d_Num_copy_45 (fun H locs hP hD hwf hS => ?_)
  have hkp := kp_L eM6 hkp
  exact me_retv (me_kp M0) h hx hb hr hlocks hwf hkp hP hK hD hS d_Num_copy_48
theorem d_Cell_copy_0 : decode prog_2_method_3_code 0 = .ok (.aload_n 0, 1) := by decide +kernel
theorem d_Cell_copy_1 : decode prog_2_method_3_code 1 = .ok (.aload_n 1, 1) := by decide +kernel
theorem d_Cell_copy_2 : decode prog_2_method_3_code 2 = .ok (.getfield 18, 3) := by decide +kernel
theorem d_Cell_copy_5 : decode prog_2_method_3_code 5 = .ok (.putfield 18, 3) := by decide +kernel
theorem d_Cell_copy_8 : decode prog_2_method_3_code 8 = .ok (.aload_n 0, 1) := by decide +kernel
theorem d_Cell_copy_9 : decode prog_2_method_3_code 9 = .ok (.aload_n 1, 1) := by decide +kernel
theorem d_Cell_copy_10 : decode prog_2_method_3_code 10 = .ok (.getfield 22, 3) := by decide +kernel
theorem d_Cell_copy_13 : decode prog_2_method_3_code 13 = .ok (.putfield 22, 3) := by decide +kernel
theorem d_Cell_copy_16 : decode prog_2_method_3_code 16 = .ok (.aload_n 0, 1) := by decide +kernel
theorem d_Cell_copy_17 : decode prog_2_method_3_code 17 = .ok (.getfield 18, 3) := by decide +kernel
theorem d_Cell_copy_20 : decode prog_2_method_3_code 20 = .ok (.ifCond .ne 4, 3) := by decide +kernel
theorem d_Cell_copy_24 : decode prog_2_method_3_code 24 = .ok (.aload_n 0, 1) := by decide +kernel
theorem d_Cell_copy_25 : decode prog_2_method_3_code 25 = .ok (.aload_n 1, 1) := by decide +kernel
theorem d_Cell_copy_26 : decode prog_2_method_3_code 26 = .ok (.getfield 25, 3) := by decide +kernel
theorem d_Cell_copy_29 : decode prog_2_method_3_code 29 = .ok (.putfield 25, 3) := by decide +kernel
theorem d_Cell_copy_32 : decode prog_2_method_3_code 32 = .ok (.aload_n 0, 1) := by decide +kernel
theorem d_Cell_copy_33 : decode prog_2_method_3_code 33 = .ok (.aload_n 1, 1) := by decide +kernel
theorem d_Cell_copy_34 : decode prog_2_method_3_code 34 = .ok (.getfield 28, 3) := by decide +kernel
theorem d_Cell_copy_37 : decode prog_2_method_3_code 37 = .ok (.putfield 28, 3) := by decide +kernel
theorem d_Cell_copy_40 : decode prog_2_method_3_code 40 = .ok (.aload_n 0, 1) := by decide +kernel
theorem d_Cell_copy_41 : decode prog_2_method_3_code 41 = .ok (.aload_n 1, 1) := by decide +kernel
theorem d_Cell_copy_42 : decode prog_2_method_3_code 42 = .ok (.getfield 31, 3) := by decide +kernel
theorem d_Cell_copy_45 : decode prog_2_method_3_code 45 = .ok (.putfield 31, 3) := by decide +kernel
theorem d_Cell_copy_48 : decode prog_2_method_3_code 48 = .ok (.aload_n 0, 1) := by decide +kernel
theorem d_Cell_copy_49 : decode prog_2_method_3_code 49 = .ok (.aload_n 1, 1) := by decide +kernel
theorem d_Cell_copy_50 : decode prog_2_method_3_code 50 = .ok (.getfield 34, 3) := by decide +kernel
theorem d_Cell_copy_53 : decode prog_2_method_3_code 53 = .ok (.putfield 34, 3) := by decide +kernel
theorem d_Cell_copy_56 : decode prog_2_method_3_code 56 = .ok (.aload_n 0, 1) := by decide +kernel
theorem d_Cell_copy_57 : decode prog_2_method_3_code 57 = .ok (.getfield 18, 3) := by decide +kernel
theorem d_Cell_copy_60 : decode prog_2_method_3_code 60 = .ok (.iconst 1, 1) := by decide +kernel
theorem d_Cell_copy_61 : decode prog_2_method_3_code 61 = .ok (.if_icmp .eq 20, 3) := by decide +kernel
theorem d_Cell_copy_81 : decode prog_2_method_3_code 81 = .ok (.aload_n 0, 1) := by decide +kernel
theorem d_Cell_copy_82 : decode prog_2_method_3_code 82 = .ok (.getfield 12, 3) := by decide +kernel
theorem d_Cell_copy_85 : decode prog_2_method_3_code 85 = .ok (.aload_n 1, 1) := by decide +kernel
theorem d_Cell_copy_86 : decode prog_2_method_3_code 86 = .ok (.getfield 12, 3) := by decide +kernel
theorem d_Cell_copy_89 : decode prog_2_method_3_code 89 = .ok (.invokevirtual 37, 3) := by decide +kernel
theorem u_1082 : Cond.methodLink "FilterGuard$Cell" 37 ⟨"FilterGuard$Num", "copy", "(LFilterGuard$Num;)V"⟩ ∈ fg_g := fg_in (List.mem_of_getElem? (i := 1082) (by decide +kernel)) rfl
theorem u_1085 : Cond.code ⟨"FilterGuard$Num", "copy", "(LFilterGuard$Num;)V"⟩ prog_8_method_6_code 2 none ∈ fg_g := fg_in (List.mem_of_getElem? (i := 1085) (by decide +kernel)) rfl
theorem u_1083 : Cond.instanceMethod ⟨"FilterGuard$Num", "copy", "(LFilterGuard$Num;)V"⟩ ∈ fg_g := fg_in (List.mem_of_getElem? (i := 1083) (by decide +kernel)) rfl
theorem u_1084 : Cond.selects "FilterGuard$Num" ⟨"FilterGuard$Num", "copy", "(LFilterGuard$Num;)V"⟩ ⟨"FilterGuard$Num", "copy", "(LFilterGuard$Num;)V"⟩ ∈ fg_g := fg_in (List.mem_of_getElem? (i := 1084) (by decide +kernel)) rfl
theorem d_Cell_copy_92 : decode prog_2_method_3_code 92 = .ok (.return_, 1) := by decide +kernel
theorem d_Cell_copy_64 : decode prog_2_method_3_code 64 = .ok (.aload_n 0, 1) := by decide +kernel
theorem d_Cell_copy_65 : decode prog_2_method_3_code 65 = .ok (.getfield 18, 3) := by decide +kernel
theorem d_Cell_copy_68 : decode prog_2_method_3_code 68 = .ok (.iconst 4, 1) := by decide +kernel
theorem d_Cell_copy_69 : decode prog_2_method_3_code 69 = .ok (.if_icmp .eq 12, 3) := by decide +kernel
theorem d_Cell_copy_72 : decode prog_2_method_3_code 72 = .ok (.aload_n 0, 1) := by decide +kernel
theorem d_Cell_copy_73 : decode prog_2_method_3_code 73 = .ok (.getfield 18, 3) := by decide +kernel
theorem d_Cell_copy_76 : decode prog_2_method_3_code 76 = .ok (.bipush 7, 2) := by decide +kernel
theorem d_Cell_copy_78 : decode prog_2_method_3_code 78 = .ok (.if_icmp .ne 14, 3) := by decide +kernel
theorem d_Cell_copy_23 : decode prog_2_method_3_code 23 = .ok (.return_, 1) := by decide +kernel
abbrev y_Cell_copy : MethodName := ⟨"FilterGuard$Cell", "copy", "(LFilterGuard$Cell;)V"⟩
def rm_Cell_copy : Room := { frames := 2, cells := 0, slots := 0, locals := 41 }
abbrev q_Cell_copy (D : va_G) (ad : Nat → Nat → Nat) (ca : Nat → ClassId) (N : Nat → Nat) (M0 MZ : me_M) (A : Nat → Prop) : Array Value → Jvm.State → Outcome → Jvm.State → Prop := va_Qv (fun (_ : Unit) => me_wf N MZ ∧ me_kp M0 MZ) (fg_B D A (fun _ => me_W ad ca MZ) (fun _ => [])) A
set_option maxHeartbeats 4000000 in
set_option maxRecDepth 100000 in
theorem c_Cell_copy (l : Launch) (D : va_G) (ad : Nat → Nat → Nat) (ca : Nat → ClassId) (N : Nat → Nat) (M0 MZ : me_M) (j0 : Nat) (j1 : Nat) (h : f_Cell_copy M0 j0 j1 = (some MZ)) (hwf : me_wf N M0) (hj0 : j0 < N 10) (hj1 : j1 < N 10) (sz : Nat) : Met l y_Cell_copy (fg_w y_Cell_copy prog_2_method_3_code 2 none) rm_Cell_copy (va_Pc [.ref (ad 10 j0), .ref (ad 10 j1)] (fz_P D (me_T ca) (me_W ad ca M0) sz)) (q_Cell_copy D ad ca N M0 MZ (va_A (me_W ad ca M0) sz)) rm_Cell_copy.cells rm_Cell_copy.slots (va_A (me_W ad ca M0) sz) := by
  refine fz_enter (fun A => q_Cell_copy D ad ca N M0 MZ A) (by decide +kernel) (Nat.le_of_ble_eq_true rfl) ?_
  intro p e s m below meth c ls A hx hb hml hown hts hr hlocks hin hP hK hD hS hA hX hl hz
  have hl : lv_has ls 2 [(0, .ref (ad 10 j0)), (1, .ref (ad 10 j1))] := hl
  unfold f_Cell_copy at h
  have hkp : me_kp M0 M0 := me_kp.rf
  have hkb := hkp
  refine lv_aload_n hx hb d_Cell_copy_0 rfl (lv_at hl 0 rfl) ?_
  refine lv_aload_n hx hb d_Cell_copy_1 rfl (lv_at hl 1 rfl) ?_
  refine g_Cell_0 hx hb hts hown hK hP hwf hj1 (hts _ u_420) d_Cell_copy_2 ?_
  obtain ⟨M1, eM1, h⟩ := st_ob h
  refine p_Cell_0 eM1 hx hb hts hown hK hP hD hwf hS hj0 (hts _ u_420) d_Cell_copy_5 (fun H locs hP hD hwf hS => ?_)
  have hkp := kp_I eM1 hkp
  refine lv_aload_n hx hb d_Cell_copy_8 rfl (lv_at hl 0 rfl) ?_
  refine lv_aload_n hx hb d_Cell_copy_9 rfl (lv_at hl 1 rfl) ?_
  refine g_Cell_5 hx hb hts hown hK hP hwf hj1 (hts _ u_433) d_Cell_copy_10 ?_
  obtain ⟨M2, eM2, h⟩ := st_ob h
  refine p_Cell_5 eM2 hx hb hts hown hK hP hD hwf hS hj0 (hts _ u_433) d_Cell_copy_13 (fun H locs hP hD hwf hS => ?_)
  have hkp := kp_I eM2 hkp
  refine lv_aload_n hx hb d_Cell_copy_16 rfl (lv_at hl 0 rfl) ?_
  refine g_Cell_0 hx hb hts hown hK hP hwf hj0 (hts _ u_420) d_Cell_copy_17 ?_
  refine lv_if_ne (tgt := 24) hx hb d_Cell_copy_20 (by decide) (fun c3 => ?_) (fun c3 => ?_)
  · have h := if_f c3 h
    refine lv_aload_n hx hb d_Cell_copy_24 rfl (lv_at hl 0 rfl) ?_
    refine lv_aload_n hx hb d_Cell_copy_25 rfl (lv_at hl 1 rfl) ?_
    refine g_Cell_1 hx hb hts hown hK hP hwf hj1 (hts _ u_424) d_Cell_copy_26 ?_
    obtain ⟨M4, eM4, h⟩ := st_ob h
    refine p_Cell_1 eM4 hx hb hts hown hK hP hD hwf hS hj0 (hts _ u_424) d_Cell_copy_29 (fun H locs hP hD hwf hS => ?_)
    have hkp := kp_I eM4 hkp
    refine lv_aload_n hx hb d_Cell_copy_32 rfl (lv_at hl 0 rfl) ?_
    refine lv_aload_n hx hb d_Cell_copy_33 rfl (lv_at hl 1 rfl) ?_
    refine g_Cell_2 hx hb hts hown hK hP hwf hj1 (hts _ u_426) d_Cell_copy_34 ?_
    obtain ⟨M5, eM5, h⟩ := st_ob h
    refine p_Cell_2 eM5 hx hb hts hown hK hP hD hwf hS hj0 (hts _ u_426) d_Cell_copy_37 (fun H locs hP hD hwf hS => ?_)
    have hkp := kp_I eM5 hkp
    refine lv_aload_n hx hb d_Cell_copy_40 rfl (lv_at hl 0 rfl) ?_
    refine lv_aload_n hx hb d_Cell_copy_41 rfl (lv_at hl 1 rfl) ?_
    refine g_Cell_3 hx hb hts hown hK hP hwf hj1 (hts _ u_428) d_Cell_copy_42 ?_
    obtain ⟨M6, eM6, h⟩ := st_ob h
    refine p_Cell_3 eM6 hx hb hts hown hK hP hD hwf hS hj0 (hts _ u_428) d_Cell_copy_45 (fun H locs hP hD hwf hS => ?_)
    have hkp := kp_I eM6 hkp
    refine lv_aload_n hx hb d_Cell_copy_48 rfl (lv_at hl 0 rfl) ?_
    refine lv_aload_n hx hb d_Cell_copy_49 rfl (lv_at hl 1 rfl) ?_
    refine g_Cell_4 hx hb hts hown hK hP hwf hj1 (hts _ u_431) d_Cell_copy_50 ?_
    obtain ⟨M7, eM7, h⟩ := st_ob h
    refine p_Cell_4 eM7 hx hb hts hown hK hP hD hwf hS hj0 (hts _ u_431) d_Cell_copy_53 (fun H locs hP hD hwf hS => ?_)
    have hkp := kp_I eM7 hkp
    refine lv_aload_n hx hb d_Cell_copy_56 rfl (lv_at hl 0 rfl) ?_
    refine g_Cell_0 hx hb hts hown hK hP hwf hj0 (hts _ u_420) d_Cell_copy_57 ?_
    refine lv_iconst (v := 1) hx hb d_Cell_copy_60 (by decide) ?_
    refine lv_icmp_eq (tgt := 81) hx hb d_Cell_copy_61 (by decide) (fun c8 => ?_) (fun c8 => ?_)
    · have h := if_t c8 h
      refine lv_aload_n hx hb d_Cell_copy_81 rfl (lv_at hl 0 rfl) ?_
      refine g_Cell_6 hx hb hts hown hK hP hwf hj0 (hts _ u_435) d_Cell_copy_82 ?_
      obtain ⟨j9, e10, h⟩ := bd_ob h
      have hj9 : j9 < N 11 := (hwf.2.1 10 j0 6 _ (kp_r hkb hkp e10) (by decide) hj0)
      refine me_opt (j := j9) (kp_r hkb hkp e10) ?_
      refine lv_aload_n hx hb d_Cell_copy_85 rfl (lv_at hl 1 rfl) ?_
      refine g_Cell_6 hx hb hts hown hK hP hwf hj1 (hts _ u_435) d_Cell_copy_86 ?_
      obtain ⟨j11, e12, h⟩ := bd_ob h
      have hj11 : j11 < N 11 := (hwf.2.1 10 j1 6 _ (kp_r hkb hkp e12) (by decide) hj1)
      refine me_opt (j := j11) (kp_r hkb hkp e12) ?_
      obtain ⟨M13, eM13, h⟩ := bd_ob h
      refine me_thenv0 (M1 := M13) (me_runV (C := "FilterGuard$Num") (As := [.ref (ad 11 j11)]) (rest := []) ⟨hx, hb, hml, hown, hts⟩ (c_Num_copy l D ad ca N M7 M13 j9 j11 eM13 hwf hj9 hj11 _) rfl (by show fg_nm y_Num_copy 1; decide +kernel) u_1082 u_1083 u_1084 u_187 u_1085 ⟨Nat.le_of_ble_eq_true rfl, Nat.le_of_ble_eq_true rfl⟩ hX hz hK hP hD hwf hS hA hj9 (by decide) rfl rfl rfl hl.1 (Nat.le_of_ble_eq_true rfl) d_Cell_copy_89 ⟨Nat.le_of_ble_eq_true rfl, Nat.le_of_ble_eq_true rfl⟩) hP hD hK hS hA rfl rfl (fun H locs hw hP hD hS => ?_)
      obtain ⟨hwf, hk9⟩ := hw
      have hkp := hkp.tr hk9
      exact me_retv (me_kp M0) h hx hb hr hlocks hwf hkp hP hK hD hS d_Cell_copy_92
    have h := if_f c8 h
    refine lv_aload_n hx hb d_Cell_copy_64 rfl (lv_at hl 0 rfl) ?_
    refine g_Cell_0 hx hb hts hown hK hP hwf hj0 (hts _ u_420) d_Cell_copy_65 ?_
    refine lv_iconst (v := 4) hx hb d_Cell_copy_68 (by decide) ?_
    refine lv_icmp_eq (tgt := 81) hx hb d_Cell_copy_69 (by decide) (fun c14 => ?_) (fun c14 => ?_)
    · have h := if_t c14 h
      refine lv_aload_n hx hb d_Cell_copy_81 rfl (lv_at hl 0 rfl) ?_
      refine g_Cell_6 hx hb hts hown hK hP hwf hj0 (hts _ u_435) d_Cell_copy_82 ?_
      obtain ⟨j15, e16, h⟩ := bd_ob h
      have hj15 : j15 < N 11 := (hwf.2.1 10 j0 6 _ (kp_r hkb hkp e16) (by decide) hj0)
      refine me_opt (j := j15) (kp_r hkb hkp e16) ?_
      refine lv_aload_n hx hb d_Cell_copy_85 rfl (lv_at hl 1 rfl) ?_
      refine g_Cell_6 hx hb hts hown hK hP hwf hj1 (hts _ u_435) d_Cell_copy_86 ?_
      obtain ⟨j17, e18, h⟩ := bd_ob h
      have hj17 : j17 < N 11 := (hwf.2.1 10 j1 6 _ (kp_r hkb hkp e18) (by decide) hj1)
      refine me_opt (j := j17) (kp_r hkb hkp e18) ?_
      obtain ⟨M19, eM19, h⟩ := bd_ob h
      refine me_thenv0 (M1 := M19) (me_runV (C := "FilterGuard$Num") (As := [.ref (ad 11 j17)]) (rest := []) ⟨hx, hb, hml, hown, hts⟩ (c_Num_copy l D ad ca N M7 M19 j15 j17 eM19 hwf hj15 hj17 _) rfl (by show fg_nm y_Num_copy 1; decide +kernel) u_1082 u_1083 u_1084 u_187 u_1085 ⟨Nat.le_of_ble_eq_true rfl, Nat.le_of_ble_eq_true rfl⟩ hX hz hK hP hD hwf hS hA hj15 (by decide) rfl rfl rfl hl.1 (Nat.le_of_ble_eq_true rfl) d_Cell_copy_89 ⟨Nat.le_of_ble_eq_true rfl, Nat.le_of_ble_eq_true rfl⟩) hP hD hK hS hA rfl rfl (fun H locs hw hP hD hS => ?_)
      obtain ⟨hwf, hk9⟩ := hw
      have hkp := hkp.tr hk9
      exact me_retv (me_kp M0) h hx hb hr hlocks hwf hkp hP hK hD hS d_Cell_copy_92
    have h := if_f c14 h
    refine lv_aload_n hx hb d_Cell_copy_72 rfl (lv_at hl 0 rfl) ?_
    refine g_Cell_0 hx hb hts hown hK hP hwf hj0 (hts _ u_420) d_Cell_copy_73 ?_
    refine lv_bipush (v := 7) hx hb d_Cell_copy_76 (by decide) ?_
    refine lv_icmp_ne (tgt := 92) hx hb d_Cell_copy_78 (by decide) (fun c20 => ?_) (fun c20 => ?_)
    · have h := if_f c20 h
      exact me_retv (me_kp M0) h hx hb hr hlocks hwf hkp hP hK hD hS d_Cell_copy_92
    have h := if_t c20 h
    refine lv_aload_n hx hb d_Cell_copy_81 rfl (lv_at hl 0 rfl) ?_
    refine g_Cell_6 hx hb hts hown hK hP hwf hj0 (hts _ u_435) d_Cell_copy_82 ?_
    obtain ⟨j21, e22, h⟩ := bd_ob h
    have hj21 : j21 < N 11 := (hwf.2.1 10 j0 6 _ (kp_r hkb hkp e22) (by decide) hj0)
    refine me_opt (j := j21) (kp_r hkb hkp e22) ?_
    refine lv_aload_n hx hb d_Cell_copy_85 rfl (lv_at hl 1 rfl) ?_
    refine g_Cell_6 hx hb hts hown hK hP hwf hj1 (hts _ u_435) d_Cell_copy_86 ?_
    obtain ⟨j23, e24, h⟩ := bd_ob h
    have hj23 : j23 < N 11 := (hwf.2.1 10 j1 6 _ (kp_r hkb hkp e24) (by decide) hj1)
    refine me_opt (j := j23) (kp_r hkb hkp e24) ?_
    obtain ⟨M25, eM25, h⟩ := bd_ob h
    refine me_thenv0 (M1 := M25) (me_runV (C := "FilterGuard$Num") (As := [.ref (ad 11 j23)]) (rest := []) ⟨hx, hb, hml, hown, hts⟩ (c_Num_copy l D ad ca N M7 M25 j21 j23 eM25 hwf hj21 hj23 _) rfl (by show fg_nm y_Num_copy 1; decide +kernel) u_1082 u_1083 u_1084 u_187 u_1085 ⟨Nat.le_of_ble_eq_true rfl, Nat.le_of_ble_eq_true rfl⟩ hX hz hK hP hD hwf hS hA hj21 (by decide) rfl rfl rfl hl.1 (Nat.le_of_ble_eq_true rfl) d_Cell_copy_89 ⟨Nat.le_of_ble_eq_true rfl, Nat.le_of_ble_eq_true rfl⟩) hP hD hK hS hA rfl rfl (fun H locs hw hP hD hS => ?_)
    obtain ⟨hwf, hk9⟩ := hw
    have hkp := hkp.tr hk9
    exact me_retv (me_kp M0) h hx hb hr hlocks hwf hkp hP hK hD hS d_Cell_copy_92
  have h := if_t c3 h
  exact me_retv (me_kp M0) h hx hb hr hlocks hwf hkp hP hK hD hS d_Cell_copy_23
theorem d_State_copy_10 : decode prog_10_method_3_code 10 = .ok (.iload_n 2, 1) := by decide +kernel
theorem d_State_copy_11 : decode prog_10_method_3_code 11 = .ok (.aload_n 1, 1) := by decide +kernel
theorem d_State_copy_12 : decode prog_10_method_3_code 12 = .ok (.getfield 17, 3) := by decide +kernel
theorem d_State_copy_15 : decode prog_10_method_3_code 15 = .ok (.if_icmp .ge 24, 3) := by decide +kernel
theorem d_State_copy_39 : decode prog_10_method_3_code 39 = .ok (.aload_n 0, 1) := by decide +kernel
theorem d_State_copy_40 : decode prog_10_method_3_code 40 = .ok (.aload_n 1, 1) := by decide +kernel
theorem d_State_copy_41 : decode prog_10_method_3_code 41 = .ok (.getfield 17, 3) := by decide +kernel
theorem d_State_copy_44 : decode prog_10_method_3_code 44 = .ok (.putfield 17, 3) := by decide +kernel
theorem d_State_copy_47 : decode prog_10_method_3_code 47 = .ok (.aload_n 0, 1) := by decide +kernel
theorem d_State_copy_48 : decode prog_10_method_3_code 48 = .ok (.aload_n 1, 1) := by decide +kernel
theorem d_State_copy_49 : decode prog_10_method_3_code 49 = .ok (.getfield 30, 3) := by decide +kernel
theorem g_State_2 {p : Program} {l : Launch} {e : Env} {R : Room} {s : Jvm.State} {m : MethodId} {args : Array Value} {below : List Frame} {meth : Method} {c : Code} {H : Heap} {locs : List Loc} {cells slots : Nat} {Q : Jvm.State → Prop} {cc : ByteArray} {pc : Nat} {ls : Array Slot} {rest : List Value} {D : va_G} {ad : Nat → Nat → Nat} {ca : Nat → ClassId} {M : me_M} {N : Nat → Nat} {own : String} {index j : Nat} (hexec : p.tables.exec = Jvm.exec) (hb : c.code = cc) (hts : ∀ w ∈ fg_g, w.before args s = true) (hown : s.vm.findClass own = some m.cls) (hK : va_K D classes (me_T ca) s) (hP : va_P D classes (me_W ad ca M) H) (hwf : me_wf N M) (hj : j < N 9) (hlink : (Cond.fieldLink own index "FilterGuard$State" "at" "I").before args s = true) (hdg : decode cc pc = .ok (.getfield index, 3)) (kk : W p l e R s m args below meth c H locs cells slots Q (F0 m (pc + 3) ls (.int (mI M 9 j 2) :: rest))) : W p l e R s m args below meth c H locs cells slots Q (F0 m pc ls (.ref (ad 9 j) :: rest)) := me_get (k := 9) (f := 2) (C := "FilterGuard$State") (T := F_State) (Nf := 5) hexec hb hts i_State hown hK hP hwf hj (by decide) rfl (by decide) (by decide) hlink (fun _ h9 => h9) hdg kk
theorem d_State_copy_52 : decode prog_10_method_3_code 52 = .ok (.putfield 30, 3) := by decide +kernel
theorem d_State_copy_55 : decode prog_10_method_3_code 55 = .ok (.return_, 1) := by decide +kernel
theorem d_State_copy_18 : decode prog_10_method_3_code 18 = .ok (.aload_n 0, 1) := by decide +kernel
theorem d_State_copy_19 : decode prog_10_method_3_code 19 = .ok (.getfield 11, 3) := by decide +kernel
theorem d_State_copy_22 : decode prog_10_method_3_code 22 = .ok (.iload_n 2, 1) := by decide +kernel
theorem d_State_copy_23 : decode prog_10_method_3_code 23 = .ok (.aaload, 1) := by decide +kernel
theorem d_State_copy_24 : decode prog_10_method_3_code 24 = .ok (.aload_n 1, 1) := by decide +kernel
theorem d_State_copy_25 : decode prog_10_method_3_code 25 = .ok (.getfield 11, 3) := by decide +kernel
theorem d_State_copy_28 : decode prog_10_method_3_code 28 = .ok (.iload_n 2, 1) := by decide +kernel
theorem d_State_copy_29 : decode prog_10_method_3_code 29 = .ok (.aaload, 1) := by decide +kernel
theorem d_State_copy_30 : decode prog_10_method_3_code 30 = .ok (.invokevirtual 33, 3) := by decide +kernel
theorem u_1078 : Cond.methodLink "FilterGuard$State" 33 ⟨"FilterGuard$Cell", "copy", "(LFilterGuard$Cell;)V"⟩ ∈ fg_g := fg_in (List.mem_of_getElem? (i := 1078) (by decide +kernel)) rfl
theorem u_1081 : Cond.code ⟨"FilterGuard$Cell", "copy", "(LFilterGuard$Cell;)V"⟩ prog_2_method_3_code 2 none ∈ fg_g := fg_in (List.mem_of_getElem? (i := 1081) (by decide +kernel)) rfl
theorem u_1079 : Cond.instanceMethod ⟨"FilterGuard$Cell", "copy", "(LFilterGuard$Cell;)V"⟩ ∈ fg_g := fg_in (List.mem_of_getElem? (i := 1079) (by decide +kernel)) rfl
theorem u_1080 : Cond.selects "FilterGuard$Cell" ⟨"FilterGuard$Cell", "copy", "(LFilterGuard$Cell;)V"⟩ ⟨"FilterGuard$Cell", "copy", "(LFilterGuard$Cell;)V"⟩ ∈ fg_g := fg_in (List.mem_of_getElem? (i := 1080) (by decide +kernel)) rfl
theorem d_State_copy_33 : decode prog_10_method_3_code 33 = .ok (.iinc 2 1, 3) := by decide +kernel
theorem d_State_copy_36 : decode prog_10_method_3_code 36 = .ok (.goto (-26), 3) := by decide +kernel
theorem d_State_copy_0 : decode prog_10_method_3_code 0 = .ok (.aload_n 0, 1) := by decide +kernel
theorem d_State_copy_1 : decode prog_10_method_3_code 1 = .ok (.aload_n 1, 1) := by decide +kernel
theorem d_State_copy_2 : decode prog_10_method_3_code 2 = .ok (.getfield 17, 3) := by decide +kernel
theorem d_State_copy_5 : decode prog_10_method_3_code 5 = .ok (.invokevirtual 22, 3) := by decide +kernel
theorem d_State_copy_8 : decode prog_10_method_3_code 8 = .ok (.iconst 0, 1) := by decide +kernel
theorem d_State_copy_9 : decode prog_10_method_3_code 9 = .ok (.istore_n 2, 1) := by decide +kernel
abbrev y_State_copy : MethodName := ⟨"FilterGuard$State", "copy", "(LFilterGuard$State;)V"⟩
def rm_State_copy : Room := { frames := 3, cells := 0, slots := 0, locals := 62 }
abbrev q_State_copy (D : va_G) (ad : Nat → Nat → Nat) (ca : Nat → ClassId) (N : Nat → Nat) (M0 MZ : me_M) (A : Nat → Prop) : Array Value → Jvm.State → Outcome → Jvm.State → Prop := va_Qv (fun (_ : Unit) => me_wf N MZ ∧ me_kp M0 MZ) (fg_B D A (fun _ => me_W ad ca MZ) (fun _ => [])) A
set_option maxHeartbeats 4000000 in
set_option maxRecDepth 100000 in
theorem c_State_copy (l : Launch) (D : va_G) (ad : Nat → Nat → Nat) (ca : Nat → ClassId) (N : Nat → Nat) (M0 MZ : me_M) (j0 : Nat) (j1 : Nat) (h : f_State_copy M0 j0 j1 = (some MZ)) (hwf : me_wf N M0) (hj0 : j0 < N 9) (hj1 : j1 < N 9) (sz : Nat) : Met l y_State_copy (fg_w y_State_copy prog_10_method_3_code 3 none) rm_State_copy (va_Pc [.ref (ad 9 j0), .ref (ad 9 j1)] (fz_P D (me_T ca) (me_W ad ca M0) sz)) (q_State_copy D ad ca N M0 MZ (va_A (me_W ad ca M0) sz)) rm_State_copy.cells rm_State_copy.slots (va_A (me_W ad ca M0) sz) := by
  refine fz_enter (fun A => q_State_copy D ad ca N M0 MZ A) (by decide +kernel) (Nat.le_of_ble_eq_true rfl) ?_
  intro p e s m below meth c ls A hx hb hml hown hts hr hlocks hin hP hK hD hS hA hX hl hz
  have hl : lv_has ls 3 [(0, .ref (ad 9 j0)), (1, .ref (ad 9 j1))] := hl
  unfold f_State_copy at h
  have hkp : me_kp M0 M0 := me_kp.rf
  have hkb := hkp
  have b_10 : ∀ (fu : Nat), ∀ (M : me_M) (y2 : Int32) (H : Heap) (locs : List Loc) (ls : Array Slot), f_State_copy_l10 j0 j1 fu M y2 = (some MZ) → me_wf N M → me_kp M0 M → va_P D classes (me_W ad ca M) H → va_D A (me_W ad ca M) → va_S A s.heap H locs → lv_has ls 3 [(0, .ref (ad 9 j0)), (1, .ref (ad 9 j1)), (2, .int y2)] → W p l e rm_State_copy s m [.ref (ad 9 j0), .ref (ad 9 j1)].toArray below meth c H locs 0 0 (MQ below (q_State_copy D ad ca N M0 MZ A) [.ref (ad 9 j0), .ref (ad 9 j1)].toArray s rm_State_copy.cells rm_State_copy.slots A) (F0 m 10 ls []) := by
    intro fu
    induction fu with
    | zero =>
      intro M y2 H locs ls h hwf hkp hP hD hS hl
      cases h
    | succ fu ih =>
      intro M y2 H locs ls h hwf hkp hP hD hS hl
      unfold f_State_copy_l10 at h
      have hkb := hkp
      refine lv_iload_n hx hb d_State_copy_10 rfl (lv_at hl 2 rfl) ?_
      refine lv_aload_n hx hb d_State_copy_11 rfl (lv_at hl 1 rfl) ?_
      refine g_State_1 hx hb hts hown hK hP hwf hj1 (hts _ u_527) d_State_copy_12 ?_
      refine lv_icmp_ge (tgt := 39) hx hb d_State_copy_15 (by decide) (fun c1 => ?_) (fun c1 => ?_)
      · have h := if_t c1 h
        refine lv_aload_n hx hb d_State_copy_39 rfl (lv_at hl 0 rfl) ?_
        refine lv_aload_n hx hb d_State_copy_40 rfl (lv_at hl 1 rfl) ?_
        refine g_State_1 hx hb hts hown hK hP hwf hj1 (hts _ u_527) d_State_copy_41 ?_
        obtain ⟨M2, eM2, h⟩ := st_ob h
        refine p_State_1 eM2 hx hb hts hown hK hP hD hwf hS hj0 (hts _ u_527) d_State_copy_44 (fun H locs hP hD hwf hS => ?_)
        have hkp := kp_I eM2 hkp
        refine lv_aload_n hx hb d_State_copy_47 rfl (lv_at hl 0 rfl) ?_
        refine lv_aload_n hx hb d_State_copy_48 rfl (lv_at hl 1 rfl) ?_
        refine g_State_2 hx hb hts hown hK hP hwf hj1 (hts _ u_530) d_State_copy_49 ?_
        obtain ⟨M3, eM3, h⟩ := st_ob h
        refine p_State_2 eM3 hx hb hts hown hK hP hD hwf hS hj0 (hts _ u_530) d_State_copy_52 (fun H locs hP hD hwf hS => ?_)
        have hkp := kp_I eM3 hkp
        exact me_retv (me_kp M0) h hx hb hr hlocks hwf hkp hP hK hD hS d_State_copy_55
      have h := if_f c1 h
      refine lv_aload_n hx hb d_State_copy_18 rfl (lv_at hl 0 rfl) ?_
      refine g_State_0 hx hb hts hown hK hP hwf hj0 (hts _ u_523) d_State_copy_19 ?_
      obtain ⟨j4, e5, h⟩ := bd_ob h
      have hj4 : j4 < N 18 := (hwf.2.1 9 j0 0 _ e5 (by decide) hj0)
      refine me_opt (j := j4) e5 ?_
      refine lv_iload_n hx hb d_State_copy_22 rfl (lv_at hl 2 rfl) ?_
      obtain ⟨g6, h⟩ := gd_ob h
      refine me_aald (k := 18) (t := 10) hx hb hK hP hwf hj4 (by decide) (by decide) rfl (fun _ => rfl) g6 d_State_copy_23 ?_
      obtain ⟨j7, e8, h⟩ := bd_ob h
      have hj7 : j7 < N 10 := (hwf.2.1 18 j4 y2.toNatClampNeg _ e8 (by decide) hj4)
      refine me_opt (j := j7) e8 ?_
      refine lv_aload_n hx hb d_State_copy_24 rfl (lv_at hl 1 rfl) ?_
      refine g_State_0 hx hb hts hown hK hP hwf hj1 (hts _ u_523) d_State_copy_25 ?_
      obtain ⟨j9, e10, h⟩ := bd_ob h
      have hj9 : j9 < N 18 := (hwf.2.1 9 j1 0 _ e10 (by decide) hj1)
      refine me_opt (j := j9) e10 ?_
      refine lv_iload_n hx hb d_State_copy_28 rfl (lv_at hl 2 rfl) ?_
      obtain ⟨g11, h⟩ := gd_ob h
      refine me_aald (k := 18) (t := 10) hx hb hK hP hwf hj9 (by decide) (by decide) rfl (fun _ => rfl) g11 d_State_copy_29 ?_
      obtain ⟨j12, e13, h⟩ := bd_ob h
      have hj12 : j12 < N 10 := (hwf.2.1 18 j9 y2.toNatClampNeg _ e13 (by decide) hj9)
      refine me_opt (j := j12) e13 ?_
      obtain ⟨M14, eM14, h⟩ := bd_ob h
      refine me_thenv0 (M1 := M14) (me_runV (C := "FilterGuard$Cell") (As := [.ref (ad 10 j12)]) (rest := []) ⟨hx, hb, hml, hown, hts⟩ (c_Cell_copy l D ad ca N M M14 j7 j12 eM14 hwf hj7 hj12 _) rfl (by show fg_nm y_Cell_copy 1; decide +kernel) u_1078 u_1079 u_1080 u_188 u_1081 ⟨Nat.le_of_ble_eq_true rfl, Nat.le_of_ble_eq_true rfl⟩ hX hz hK hP hD hwf hS hA hj7 (by decide) rfl rfl rfl hl.1 (Nat.le_of_ble_eq_true rfl) d_State_copy_30 ⟨Nat.le_of_ble_eq_true rfl, Nat.le_of_ble_eq_true rfl⟩) hP hD hK hS hA rfl rfl (fun H locs hw hP hD hS => ?_)
      obtain ⟨hwf, hk9⟩ := hw
      have hkp := hkp.tr hk9
      refine lv_iinc (v := y2 + 1) (lv' := [(2, .int (y2 + 1)), (0, .ref (ad 9 j0)), (1, .ref (ad 9 j1))]) hx hb d_State_copy_33 hl (k := 2) rfl (by rfl) (by decide) rfl (fun ls hl => ?_)
      refine lv_goto (tgt := 10) hx hb d_State_copy_36 (by decide) ?_
      exact ih M14 (y2 + 1) _ _ _ h hwf hkp hP hD hS (lv_sub hl [1, 2, 0] rfl)
  refine lv_aload_n hx hb d_State_copy_0 rfl (lv_at hl 0 rfl) ?_
  refine lv_aload_n hx hb d_State_copy_1 rfl (lv_at hl 1 rfl) ?_
  refine g_State_1 hx hb hts hown hK hP hwf hj1 (hts _ u_527) d_State_copy_2 ?_
  obtain ⟨M15, eM15, h⟩ := bd_ob h
  refine me_thenv0 (M1 := M15) (me_runV (C := "FilterGuard$State") (As := [.int (mI M0 9 j1 1)]) (rest := []) ⟨hx, hb, hml, hown, hts⟩ (c_State_clearFrom l D ad ca N M0 M15 j0 (mI M0 9 j1 1) eM15 hwf hj0 _) rfl (by show fg_nm y_State_clearFrom 1; decide +kernel) u_1024 u_1026 u_12 u_189 u_1027 ⟨Nat.le_of_ble_eq_true rfl, Nat.le_of_ble_eq_true rfl⟩ hX hz hK hP hD hwf hS hA hj0 (by decide) rfl rfl rfl hl.1 (Nat.le_of_ble_eq_true rfl) d_State_copy_5 ⟨Nat.le_of_ble_eq_true rfl, Nat.le_of_ble_eq_true rfl⟩) hP hD hK hS hA rfl rfl (fun H locs hw hP hD hS => ?_)
  obtain ⟨hwf, hk9⟩ := hw
  have hkp := hkp.tr hk9
  refine lv_iconst (v := 0) hx hb d_State_copy_8 (by decide) ?_
  refine lv_istore_n (lv' := [(2, .int 0), (0, .ref (ad 9 j0)), (1, .ref (ad 9 j1))]) hx hb d_State_copy_9 rfl hl (by decide) rfl (fun ls hl => ?_)
  exact b_10 _ M15 (0 : Int32) _ _ _ h hwf hkp hP hD hS (lv_sub hl [1, 2, 0] rfl)
