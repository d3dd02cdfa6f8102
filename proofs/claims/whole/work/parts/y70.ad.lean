theorem d_Arrays_copyOf_0 : decode prog_26_method_121_code 0 = .ok (.iload_n 1, 1) := by decide +kernel
theorem d_Arrays_copyOf_1 : decode prog_26_method_121_code 1 = .ok (.aload_n 0, 1) := by decide +kernel
theorem d_Arrays_copyOf_2 : decode prog_26_method_121_code 2 = .ok (.arraylength, 1) := by decide +kernel
theorem d_Arrays_copyOf_3 : decode prog_26_method_121_code 3 = .ok (.if_icmp .ne 11, 3) := by decide +kernel
theorem d_Arrays_copyOf_14 : decode prog_26_method_121_code 14 = .ok (.iload_n 1, 1) := by decide +kernel
theorem d_Arrays_copyOf_15 : decode prog_26_method_121_code 15 = .ok (.newarray .byte, 2) := by decide +kernel
theorem d_Arrays_copyOf_17 : decode prog_26_method_121_code 17 = .ok (.astore_n 2, 1) := by decide +kernel
theorem d_Arrays_copyOf_18 : decode prog_26_method_121_code 18 = .ok (.aload_n 0, 1) := by decide +kernel
theorem d_Arrays_copyOf_19 : decode prog_26_method_121_code 19 = .ok (.iconst 0, 1) := by decide +kernel
theorem d_Arrays_copyOf_20 : decode prog_26_method_121_code 20 = .ok (.aload_n 2, 1) := by decide +kernel
theorem d_Arrays_copyOf_21 : decode prog_26_method_121_code 21 = .ok (.iconst 0, 1) := by decide +kernel
theorem d_Arrays_copyOf_22 : decode prog_26_method_121_code 22 = .ok (.aload_n 0, 1) := by decide +kernel
theorem d_Arrays_copyOf_23 : decode prog_26_method_121_code 23 = .ok (.arraylength, 1) := by decide +kernel
theorem d_Arrays_copyOf_24 : decode prog_26_method_121_code 24 = .ok (.iload_n 1, 1) := by decide +kernel
theorem d_Arrays_copyOf_25 : decode prog_26_method_121_code 25 = .ok (.invokestatic 304, 3) := by decide +kernel
theorem u_754 : Cond.methodLink "java/util/Arrays" 304 ⟨"java/lang/Math", "min", "(II)I"⟩ ∈ fg_g := fg_in (List.mem_of_getElem? (i := 754) (by decide +kernel)) rfl
theorem u_742 : Cond.static ⟨"java/lang/Math", "min", "(II)I"⟩ ∈ fg_g := fg_in (List.mem_of_getElem? (i := 742) (by decide +kernel)) rfl
theorem u_193 : Cond.initialized "java/lang/Math" ∈ fg_g := fg_in (List.mem_of_getElem? (i := 193) (by decide +kernel)) rfl
theorem u_743 : Cond.code ⟨"java/lang/Math", "min", "(II)I"⟩ prog_21_method_69_code 2 (some .int) ∈ fg_g := fg_in (List.mem_of_getElem? (i := 743) (by decide +kernel)) rfl
theorem d_Arrays_copyOf_28 : decode prog_26_method_121_code 28 = .ok (.invokestatic 150, 3) := by decide +kernel
theorem u_755 : Cond.methodLink "java/util/Arrays" 150 ⟨"java/lang/System", "arraycopy", "(Ljava/lang/Object;ILjava/lang/Object;II)V"⟩ ∈ fg_g := fg_in (List.mem_of_getElem? (i := 755) (by decide +kernel)) rfl
theorem u_757 : Cond.native ⟨"java/lang/System", "arraycopy", "(Ljava/lang/Object;ILjava/lang/Object;II)V"⟩ ∈ fg_g := fg_in (List.mem_of_getElem? (i := 757) (by decide +kernel)) rfl
theorem u_756 : Cond.static ⟨"java/lang/System", "arraycopy", "(Ljava/lang/Object;ILjava/lang/Object;II)V"⟩ ∈ fg_g := fg_in (List.mem_of_getElem? (i := 756) (by decide +kernel)) rfl
theorem u_195 : Cond.initialized "java/lang/System" ∈ fg_g := fg_in (List.mem_of_getElem? (i := 195) (by decide +kernel)) rfl
theorem d_Arrays_copyOf_31 : decode prog_26_method_121_code 31 = .ok (.aload_n 2, 1) := by decide +kernel
theorem d_Arrays_copyOf_32 : decode prog_26_method_121_code 32 = .ok (.areturn, 1) := by decide +kernel
abbrev y_Arrays_copyOf : MethodName := ⟨"java/util/Arrays", "copyOf", "([BI)[B"⟩
def rm_Arrays_copyOf (N0 : Nat → Nat) : Room := { frames := 2, cells := me_CL - me_cN N0, slots := me_SL - me_sN N0, locals := 60 }
abbrev q_Arrays_copyOf (D : va_G) (ad0 : Nat → Nat → Nat) (ca : Nat → ClassId) (N0 : Nat → Nat) (MZ : me_M) (RZ : Nat) (A : Nat → Prop) : Array Value → Jvm.State → Outcome → Jvm.State → Prop := va_Qq (fun r (u : Nat → Nat → Nat) => r = some (u 14 RZ) ∧ al_P ad0 N0 MZ u ∧ RZ < mN MZ 14) (fg_B D A (fun u => me_W u ca MZ) (fun _ => [])) A
set_option maxHeartbeats 4000000 in
set_option maxRecDepth 100000 in
theorem c_Arrays_copyOf (l : Launch) (D : va_G) (ad0 : Nat → Nat → Nat) (ca : Nat → ClassId) (N0 : Nat → Nat) (M0 MZ : me_M) (RZ : Nat) (j0 : Nat) (x1 : Int32) (h : f_Arrays_copyOf M0 j0 x1 = (some (MZ, RZ))) (hwf : me_wf N0 M0) (hcl : me_cN N0 ≤ me_CL ∧ me_sN N0 ≤ me_SL) (hj0 : j0 < N0 14) (sz : Nat) : Met l y_Arrays_copyOf (fg_w y_Arrays_copyOf prog_26_method_121_code 3 (some (.array .byte))) (rm_Arrays_copyOf N0) (va_Pc [.ref (ad0 14 j0), .int x1] (fz_P D (me_T ca) (me_W ad0 ca M0) sz)) (q_Arrays_copyOf D ad0 ca N0 MZ RZ (va_A (me_W ad0 ca M0) sz)) (me_cN (mN MZ) - me_cN N0) (me_sN (mN MZ) - me_sN N0) (va_A (me_W ad0 ca M0) sz) := by
  refine fz_enter (fun A => q_Arrays_copyOf D ad0 ca N0 MZ RZ A) (by decide +kernel) (Nat.le_of_ble_eq_true rfl) ?_
  intro p e s m below meth c ls A hx hb hml hown hts hr hlocks hin hP hK hD hS hA hX hl hz
  refine W.widen (k := me_cN N0 - me_cN N0) (n := me_sN N0 - me_sN N0) (Nat.zero_le _) (Nat.zero_le _) ?_
  unfold f_Arrays_copyOf at h
  have hok : me_ok N0 N0 := me_ok.rf hcl
  obtain ⟨ad, N, hext0, hok, hwf, hP, hD, hN9, had9, hj0⟩ : ∃ (ad : Nat → Nat → Nat) (N : Nat → Nat), (∀ a b, b < N0 a → ad a b = ad0 a b) ∧ me_ok N0 N ∧ me_wf N M0 ∧ va_P D classes (me_W ad ca M0) s.heap ∧ va_D A (me_W ad ca M0) ∧ N = N0 ∧ ad = ad0 ∧ j0 < N 14 := ⟨ad0, N0, fun _ _ _ => rfl, hok, hwf, hP, hD, rfl, rfl, hj0⟩
  have hl : lv_has ls 3 [(0, .ref (ad 14 j0)), (1, .int x1)] := by rw [had9]; exact hl
  have hcs : W p l e (rm_Arrays_copyOf N0) s m [.ref (ad0 14 j0), .int x1].toArray below meth c s.heap [] (me_cN N - me_cN N0) (me_sN N - me_sN N0) (MQ below (q_Arrays_copyOf D ad0 ca N0 MZ RZ A) [.ref (ad0 14 j0), .int x1].toArray s (me_cN (mN MZ) - me_cN N0) (me_sN (mN MZ) - me_sN N0) A) (F0 m 0 ls []) := by
    clear had9
    refine lv_iload_n hx hb d_Arrays_copyOf_0 rfl (lv_at hl 1 rfl) ?_
    refine lv_aload_n hx hb d_Arrays_copyOf_1 rfl (lv_at hl 0 rfl) ?_
    refine me_alen (k := 14) hx hb hK hP hwf hj0 (by decide) (by decide) rfl d_Arrays_copyOf_2 ?_
    refine lv_icmp_ne (tgt := 14) hx hb d_Arrays_copyOf_3 (by decide) (fun c1 => ?_) (fun c1 => ?_)
    · have h := if_f c1 h
      refine lv_iload_n hx hb d_Arrays_copyOf_14 rfl (lv_at hl 1 rfl) ?_
      obtain ⟨g2, h⟩ := gd_ob h
      obtain ⟨M3, eM3, h⟩ := st_ob h
      refine al_newa (k := 14) (atype := .byte) (a0 := (x1.toNatClampNeg, .inl (fun _ => 0))) eM3 g2 hx hb (hts _ u_309) rfl hK hP hD hwf hok hS hA (by decide) (by decide) rfl (fun _ _ h9 => h9) (by decide) (fun _ => rfl) (fun ad1 => by rw [eM3]; exact al_ar14) rfl rfl d_Arrays_copyOf_15 (fun ad N H hext hNN hn4 hwf hok1 hP hD hS => ?_)
      have hext0 := al_ext hext hext0 hok
      have hok := hok1
      have hl : lv_has ls 3 [(0, .ref (ad 14 j0)), (1, .int x1)] := by rw [hext 14 j0 hj0]; exact hl
      have hj0 : j0 < N 14 := Nat.lt_of_lt_of_le hj0 (hNN 14)
      refine lv_astore_n (lv' := [(2, .ref (ad 14 (mN M0 14))), (0, .ref (ad 14 j0)), (1, .int x1)]) hx hb d_Arrays_copyOf_17 rfl hl (by decide) rfl (fun ls hl => ?_)
      refine lv_aload_n hx hb d_Arrays_copyOf_18 rfl (lv_at hl 1 rfl) ?_
      refine lv_iconst (v := 0) hx hb d_Arrays_copyOf_19 (by decide) ?_
      refine lv_aload_n hx hb d_Arrays_copyOf_20 rfl (lv_at hl 0 rfl) ?_
      refine lv_iconst (v := 0) hx hb d_Arrays_copyOf_21 (by decide) ?_
      refine lv_aload_n hx hb d_Arrays_copyOf_22 rfl (lv_at hl 1 rfl) ?_
      refine me_alen (k := 14) hx hb hK hP hwf hj0 (by decide) (by decide) rfl d_Arrays_copyOf_23 ?_
      refine lv_iload_n hx hb d_Arrays_copyOf_24 rfl (lv_at hl 2 rfl) ?_
      refine al_mmin hok (by rfl) (by rfl) hx hb (hml.trans hl.1.symm) hown (hts _ u_754) (hts _ u_742) (hts _ u_193) (hts _ u_743) (Nat.le_of_ble_eq_true rfl) (Nat.le_of_ble_eq_true rfl)  d_Arrays_copyOf_25 ?_
      refine fg_topi (y := jimin (Int32.ofNat (mZ M3 14 j0)) x1) rfl ?_
      obtain ⟨g5, h⟩ := gd_ob h
      obtain ⟨M6, eM6, h⟩ := st_ob h
      refine me_copyb eM6 hx hb (hml.trans hl.1.symm) hown (hts _ u_755) (hts _ u_757) (hts _ u_756) (hts _ u_195) hK hP hD hwf hS hj0 hn4 g5 (Nat.le_of_ble_eq_true rfl) (Nat.le_of_ble_eq_true rfl) d_Arrays_copyOf_28 (fun H locs hP hD hwf hS => ?_)
      refine lv_aload_n hx hb d_Arrays_copyOf_31 rfl (lv_at hl 0 rfl) ?_
      exact al_reta h hn4 hx hb hr hlocks hwf hok hext0 hP hK hD hS d_Arrays_copyOf_32
    have h := if_t c1 h
    exact absurd h (by simp)
  rw [hN9] at hcs
  exact hcs
theorem d_G_write_3 : decode prog_1_method_3_code 3 = .ok (.iload_n 2, 1) := by decide +kernel
theorem d_G_write_4 : decode prog_1_method_3_code 4 = .ok (.ifCond .lt 32, 3) := by decide +kernel
theorem d_G_write_36 : decode prog_1_method_3_code 36 = .ok (.return_, 1) := by decide +kernel
theorem d_G_write_7 : decode prog_1_method_3_code 7 = .ok (.aload_n 0, 1) := by decide +kernel
theorem d_G_write_8 : decode prog_1_method_3_code 8 = .ok (.getfield 9, 3) := by decide +kernel
theorem g_G_0 {p : Program} {l : Launch} {e : Env} {R : Room} {s : Jvm.State} {m : MethodId} {args : Array Value} {below : List Frame} {meth : Method} {c : Code} {H : Heap} {locs : List Loc} {cells slots : Nat} {Q : Jvm.State → Prop} {cc : ByteArray} {pc : Nat} {ls : Array Slot} {rest : List Value} {D : va_G} {ad : Nat → Nat → Nat} {ca : Nat → ClassId} {M : me_M} {N : Nat → Nat} {own : String} {index j : Nat} (hexec : p.tables.exec = Jvm.exec) (hb : c.code = cc) (hts : ∀ w ∈ fg_g, w.before args s = true) (hown : s.vm.findClass own = some m.cls) (hK : va_K D classes (me_T ca) s) (hP : va_P D classes (me_W ad ca M) H) (hwf : me_wf N M) (hj : j < N 0) (hlink : (Cond.fieldLink own index "FilterGuard" "tape" "[B").before args s = true) (hdg : decode cc pc = .ok (.getfield index, 3)) (kk : W p l e R s m args below meth c H locs cells slots Q (F0 m (pc + 3) ls (va_rf ((mR M 0 j 0).map (ad 14)) :: rest))) : W p l e R s m args below meth c H locs cells slots Q (F0 m pc ls (.ref (ad 0 j) :: rest)) := me_get (k := 0) (f := 0) (C := "FilterGuard") (T := F_G) (Nf := 14) hexec hb hts i_G hown hK hP hwf hj (by decide) rfl (by decide) (by decide) hlink (fun _ h9 => h9) hdg kk
theorem d_G_write_11 : decode prog_1_method_3_code 11 = .ok (.aload_n 0, 1) := by decide +kernel
theorem d_G_write_12 : decode prog_1_method_3_code 12 = .ok (.getfield 58, 3) := by decide +kernel
theorem u_694 : Cond.fieldLink "FilterGuard" 58 "FilterGuard" "tapeSize" "I" ∈ fg_g := fg_in (List.mem_of_getElem? (i := 694) (by decide +kernel)) rfl
theorem g_G_1 {p : Program} {l : Launch} {e : Env} {R : Room} {s : Jvm.State} {m : MethodId} {args : Array Value} {below : List Frame} {meth : Method} {c : Code} {H : Heap} {locs : List Loc} {cells slots : Nat} {Q : Jvm.State → Prop} {cc : ByteArray} {pc : Nat} {ls : Array Slot} {rest : List Value} {D : va_G} {ad : Nat → Nat → Nat} {ca : Nat → ClassId} {M : me_M} {N : Nat → Nat} {own : String} {index j : Nat} (hexec : p.tables.exec = Jvm.exec) (hb : c.code = cc) (hts : ∀ w ∈ fg_g, w.before args s = true) (hown : s.vm.findClass own = some m.cls) (hK : va_K D classes (me_T ca) s) (hP : va_P D classes (me_W ad ca M) H) (hwf : me_wf N M) (hj : j < N 0) (hlink : (Cond.fieldLink own index "FilterGuard" "tapeSize" "I").before args s = true) (hdg : decode cc pc = .ok (.getfield index, 3)) (kk : W p l e R s m args below meth c H locs cells slots Q (F0 m (pc + 3) ls (.int (mI M 0 j 1) :: rest))) : W p l e R s m args below meth c H locs cells slots Q (F0 m pc ls (.ref (ad 0 j) :: rest)) := me_get (k := 0) (f := 1) (C := "FilterGuard") (T := F_G) (Nf := 14) hexec hb hts i_G hown hK hP hwf hj (by decide) rfl (by decide) (by decide) hlink (fun _ h9 => h9) hdg kk
theorem d_G_write_15 : decode prog_1_method_3_code 15 = .ok (.iload_n 1, 1) := by decide +kernel
theorem d_G_write_16 : decode prog_1_method_3_code 16 = .ok (.iload_n 2, 1) := by decide +kernel
theorem d_G_write_17 : decode prog_1_method_3_code 17 = .ok (.iushr, 1) := by decide +kernel
theorem d_G_write_18 : decode prog_1_method_3_code 18 = .ok (.i2b, 1) := by decide +kernel
theorem d_G_write_19 : decode prog_1_method_3_code 19 = .ok (.bastore, 1) := by decide +kernel
theorem d_G_write_20 : decode prog_1_method_3_code 20 = .ok (.aload_n 0, 1) := by decide +kernel
theorem d_G_write_21 : decode prog_1_method_3_code 21 = .ok (.dup, 1) := by decide +kernel
theorem d_G_write_22 : decode prog_1_method_3_code 22 = .ok (.getfield 58, 3) := by decide +kernel
theorem d_G_write_25 : decode prog_1_method_3_code 25 = .ok (.iconst 1, 1) := by decide +kernel
theorem d_G_write_26 : decode prog_1_method_3_code 26 = .ok (.iadd, 1) := by decide +kernel
theorem d_G_write_27 : decode prog_1_method_3_code 27 = .ok (.putfield 58, 3) := by decide +kernel
theorem p_G_1 {p : Program} {l : Launch} {e : Env} {R : Room} {s : Jvm.State} {m : MethodId} {args : Array Value} {below : List Frame} {meth : Method} {c : Code} {H : Heap} {locs : List Loc} {cells slots : Nat} {Q : Jvm.State → Prop} {cc : ByteArray} {pc : Nat} {ls : Array Slot} {rest : List Value} {D : va_G} {A : Nat → Prop} {H0 : Heap} {ad : Nat → Nat → Nat} {ca : Nat → ClassId} {M M1 : me_M} {N : Nat → Nat} {own : String} {index j : Nat} {v : Int32} (he : M1 = wI M 0 j 1 v) (hexec : p.tables.exec = Jvm.exec) (hb : c.code = cc) (hts : ∀ w ∈ fg_g, w.before args s = true) (hown : s.vm.findClass own = some m.cls) (hK : va_K D classes (me_T ca) s) (hP : va_P D classes (me_W ad ca M) H) (hD : va_D A (me_W ad ca M)) (hwf : me_wf N M) (hS : va_S A H0 H locs) (hj : j < N 0) (hlink : (Cond.fieldLink own index "FilterGuard" "tapeSize" "I").before args s = true) (hdg : decode cc pc = .ok (.putfield index, 3)) (kk : ∀ (H1 : Heap) (locs1 : List Loc), va_P D classes (me_W ad ca M1) H1 → va_D A (me_W ad ca M1) → me_wf N M1 → va_S A H0 H1 locs1 → W p l e R s m args below meth c H1 locs1 cells slots Q (F0 m (pc + 3) ls rest)) : W p l e R s m args below meth c H locs cells slots Q (F0 m pc ls (.int v :: .ref (ad 0 j) :: rest)) := by
  subst he
  exact me_put (M1 := wI M 0 j 1 v) (k := 0) (f := 1) (C := "FilterGuard") (T := F_G) (Nf := 14) hexec hb hts i_G t_G t_G_ok n_G hown hK hP hD hwf hS hj (by decide) rfl (by decide) (by decide) hlink (fun _ h9 => h9) rfl rfl rfl rfl (fun a b h => me_wIE h) (me_fIw (by decide) (by decide)) hdg (fun H1 locs1 a1 a2 a3 => kk H1 locs1 a1 a2 (me_wfI hwf (fun z => absurd z (by decide)) (fun z => absurd z (by decide))) a3)
theorem d_G_write_30 : decode prog_1_method_3_code 30 = .ok (.iinc 2 (-8), 3) := by decide +kernel
theorem d_G_write_33 : decode prog_1_method_3_code 33 = .ok (.goto (-30), 3) := by decide +kernel
theorem d_G_write_0 : decode prog_1_method_3_code 0 = .ok (.bipush 24, 2) := by decide +kernel
theorem d_G_write_2 : decode prog_1_method_3_code 2 = .ok (.istore_n 2, 1) := by decide +kernel
abbrev y_G_write : MethodName := ⟨"FilterGuard", "write", "(I)V"⟩
def rm_G_write : Room := { frames := 1, cells := 0, slots := 0, locals := 20 }
abbrev q_G_write (D : va_G) (ad : Nat → Nat → Nat) (ca : Nat → ClassId) (N : Nat → Nat) (M0 MZ : me_M) (A : Nat → Prop) : Array Value → Jvm.State → Outcome → Jvm.State → Prop := va_Qv (fun (_ : Unit) => me_wf N MZ ∧ me_kp M0 MZ) (fg_B D A (fun _ => me_W ad ca MZ) (fun _ => [])) A
set_option maxHeartbeats 4000000 in
set_option maxRecDepth 100000 in
theorem c_G_write (l : Launch) (D : va_G) (ad : Nat → Nat → Nat) (ca : Nat → ClassId) (N : Nat → Nat) (M0 MZ : me_M) (j0 : Nat) (x1 : Int32) (h : f_G_write M0 j0 x1 = (some MZ)) (hwf : me_wf N M0) (hj0 : j0 < N 0) (sz : Nat) : Met l y_G_write (fg_w y_G_write prog_1_method_3_code 3 none) rm_G_write (va_Pc [.ref (ad 0 j0), .int x1] (fz_P D (me_T ca) (me_W ad ca M0) sz)) (q_G_write D ad ca N M0 MZ (va_A (me_W ad ca M0) sz)) rm_G_write.cells rm_G_write.slots (va_A (me_W ad ca M0) sz) := by
  refine fz_enter (fun A => q_G_write D ad ca N M0 MZ A) (by decide +kernel) (Nat.le_of_ble_eq_true rfl) ?_
  intro p e s m below meth c ls A hx hb hml hown hts hr hlocks hin hP hK hD hS hA hX hl hz
  have hl : lv_has ls 3 [(0, .ref (ad 0 j0)), (1, .int x1)] := hl
  unfold f_G_write at h
  have hkp : me_kp M0 M0 := me_kp.rf
  have hkb := hkp
  have b_3 : ∀ (fu : Nat), ∀ (M : me_M) (y2 : Int32) (H : Heap) (locs : List Loc) (ls : Array Slot), f_G_write_l3 j0 x1 fu M y2 = (some MZ) → me_wf N M → me_kp M0 M → va_P D classes (me_W ad ca M) H → va_D A (me_W ad ca M) → va_S A s.heap H locs → lv_has ls 3 [(0, .ref (ad 0 j0)), (1, .int x1), (2, .int y2)] → W p l e rm_G_write s m [.ref (ad 0 j0), .int x1].toArray below meth c H locs 0 0 (MQ below (q_G_write D ad ca N M0 MZ A) [.ref (ad 0 j0), .int x1].toArray s rm_G_write.cells rm_G_write.slots A) (F0 m 3 ls []) := by
    intro fu
    induction fu with
    | zero =>
      intro M y2 H locs ls h hwf hkp hP hD hS hl
      cases h
    | succ fu ih =>
      intro M y2 H locs ls h hwf hkp hP hD hS hl
      unfold f_G_write_l3 at h
      have hkb := hkp
      refine lv_iload_n hx hb d_G_write_3 rfl (lv_at hl 2 rfl) ?_
      refine lv_if_lt (tgt := 36) hx hb d_G_write_4 (by decide) (fun c1 => ?_) (fun c1 => ?_)
      · have h := if_t c1 h
        exact me_retv (me_kp M0) h hx hb hr hlocks hwf hkp hP hK hD hS d_G_write_36
      have h := if_f c1 h
      refine lv_aload_n hx hb d_G_write_7 rfl (lv_at hl 0 rfl) ?_
      refine g_G_0 hx hb hts hown hK hP hwf hj0 (hts _ u_693) d_G_write_8 ?_
      obtain ⟨j2, e3, h⟩ := bd_ob h
      have hj2 : j2 < N 14 := (hwf.2.1 0 j0 0 _ e3 (by decide) hj0)
      refine me_opt (j := j2) e3 ?_
      refine lv_aload_n hx hb d_G_write_11 rfl (lv_at hl 0 rfl) ?_
      refine g_G_1 hx hb hts hown hK hP hwf hj0 (hts _ u_694) d_G_write_12 ?_
      refine lv_iload_n hx hb d_G_write_15 rfl (lv_at hl 1 rfl) ?_
      refine lv_iload_n hx hb d_G_write_16 rfl (lv_at hl 2 rfl) ?_
      refine lv_iushr (v := jiushr x1 y2) hx hb d_G_write_17 rfl ?_
      refine lv_i2b (v := (jiushr x1 y2).toInt8.toInt32) hx hb d_G_write_18 rfl ?_
      obtain ⟨g4, h⟩ := gd_ob h
      obtain ⟨M5, eM5, h⟩ := st_ob h
      refine me_bast eM5 hx hb hK hP hD hwf hS hj2 g4 d_G_write_19 (fun H locs hP hD hwf hS => ?_)
      have hkp := kp_I eM5 hkp
      refine lv_aload_n hx hb d_G_write_20 rfl (lv_at hl 0 rfl) ?_
      refine lv_dup hx hb d_G_write_21 rfl ?_
      refine g_G_1 hx hb hts hown hK hP hwf hj0 (hts _ u_694) d_G_write_22 ?_
      refine lv_iconst (v := 1) hx hb d_G_write_25 (by decide) ?_
      refine lv_iadd hx hb d_G_write_26 ?_
      obtain ⟨M6, eM6, h⟩ := st_ob h
      refine p_G_1 eM6 hx hb hts hown hK hP hD hwf hS hj0 (hts _ u_694) d_G_write_27 (fun H locs hP hD hwf hS => ?_)
      have hkp := kp_I eM6 hkp
      refine lv_iinc (v := y2 + (-8)) (lv' := [(2, .int (y2 + (-8))), (0, .ref (ad 0 j0)), (1, .int x1)]) hx hb d_G_write_30 hl (k := 2) rfl (by rfl) (by decide) rfl (fun ls hl => ?_)
      refine lv_goto (tgt := 3) hx hb d_G_write_33 (by decide) ?_
      exact ih M6 (y2 + (-8)) _ _ _ h hwf hkp hP hD hS (lv_sub hl [1, 2, 0] rfl)
  refine lv_bipush (v := 24) hx hb d_G_write_0 (by decide) ?_
  refine lv_istore_n (lv' := [(2, .int 24), (0, .ref (ad 0 j0)), (1, .int x1)]) hx hb d_G_write_2 rfl hl (by decide) rfl (fun ls hl => ?_)
  exact b_3 _ M0 (24 : Int32) _ _ _ h hwf hkp hP hD hS (lv_sub hl [1, 2, 0] rfl)
theorem d_G_feed_52 : decode prog_1_method_2_code 52 = .ok (.aload_n 0, 1) := by decide +kernel
theorem d_G_feed_53 : decode prog_1_method_2_code 53 = .ok (.iload_n 1, 1) := by decide +kernel
theorem d_G_feed_54 : decode prog_1_method_2_code 54 = .ok (.invokevirtual 74, 3) := by decide +kernel
theorem u_758 : Cond.methodLink "FilterGuard" 74 ⟨"FilterGuard", "write", "(I)V"⟩ ∈ fg_g := fg_in (List.mem_of_getElem? (i := 758) (by decide +kernel)) rfl
theorem u_181 : Cond.initialized "FilterGuard" ∈ fg_g := fg_in (List.mem_of_getElem? (i := 181) (by decide +kernel)) rfl
theorem u_761 : Cond.code ⟨"FilterGuard", "write", "(I)V"⟩ prog_1_method_3_code 3 none ∈ fg_g := fg_in (List.mem_of_getElem? (i := 761) (by decide +kernel)) rfl
theorem u_760 : Cond.instanceMethod ⟨"FilterGuard", "write", "(I)V"⟩ ∈ fg_g := fg_in (List.mem_of_getElem? (i := 760) (by decide +kernel)) rfl
theorem u_0 : Cond.selects "FilterGuard" ⟨"FilterGuard", "write", "(I)V"⟩ ⟨"FilterGuard", "write", "(I)V"⟩ ∈ fg_g := fg_in (List.mem_of_getElem? (i := 0) (by decide +kernel)) rfl
theorem d_G_feed_57 : decode prog_1_method_2_code 57 = .ok (.aload_n 0, 1) := by decide +kernel
theorem d_G_feed_58 : decode prog_1_method_2_code 58 = .ok (.iload_n 2, 1) := by decide +kernel
theorem d_G_feed_59 : decode prog_1_method_2_code 59 = .ok (.invokevirtual 74, 3) := by decide +kernel
theorem d_G_feed_62 : decode prog_1_method_2_code 62 = .ok (.aload_n 0, 1) := by decide +kernel
theorem d_G_feed_63 : decode prog_1_method_2_code 63 = .ok (.iload_n 3, 1) := by decide +kernel
theorem d_G_feed_64 : decode prog_1_method_2_code 64 = .ok (.invokevirtual 74, 3) := by decide +kernel
theorem d_G_feed_67 : decode prog_1_method_2_code 67 = .ok (.aload_n 0, 1) := by decide +kernel
theorem d_G_feed_68 : decode prog_1_method_2_code 68 = .ok (.iload 4, 2) := by decide +kernel
theorem d_G_feed_70 : decode prog_1_method_2_code 70 = .ok (.invokevirtual 74, 3) := by decide +kernel
theorem d_G_feed_73 : decode prog_1_method_2_code 73 = .ok (.aload_n 0, 1) := by decide +kernel
theorem d_G_feed_74 : decode prog_1_method_2_code 74 = .ok (.iload 5, 2) := by decide +kernel
theorem d_G_feed_76 : decode prog_1_method_2_code 76 = .ok (.invokevirtual 74, 3) := by decide +kernel
theorem d_G_feed_79 : decode prog_1_method_2_code 79 = .ok (.iconst 1, 1) := by decide +kernel
theorem d_G_feed_80 : decode prog_1_method_2_code 80 = .ok (.ireturn, 1) := by decide +kernel
theorem d_G_feed_0 : decode prog_1_method_2_code 0 = .ok (.aload_n 0, 1) := by decide +kernel
theorem d_G_feed_1 : decode prog_1_method_2_code 1 = .ok (.getfield 58, 3) := by decide +kernel
theorem d_G_feed_4 : decode prog_1_method_2_code 4 = .ok (.bipush 20, 2) := by decide +kernel
theorem d_G_feed_6 : decode prog_1_method_2_code 6 = .ok (.iadd, 1) := by decide +kernel
theorem d_G_feed_7 : decode prog_1_method_2_code 7 = .ok (.ldc 61, 2) := by decide +kernel
theorem u_740 : Cond.constant "FilterGuard" 61 65536 ∈ fg_g := fg_in (List.mem_of_getElem? (i := 740) (by decide +kernel)) rfl
theorem d_G_feed_9 : decode prog_1_method_2_code 9 = .ok (.if_icmp .le 5, 3) := by decide +kernel
theorem d_G_feed_14 : decode prog_1_method_2_code 14 = .ok (.aload_n 0, 1) := by decide +kernel
theorem d_G_feed_15 : decode prog_1_method_2_code 15 = .ok (.getfield 58, 3) := by decide +kernel
theorem d_G_feed_18 : decode prog_1_method_2_code 18 = .ok (.bipush 20, 2) := by decide +kernel
theorem d_G_feed_20 : decode prog_1_method_2_code 20 = .ok (.iadd, 1) := by decide +kernel
theorem d_G_feed_21 : decode prog_1_method_2_code 21 = .ok (.aload_n 0, 1) := by decide +kernel
theorem d_G_feed_22 : decode prog_1_method_2_code 22 = .ok (.getfield 9, 3) := by decide +kernel
theorem d_G_feed_25 : decode prog_1_method_2_code 25 = .ok (.arraylength, 1) := by decide +kernel
theorem d_G_feed_26 : decode prog_1_method_2_code 26 = .ok (.if_icmp .le 26, 3) := by decide +kernel
theorem d_G_feed_29 : decode prog_1_method_2_code 29 = .ok (.aload_n 0, 1) := by decide +kernel
theorem d_G_feed_30 : decode prog_1_method_2_code 30 = .ok (.aload_n 0, 1) := by decide +kernel
theorem d_G_feed_31 : decode prog_1_method_2_code 31 = .ok (.getfield 9, 3) := by decide +kernel
theorem d_G_feed_34 : decode prog_1_method_2_code 34 = .ok (.iconst 2, 1) := by decide +kernel
theorem d_G_feed_35 : decode prog_1_method_2_code 35 = .ok (.aload_n 0, 1) := by decide +kernel
theorem d_G_feed_36 : decode prog_1_method_2_code 36 = .ok (.getfield 9, 3) := by decide +kernel
theorem d_G_feed_39 : decode prog_1_method_2_code 39 = .ok (.arraylength, 1) := by decide +kernel
theorem d_G_feed_40 : decode prog_1_method_2_code 40 = .ok (.imul, 1) := by decide +kernel
theorem d_G_feed_41 : decode prog_1_method_2_code 41 = .ok (.ldc 61, 2) := by decide +kernel
theorem d_G_feed_43 : decode prog_1_method_2_code 43 = .ok (.invokestatic 62, 3) := by decide +kernel
theorem u_741 : Cond.methodLink "FilterGuard" 62 ⟨"java/lang/Math", "min", "(II)I"⟩ ∈ fg_g := fg_in (List.mem_of_getElem? (i := 741) (by decide +kernel)) rfl
theorem d_G_feed_46 : decode prog_1_method_2_code 46 = .ok (.invokestatic 68, 3) := by decide +kernel
theorem u_744 : Cond.methodLink "FilterGuard" 68 ⟨"java/util/Arrays", "copyOf", "([BI)[B"⟩ ∈ fg_g := fg_in (List.mem_of_getElem? (i := 744) (by decide +kernel)) rfl
theorem u_194 : Cond.initialized "java/util/Arrays" ∈ fg_g := fg_in (List.mem_of_getElem? (i := 194) (by decide +kernel)) rfl
theorem u_746 : Cond.code ⟨"java/util/Arrays", "copyOf", "([BI)[B"⟩ prog_26_method_121_code 3 (some (.array .byte)) ∈ fg_g := fg_in (List.mem_of_getElem? (i := 746) (by decide +kernel)) rfl
theorem u_745 : Cond.static ⟨"java/util/Arrays", "copyOf", "([BI)[B"⟩ ∈ fg_g := fg_in (List.mem_of_getElem? (i := 745) (by decide +kernel)) rfl
theorem d_G_feed_49 : decode prog_1_method_2_code 49 = .ok (.putfield 9, 3) := by decide +kernel
theorem d_G_feed_12 : decode prog_1_method_2_code 12 = .ok (.iconst 0, 1) := by decide +kernel
theorem d_G_feed_13 : decode prog_1_method_2_code 13 = .ok (.ireturn, 1) := by decide +kernel
abbrev y_G_feed : MethodName := ⟨"FilterGuard", "feed", "(IIIII)Z"⟩
def rm_G_feed (N0 : Nat → Nat) : Room := { frames := 3, cells := me_CL - me_cN N0, slots := me_SL - me_sN N0, locals := 82 }
abbrev q_G_feed (D : va_G) (ad0 : Nat → Nat → Nat) (ca : Nat → ClassId) (N0 : Nat → Nat) (MZ : me_M) (RZ : Int32) (A : Nat → Prop) : Array Value → Jvm.State → Outcome → Jvm.State → Prop := va_Qi (fun r (u : Nat → Nat → Nat) => r = RZ ∧ al_P ad0 N0 MZ u ∧ (RZ = 1 ∨ RZ = 0)) (fg_B D A (fun u => me_W u ca MZ) (fun _ => [])) A
set_option maxHeartbeats 4000000 in
set_option maxRecDepth 100000 in
theorem c_G_feed (l : Launch) (D : va_G) (ad0 : Nat → Nat → Nat) (ca : Nat → ClassId) (N0 : Nat → Nat) (M0 MZ : me_M) (RZ : Int32) (j0 : Nat) (x1 : Int32) (x2 : Int32) (x3 : Int32) (x4 : Int32) (x5 : Int32) (h : f_G_feed M0 j0 x1 x2 x3 x4 x5 = (some (MZ, RZ))) (hwf : me_wf N0 M0) (hcl : me_cN N0 ≤ me_CL ∧ me_sN N0 ≤ me_SL) (hj0 : j0 < N0 0) (sz : Nat) : Met l y_G_feed (fg_w y_G_feed prog_1_method_2_code 6 (some .boolean)) (rm_G_feed N0) (va_Pc [.ref (ad0 0 j0), .int x1, .int x2, .int x3, .int x4, .int x5] (fz_P D (me_T ca) (me_W ad0 ca M0) sz)) (q_G_feed D ad0 ca N0 MZ RZ (va_A (me_W ad0 ca M0) sz)) (me_cN (mN MZ) - me_cN N0) (me_sN (mN MZ) - me_sN N0) (va_A (me_W ad0 ca M0) sz) := by
  refine fz_enter (fun A => q_G_feed D ad0 ca N0 MZ RZ A) (by decide +kernel) (Nat.le_of_ble_eq_true rfl) ?_
  intro p e s m below meth c ls A hx hb hml hown hts hr hlocks hin hP hK hD hS hA hX hl hz
  refine W.widen (k := me_cN N0 - me_cN N0) (n := me_sN N0 - me_sN N0) (Nat.zero_le _) (Nat.zero_le _) ?_
  unfold f_G_feed at h
  have hok : me_ok N0 N0 := me_ok.rf hcl
  have b_52 : ∀ (ad : Nat → Nat → Nat) (N : Nat → Nat) (M : me_M) (H : Heap) (locs : List Loc) (ls : Array Slot), f_G_feed_b52 j0 x1 x2 x3 x4 x5 M = (some (MZ, RZ)) → me_wf N M → me_ok N0 N → (∀ a b, b < N0 a → ad a b = ad0 a b) → va_P D classes (me_W ad ca M) H → va_D A (me_W ad ca M) → va_S A s.heap H locs → lv_has ls 6 [(0, .ref (ad 0 j0)), (1, .int x1), (2, .int x2), (3, .int x3), (4, .int x4), (5, .int x5)] → W p l e (rm_G_feed N0) s m [.ref (ad0 0 j0), .int x1, .int x2, .int x3, .int x4, .int x5].toArray below meth c H locs (me_cN N - me_cN N0) (me_sN N - me_sN N0) (MQ below (q_G_feed D ad0 ca N0 MZ RZ A) [.ref (ad0 0 j0), .int x1, .int x2, .int x3, .int x4, .int x5].toArray s (me_cN (mN MZ) - me_cN N0) (me_sN (mN MZ) - me_sN N0) A) (F0 m 52 ls []) := by
    intro ad N M H locs ls h hwf hok hext0 hP hD hS hl
    unfold f_G_feed_b52 at h
    have hj0 : j0 < N 0 := Nat.lt_of_lt_of_le hj0 (hok.2.2.2.2 0)
    refine lv_aload_n hx hb d_G_feed_52 rfl (lv_at hl 0 rfl) ?_
    refine lv_iload_n hx hb d_G_feed_53 rfl (lv_at hl 1 rfl) ?_
    obtain ⟨M1, eM1, h⟩ := bd_ob h
    refine me_thenv0 (M1 := M1) (me_runV (C := "FilterGuard") (As := [.int x1]) (rest := []) ⟨hx, hb, hml, hown, hts⟩ (c_G_write l D ad ca N M M1 j0 x1 eM1 hwf hj0 _) rfl (by show fg_nm y_G_write 1; decide +kernel) u_758 u_760 u_0 u_181 u_761 ⟨Nat.le_of_ble_eq_true rfl, Nat.le_of_ble_eq_true rfl⟩ hX hz hK hP hD hwf hS hA hj0 (by decide) rfl rfl rfl hl.1 (Nat.le_of_ble_eq_true rfl) d_G_feed_54 (al_f hok)) hP hD hK hS hA rfl rfl (fun H locs hw hP hD hS => ?_)
    obtain ⟨hwf, hk9⟩ := hw
    refine lv_aload_n hx hb d_G_feed_57 rfl (lv_at hl 0 rfl) ?_
    refine lv_iload_n hx hb d_G_feed_58 rfl (lv_at hl 2 rfl) ?_
    obtain ⟨M2, eM2, h⟩ := bd_ob h
    refine me_thenv0 (M1 := M2) (me_runV (C := "FilterGuard") (As := [.int x2]) (rest := []) ⟨hx, hb, hml, hown, hts⟩ (c_G_write l D ad ca N M1 M2 j0 x2 eM2 hwf hj0 _) rfl (by show fg_nm y_G_write 1; decide +kernel) u_758 u_760 u_0 u_181 u_761 ⟨Nat.le_of_ble_eq_true rfl, Nat.le_of_ble_eq_true rfl⟩ hX hz hK hP hD hwf hS hA hj0 (by decide) rfl rfl rfl hl.1 (Nat.le_of_ble_eq_true rfl) d_G_feed_59 (al_f hok)) hP hD hK hS hA rfl rfl (fun H locs hw hP hD hS => ?_)
    obtain ⟨hwf, hk9⟩ := hw
    refine lv_aload_n hx hb d_G_feed_62 rfl (lv_at hl 0 rfl) ?_
    refine lv_iload_n hx hb d_G_feed_63 rfl (lv_at hl 3 rfl) ?_
    obtain ⟨M3, eM3, h⟩ := bd_ob h
    refine me_thenv0 (M1 := M3) (me_runV (C := "FilterGuard") (As := [.int x3]) (rest := []) ⟨hx, hb, hml, hown, hts⟩ (c_G_write l D ad ca N M2 M3 j0 x3 eM3 hwf hj0 _) rfl (by show fg_nm y_G_write 1; decide +kernel) u_758 u_760 u_0 u_181 u_761 ⟨Nat.le_of_ble_eq_true rfl, Nat.le_of_ble_eq_true rfl⟩ hX hz hK hP hD hwf hS hA hj0 (by decide) rfl rfl rfl hl.1 (Nat.le_of_ble_eq_true rfl) d_G_feed_64 (al_f hok)) hP hD hK hS hA rfl rfl (fun H locs hw hP hD hS => ?_)
    obtain ⟨hwf, hk9⟩ := hw
    refine lv_aload_n hx hb d_G_feed_67 rfl (lv_at hl 0 rfl) ?_
    refine lv_iload hx hb d_G_feed_68 (lv_at hl 4 rfl) ?_
    obtain ⟨M4, eM4, h⟩ := bd_ob h
    refine me_thenv0 (M1 := M4) (me_runV (C := "FilterGuard") (As := [.int x4]) (rest := []) ⟨hx, hb, hml, hown, hts⟩ (c_G_write l D ad ca N M3 M4 j0 x4 eM4 hwf hj0 _) rfl (by show fg_nm y_G_write 1; decide +kernel) u_758 u_760 u_0 u_181 u_761 ⟨Nat.le_of_ble_eq_true rfl, Nat.le_of_ble_eq_true rfl⟩ hX hz hK hP hD hwf hS hA hj0 (by decide) rfl rfl rfl hl.1 (Nat.le_of_ble_eq_true rfl) d_G_feed_70 (al_f hok)) hP hD hK hS hA rfl rfl (fun H locs hw hP hD hS => ?_)
    obtain ⟨hwf, hk9⟩ := hw
    refine lv_aload_n hx hb d_G_feed_73 rfl (lv_at hl 0 rfl) ?_
    refine lv_iload hx hb d_G_feed_74 (lv_at hl 5 rfl) ?_
    obtain ⟨M5, eM5, h⟩ := bd_ob h
    refine me_thenv0 (M1 := M5) (me_runV (C := "FilterGuard") (As := [.int x5]) (rest := []) ⟨hx, hb, hml, hown, hts⟩ (c_G_write l D ad ca N M4 M5 j0 x5 eM5 hwf hj0 _) rfl (by show fg_nm y_G_write 1; decide +kernel) u_758 u_760 u_0 u_181 u_761 ⟨Nat.le_of_ble_eq_true rfl, Nat.le_of_ble_eq_true rfl⟩ hX hz hK hP hD hwf hS hA hj0 (by decide) rfl rfl rfl hl.1 (Nat.le_of_ble_eq_true rfl) d_G_feed_76 (al_f hok)) hP hD hK hS hA rfl rfl (fun H locs hw hP hD hS => ?_)
    obtain ⟨hwf, hk9⟩ := hw
    refine lv_iconst (v := 1) hx hb d_G_feed_79 (by decide) ?_
    exact al_retz h (by decide) hx hb hr hlocks hwf hok hext0 hP hK hD hS d_G_feed_80
  obtain ⟨ad, N, hext0, hok, hwf, hP, hD, hN9, had9, hj0⟩ : ∃ (ad : Nat → Nat → Nat) (N : Nat → Nat), (∀ a b, b < N0 a → ad a b = ad0 a b) ∧ me_ok N0 N ∧ me_wf N M0 ∧ va_P D classes (me_W ad ca M0) s.heap ∧ va_D A (me_W ad ca M0) ∧ N = N0 ∧ ad = ad0 ∧ j0 < N 0 := ⟨ad0, N0, fun _ _ _ => rfl, hok, hwf, hP, hD, rfl, rfl, hj0⟩
  have hl : lv_has ls 6 [(0, .ref (ad 0 j0)), (1, .int x1), (2, .int x2), (3, .int x3), (4, .int x4), (5, .int x5)] := by rw [had9]; exact hl
  have hcs : W p l e (rm_G_feed N0) s m [.ref (ad0 0 j0), .int x1, .int x2, .int x3, .int x4, .int x5].toArray below meth c s.heap [] (me_cN N - me_cN N0) (me_sN N - me_sN N0) (MQ below (q_G_feed D ad0 ca N0 MZ RZ A) [.ref (ad0 0 j0), .int x1, .int x2, .int x3, .int x4, .int x5].toArray s (me_cN (mN MZ) - me_cN N0) (me_sN (mN MZ) - me_sN N0) A) (F0 m 0 ls []) := by
    clear had9
    refine lv_aload_n hx hb d_G_feed_0 rfl (lv_at hl 0 rfl) ?_
    refine g_G_1 hx hb hts hown hK hP hwf hj0 (hts _ u_694) d_G_feed_1 ?_
    refine lv_bipush (v := 20) hx hb d_G_feed_4 (by decide) ?_
    refine lv_iadd hx hb d_G_feed_6 ?_
    refine lv_ldc hx hb hown (hts _ u_740) d_G_feed_7 ?_
    refine lv_icmp_le (tgt := 14) hx hb d_G_feed_9 (by decide) (fun c6 => ?_) (fun c6 => ?_)
    · have h := if_t c6 h
      refine lv_aload_n hx hb d_G_feed_14 rfl (lv_at hl 0 rfl) ?_
      refine g_G_1 hx hb hts hown hK hP hwf hj0 (hts _ u_694) d_G_feed_15 ?_
      refine lv_bipush (v := 20) hx hb d_G_feed_18 (by decide) ?_
      refine lv_iadd hx hb d_G_feed_20 ?_
      refine lv_aload_n hx hb d_G_feed_21 rfl (lv_at hl 0 rfl) ?_
      refine g_G_0 hx hb hts hown hK hP hwf hj0 (hts _ u_693) d_G_feed_22 ?_
      obtain ⟨j7, e8, h⟩ := bd_ob h
      have hj7 : j7 < N 14 := (hwf.2.1 0 j0 0 _ e8 (by decide) hj0)
      refine me_opt (j := j7) e8 ?_
      refine me_alen (k := 14) hx hb hK hP hwf hj7 (by decide) (by decide) rfl d_G_feed_25 ?_
      refine lv_icmp_le (tgt := 52) hx hb d_G_feed_26 (by decide) (fun c9 => ?_) (fun c9 => ?_)
      · have h := if_t c9 h
        exact b_52 ad N M0 _ _ _ h hwf hok hext0 hP hD hS (lv_sub hl [0, 1, 2, 3, 4, 5] rfl)
      have h := if_f c9 h
      refine lv_aload_n hx hb d_G_feed_29 rfl (lv_at hl 0 rfl) ?_
      refine lv_aload_n hx hb d_G_feed_30 rfl (lv_at hl 0 rfl) ?_
      refine g_G_0 hx hb hts hown hK hP hwf hj0 (hts _ u_693) d_G_feed_31 ?_
      refine me_opt (j := j7) e8 ?_
      refine lv_iconst (v := 2) hx hb d_G_feed_34 (by decide) ?_
      refine lv_aload_n hx hb d_G_feed_35 rfl (lv_at hl 0 rfl) ?_
      refine g_G_0 hx hb hts hown hK hP hwf hj0 (hts _ u_693) d_G_feed_36 ?_
      refine me_opt (j := j7) e8 ?_
      refine me_alen (k := 14) hx hb hK hP hwf hj7 (by decide) (by decide) rfl d_G_feed_39 ?_
      refine lv_imul hx hb d_G_feed_40 ?_
      refine lv_ldc hx hb hown (hts _ u_740) d_G_feed_41 ?_
      refine al_mmin hok (by rfl) (by rfl) hx hb (hml.trans hl.1.symm) hown (hts _ u_741) (hts _ u_742) (hts _ u_193) (hts _ u_743) (Nat.le_of_ble_eq_true rfl) (Nat.le_of_ble_eq_true rfl)  d_G_feed_43 ?_
      refine fg_topi (y := jimin (2 * (Int32.ofNat (mZ M0 14 j7))) (65536 : Int32)) rfl ?_
      obtain ⟨M10, r11, eM10, h⟩ := b2_ob h
      refine al_thenr (k := 14) (M1 := M10) (al_runS (As := [.ref (ad 14 j7), .int (jimin (2 * (Int32.ofNat (mZ M0 14 j7))) (65536 : Int32))]) (rest := [.ref (ad 0 j0)]) ⟨hx, hb, hml, hown, hts⟩ (c_Arrays_copyOf l D ad ca N M0 M10 r11 j7 (jimin (2 * (Int32.ofNat (mZ M0 14 j7))) (65536 : Int32)) eM10 hwf ⟨hok.2.2.1, hok.2.2.2.1⟩ hj7 _) (by show fg_nm y_Arrays_copyOf 2; decide +kernel) u_744 u_745 u_194 u_746 ⟨Nat.le_of_ble_eq_true rfl, Nat.le_of_ble_eq_true rfl⟩ hX hz hK hP hD hS hA rfl hl.1 (Nat.le_of_ble_eq_true rfl) d_G_feed_46 (al_g hok)) hP hD hok hK hS hA (fun ad N H locs hext hNN hwf hok1 heN hq9 hP hD hS => ?_)
      have hr11 : r11 < N 14 := by rw [← heN]; exact hq9
      have hext0 := al_ext hext hext0 hok
      have hok := hok1
      have hl : lv_has ls 6 [(0, .ref (ad 0 j0)), (1, .int x1), (2, .int x2), (3, .int x3), (4, .int x4), (5, .int x5)] := by rw [hext 0 j0 hj0]; exact hl
      refine W.eq (g2 := F0 m 49 ls [.ref (ad 14 r11), .ref (ad 0 j0)]) (by rw [hext 0 j0 hj0]) ?_
      have hj0 : j0 < N 0 := Nat.lt_of_lt_of_le hj0 (hNN 0)
      obtain ⟨M12, eM12, h⟩ := st_ob h
      refine p_G_0 eM12 hx hb hts hown hK hP hD hwf hS hj0 hr11 (hts _ u_693) d_G_feed_49 (fun H locs hP hD hwf hS => ?_)
      exact b_52 ad N M12 _ _ _ h hwf hok hext0 hP hD hS (lv_sub hl [0, 1, 2, 3, 4, 5] rfl)
    have h := if_f c6 h
    refine lv_iconst (v := 0) hx hb d_G_feed_12 (by decide) ?_
    exact al_retz h (by decide) hx hb hr hlocks hwf hok hext0 hP hK hD hS d_G_feed_13
  rw [hN9] at hcs
  exact hcs
theorem d_Store_init_76 : decode prog_12_method_1_code 76 = .ok (.iload 5, 2) := by decide +kernel
theorem d_Store_init_78 : decode prog_12_method_1_code 78 = .ok (.iload 4, 2) := by decide +kernel
theorem d_Store_init_80 : decode prog_12_method_1_code 80 = .ok (.if_icmp .ge 28, 3) := by decide +kernel
theorem d_Store_init_108 : decode prog_12_method_1_code 108 = .ok (.return_, 1) := by decide +kernel
theorem d_Store_init_83 : decode prog_12_method_1_code 83 = .ok (.aload_n 0, 1) := by decide +kernel
theorem d_Store_init_84 : decode prog_12_method_1_code 84 = .ok (.getfield 32, 3) := by decide +kernel
theorem u_917 : Cond.fieldLink "FilterGuard$Store" 32 "FilterGuard$Store" "isThere" "[Z" ∈ fg_g := fg_in (List.mem_of_getElem? (i := 917) (by decide +kernel)) rfl
theorem g_Store_6 {p : Program} {l : Launch} {e : Env} {R : Room} {s : Jvm.State} {m : MethodId} {args : Array Value} {below : List Frame} {meth : Method} {c : Code} {H : Heap} {locs : List Loc} {cells slots : Nat} {Q : Jvm.State → Prop} {cc : ByteArray} {pc : Nat} {ls : Array Slot} {rest : List Value} {D : va_G} {ad : Nat → Nat → Nat} {ca : Nat → ClassId} {M : me_M} {N : Nat → Nat} {own : String} {index j : Nat} (hexec : p.tables.exec = Jvm.exec) (hb : c.code = cc) (hts : ∀ w ∈ fg_g, w.before args s = true) (hown : s.vm.findClass own = some m.cls) (hK : va_K D classes (me_T ca) s) (hP : va_P D classes (me_W ad ca M) H) (hwf : me_wf N M) (hj : j < N 12) (hlink : (Cond.fieldLink own index "FilterGuard$Store" "isThere" "[Z").before args s = true) (hdg : decode cc pc = .ok (.getfield index, 3)) (kk : W p l e R s m args below meth c H locs cells slots Q (F0 m (pc + 3) ls (va_rf ((mR M 12 j 6).map (ad 15)) :: rest))) : W p l e R s m args below meth c H locs cells slots Q (F0 m pc ls (.ref (ad 12 j) :: rest)) := me_get (k := 12) (f := 6) (C := "FilterGuard$Store") (T := F_Store) (Nf := 7) hexec hb hts i_Store hown hK hP hwf hj (by decide) rfl (by decide) (by decide) hlink (fun _ h9 => h9) hdg kk
theorem d_Store_init_87 : decode prog_12_method_1_code 87 = .ok (.iload 5, 2) := by decide +kernel
theorem d_Store_init_89 : decode prog_12_method_1_code 89 = .ok (.aload_n 0, 1) := by decide +kernel
theorem d_Store_init_90 : decode prog_12_method_1_code 90 = .ok (.getfield 11, 3) := by decide +kernel
theorem u_900 : Cond.fieldLink "FilterGuard$Store" 11 "FilterGuard$Store" "isTable" "Z" ∈ fg_g := fg_in (List.mem_of_getElem? (i := 900) (by decide +kernel)) rfl
theorem g_Store_0 {p : Program} {l : Launch} {e : Env} {R : Room} {s : Jvm.State} {m : MethodId} {args : Array Value} {below : List Frame} {meth : Method} {c : Code} {H : Heap} {locs : List Loc} {cells slots : Nat} {Q : Jvm.State → Prop} {cc : ByteArray} {pc : Nat} {ls : Array Slot} {rest : List Value} {D : va_G} {ad : Nat → Nat → Nat} {ca : Nat → ClassId} {M : me_M} {N : Nat → Nat} {own : String} {index j : Nat} (hexec : p.tables.exec = Jvm.exec) (hb : c.code = cc) (hts : ∀ w ∈ fg_g, w.before args s = true) (hown : s.vm.findClass own = some m.cls) (hK : va_K D classes (me_T ca) s) (hP : va_P D classes (me_W ad ca M) H) (hwf : me_wf N M) (hj : j < N 12) (hlink : (Cond.fieldLink own index "FilterGuard$Store" "isTable" "Z").before args s = true) (hdg : decode cc pc = .ok (.getfield index, 3)) (kk : W p l e R s m args below meth c H locs cells slots Q (F0 m (pc + 3) ls (.int (mI M 12 j 0) :: rest))) : W p l e R s m args below meth c H locs cells slots Q (F0 m pc ls (.ref (ad 12 j) :: rest)) := me_get (k := 12) (f := 0) (C := "FilterGuard$Store") (T := F_Store) (Nf := 7) hexec hb hts i_Store hown hK hP hwf hj (by decide) rfl (by decide) (by decide) hlink (fun _ h9 => h9) hdg kk
theorem d_Store_init_93 : decode prog_12_method_1_code 93 = .ok (.ifCond .ne 7, 3) := by decide +kernel
theorem d_Store_init_100 : decode prog_12_method_1_code 100 = .ok (.iconst 0, 1) := by decide +kernel
theorem d_Store_init_101 : decode prog_12_method_1_code 101 = .ok (.bastore, 1) := by decide +kernel
theorem d_Store_init_102 : decode prog_12_method_1_code 102 = .ok (.iinc 5 1, 3) := by decide +kernel
theorem d_Store_init_105 : decode prog_12_method_1_code 105 = .ok (.goto (-29), 3) := by decide +kernel
theorem d_Store_init_96 : decode prog_12_method_1_code 96 = .ok (.iconst 1, 1) := by decide +kernel
theorem d_Store_init_97 : decode prog_12_method_1_code 97 = .ok (.goto 4, 3) := by decide +kernel
theorem d_Store_init_50 : decode prog_12_method_1_code 50 = .ok (.newarray .byte, 2) := by decide +kernel
theorem d_Store_init_52 : decode prog_12_method_1_code 52 = .ok (.putfield 25, 3) := by decide +kernel
theorem u_914 : Cond.fieldLink "FilterGuard$Store" 25 "FilterGuard$Store" "keys" "[B" ∈ fg_g := fg_in (List.mem_of_getElem? (i := 914) (by decide +kernel)) rfl
theorem P_Store_4 {p : Program} {l : Launch} {e : Env} {R : Room} {s : Jvm.State} {m : MethodId} {args : Array Value} {below : List Frame} {meth : Method} {c : Code} {H : Heap} {locs : List Loc} {cells slots : Nat} {Q : Jvm.State → Prop} {cc : ByteArray} {pc : Nat} {ls : Array Slot} {rest : List Value} {D : va_G} {A : Nat → Prop} {H0 : Heap} {ad : Nat → Nat → Nat} {ca : Nat → ClassId} {M M1 : me_M} {N : Nat → Nat} {index j : Nat} {v : Nat} (he : M1 = wR M 12 j 4 (some v)) (hexec : p.tables.exec = Jvm.exec) (hb : c.code = cc) (hts : ∀ w ∈ fg_g, w.before args s = true) (hown : s.vm.findClass "FilterGuard$Store" = some m.cls) (hK : va_K D classes (me_T ca) s) (hP : va_P D classes (me_W ad ca M) H) (hD : va_D A (me_W ad ca M)) (hwf : me_wf N M) (hS : va_S A H0 H locs) (hj : j < N 12) (hv : v < N 14) (hin2 : meth.name = "<init>") (hlink : (Cond.fieldLink "FilterGuard$Store" index "FilterGuard$Store" "keys" "[B").before args s = true) (hdg : decode cc pc = .ok (.putfield index, 3)) (kk : ∀ (H1 : Heap) (locs1 : List Loc), va_P D classes (me_W ad ca M1) H1 → va_D A (me_W ad ca M1) → me_wf N M1 → va_S A H0 H1 locs1 → W p l e R s m args below meth c H1 locs1 cells slots Q (F0 m (pc + 3) ls rest)) : W p l e R s m args below meth c H locs cells slots Q (F0 m pc ls (.ref (ad 14 v) :: .ref (ad 12 j) :: rest)) := by
  subst he
  exact me_putF (M1 := wR M 12 j 4 (some v)) (k := 12) (f := 4) (C := "FilterGuard$Store") (T := F_Store) (Nf := 7) hexec hb hts i_Store t_Store t_Store_ok n_Store hown hK hP hD hwf hS hj (by decide) rfl (by decide) (by decide) hlink (fun _ h9 => h9) rfl hin2 rfl rfl rfl rfl (fun a b h => me_wRE h) (me_fRw (v := some v) (by decide) (by decide)) hdg (fun H1 locs1 a1 a2 a3 => kk H1 locs1 a1 a2 (me_wfR hwf (fun t z => by cases z; exact hv)) a3)
theorem d_Store_init_55 : decode prog_12_method_1_code 55 = .ok (.aload_n 0, 1) := by decide +kernel
theorem d_Store_init_56 : decode prog_12_method_1_code 56 = .ok (.iload 4, 2) := by decide +kernel
theorem d_Store_init_58 : decode prog_12_method_1_code 58 = .ok (.iload_n 3, 1) := by decide +kernel
theorem d_Store_init_59 : decode prog_12_method_1_code 59 = .ok (.imul, 1) := by decide +kernel
theorem d_Store_init_60 : decode prog_12_method_1_code 60 = .ok (.newarray .byte, 2) := by decide +kernel
theorem d_Store_init_62 : decode prog_12_method_1_code 62 = .ok (.putfield 29, 3) := by decide +kernel
theorem u_915 : Cond.fieldLink "FilterGuard$Store" 29 "FilterGuard$Store" "values" "[B" ∈ fg_g := fg_in (List.mem_of_getElem? (i := 915) (by decide +kernel)) rfl
theorem P_Store_5 {p : Program} {l : Launch} {e : Env} {R : Room} {s : Jvm.State} {m : MethodId} {args : Array Value} {below : List Frame} {meth : Method} {c : Code} {H : Heap} {locs : List Loc} {cells slots : Nat} {Q : Jvm.State → Prop} {cc : ByteArray} {pc : Nat} {ls : Array Slot} {rest : List Value} {D : va_G} {A : Nat → Prop} {H0 : Heap} {ad : Nat → Nat → Nat} {ca : Nat → ClassId} {M M1 : me_M} {N : Nat → Nat} {index j : Nat} {v : Nat} (he : M1 = wR M 12 j 5 (some v)) (hexec : p.tables.exec = Jvm.exec) (hb : c.code = cc) (hts : ∀ w ∈ fg_g, w.before args s = true) (hown : s.vm.findClass "FilterGuard$Store" = some m.cls) (hK : va_K D classes (me_T ca) s) (hP : va_P D classes (me_W ad ca M) H) (hD : va_D A (me_W ad ca M)) (hwf : me_wf N M) (hS : va_S A H0 H locs) (hj : j < N 12) (hv : v < N 14) (hin2 : meth.name = "<init>") (hlink : (Cond.fieldLink "FilterGuard$Store" index "FilterGuard$Store" "values" "[B").before args s = true) (hdg : decode cc pc = .ok (.putfield index, 3)) (kk : ∀ (H1 : Heap) (locs1 : List Loc), va_P D classes (me_W ad ca M1) H1 → va_D A (me_W ad ca M1) → me_wf N M1 → va_S A H0 H1 locs1 → W p l e R s m args below meth c H1 locs1 cells slots Q (F0 m (pc + 3) ls rest)) : W p l e R s m args below meth c H locs cells slots Q (F0 m pc ls (.ref (ad 14 v) :: .ref (ad 12 j) :: rest)) := by
  subst he
  exact me_putF (M1 := wR M 12 j 5 (some v)) (k := 12) (f := 5) (C := "FilterGuard$Store") (T := F_Store) (Nf := 7) hexec hb hts i_Store t_Store t_Store_ok n_Store hown hK hP hD hwf hS hj (by decide) rfl (by decide) (by decide) hlink (fun _ h9 => h9) rfl hin2 rfl rfl rfl rfl (fun a b h => me_wRE h) (me_fRw (v := some v) (by decide) (by decide)) hdg (fun H1 locs1 a1 a2 a3 => kk H1 locs1 a1 a2 (me_wfR hwf (fun t z => by cases z; exact hv)) a3)
theorem d_Store_init_65 : decode prog_12_method_1_code 65 = .ok (.aload_n 0, 1) := by decide +kernel
theorem d_Store_init_66 : decode prog_12_method_1_code 66 = .ok (.iload 4, 2) := by decide +kernel
theorem d_Store_init_68 : decode prog_12_method_1_code 68 = .ok (.newarray .boolean, 2) := by decide +kernel
theorem d_Store_init_70 : decode prog_12_method_1_code 70 = .ok (.putfield 32, 3) := by decide +kernel
theorem P_Store_6 {p : Program} {l : Launch} {e : Env} {R : Room} {s : Jvm.State} {m : MethodId} {args : Array Value} {below : List Frame} {meth : Method} {c : Code} {H : Heap} {locs : List Loc} {cells slots : Nat} {Q : Jvm.State → Prop} {cc : ByteArray} {pc : Nat} {ls : Array Slot} {rest : List Value} {D : va_G} {A : Nat → Prop} {H0 : Heap} {ad : Nat → Nat → Nat} {ca : Nat → ClassId} {M M1 : me_M} {N : Nat → Nat} {index j : Nat} {v : Nat} (he : M1 = wR M 12 j 6 (some v)) (hexec : p.tables.exec = Jvm.exec) (hb : c.code = cc) (hts : ∀ w ∈ fg_g, w.before args s = true) (hown : s.vm.findClass "FilterGuard$Store" = some m.cls) (hK : va_K D classes (me_T ca) s) (hP : va_P D classes (me_W ad ca M) H) (hD : va_D A (me_W ad ca M)) (hwf : me_wf N M) (hS : va_S A H0 H locs) (hj : j < N 12) (hv : v < N 15) (hin2 : meth.name = "<init>") (hlink : (Cond.fieldLink "FilterGuard$Store" index "FilterGuard$Store" "isThere" "[Z").before args s = true) (hdg : decode cc pc = .ok (.putfield index, 3)) (kk : ∀ (H1 : Heap) (locs1 : List Loc), va_P D classes (me_W ad ca M1) H1 → va_D A (me_W ad ca M1) → me_wf N M1 → va_S A H0 H1 locs1 → W p l e R s m args below meth c H1 locs1 cells slots Q (F0 m (pc + 3) ls rest)) : W p l e R s m args below meth c H locs cells slots Q (F0 m pc ls (.ref (ad 15 v) :: .ref (ad 12 j) :: rest)) := by
  subst he
  exact me_putF (M1 := wR M 12 j 6 (some v)) (k := 12) (f := 6) (C := "FilterGuard$Store") (T := F_Store) (Nf := 7) hexec hb hts i_Store t_Store t_Store_ok n_Store hown hK hP hD hwf hS hj (by decide) rfl (by decide) (by decide) hlink (fun _ h9 => h9) rfl hin2 rfl rfl rfl rfl (fun a b h => me_wRE h) (me_fRw (v := some v) (by decide) (by decide)) hdg (fun H1 locs1 a1 a2 a3 => kk H1 locs1 a1 a2 (me_wfR hwf (fun t z => by cases z; exact hv)) a3)
theorem d_Store_init_73 : decode prog_12_method_1_code 73 = .ok (.iconst 0, 1) := by decide +kernel
theorem d_Store_init_74 : decode prog_12_method_1_code 74 = .ok (.istore 5, 2) := by decide +kernel
theorem d_Store_init_15 : decode prog_12_method_1_code 15 = .ok (.putfield 11, 3) := by decide +kernel
theorem P_Store_0 {p : Program} {l : Launch} {e : Env} {R : Room} {s : Jvm.State} {m : MethodId} {args : Array Value} {below : List Frame} {meth : Method} {c : Code} {H : Heap} {locs : List Loc} {cells slots : Nat} {Q : Jvm.State → Prop} {cc : ByteArray} {pc : Nat} {ls : Array Slot} {rest : List Value} {D : va_G} {A : Nat → Prop} {H0 : Heap} {ad : Nat → Nat → Nat} {ca : Nat → ClassId} {M M1 : me_M} {N : Nat → Nat} {index j : Nat} {v : Int32} (he : M1 = wI M 12 j 0 v) (hexec : p.tables.exec = Jvm.exec) (hb : c.code = cc) (hts : ∀ w ∈ fg_g, w.before args s = true) (hown : s.vm.findClass "FilterGuard$Store" = some m.cls) (hK : va_K D classes (me_T ca) s) (hP : va_P D classes (me_W ad ca M) H) (hD : va_D A (me_W ad ca M)) (hwf : me_wf N M) (hS : va_S A H0 H locs) (hj : j < N 12) (hv : v = 1 ∨ v = 0) (hin2 : meth.name = "<init>") (hlink : (Cond.fieldLink "FilterGuard$Store" index "FilterGuard$Store" "isTable" "Z").before args s = true) (hdg : decode cc pc = .ok (.putfield index, 3)) (kk : ∀ (H1 : Heap) (locs1 : List Loc), va_P D classes (me_W ad ca M1) H1 → va_D A (me_W ad ca M1) → me_wf N M1 → va_S A H0 H1 locs1 → W p l e R s m args below meth c H1 locs1 cells slots Q (F0 m (pc + 3) ls rest)) : W p l e R s m args below meth c H locs cells slots Q (F0 m pc ls (.int v :: .ref (ad 12 j) :: rest)) := by
  subst he
  exact me_putF (M1 := wI M 12 j 0 v) (k := 12) (f := 0) (C := "FilterGuard$Store") (T := F_Store) (Nf := 7) hexec hb hts i_Store t_Store t_Store_ok n_Store hown hK hP hD hwf hS hj (by decide) rfl (by decide) (by decide) hlink (fun _ h9 => h9) rfl hin2 rfl (me_nz hv) (me_fz hv) rfl (fun a b h => me_wIE h) (me_fIw (by decide) (by decide)) hdg (fun H1 locs1 a1 a2 a3 => kk H1 locs1 a1 a2 (me_wfI hwf (fun z => absurd z (by decide)) (fun _ => hv)) a3)
theorem d_Store_init_18 : decode prog_12_method_1_code 18 = .ok (.aload_n 0, 1) := by decide +kernel
theorem d_Store_init_19 : decode prog_12_method_1_code 19 = .ok (.iload_n 2, 1) := by decide +kernel
theorem d_Store_init_20 : decode prog_12_method_1_code 20 = .ok (.putfield 15, 3) := by decide +kernel
theorem u_901 : Cond.fieldLink "FilterGuard$Store" 15 "FilterGuard$Store" "keyBytes" "I" ∈ fg_g := fg_in (List.mem_of_getElem? (i := 901) (by decide +kernel)) rfl
theorem P_Store_1 {p : Program} {l : Launch} {e : Env} {R : Room} {s : Jvm.State} {m : MethodId} {args : Array Value} {below : List Frame} {meth : Method} {c : Code} {H : Heap} {locs : List Loc} {cells slots : Nat} {Q : Jvm.State → Prop} {cc : ByteArray} {pc : Nat} {ls : Array Slot} {rest : List Value} {D : va_G} {A : Nat → Prop} {H0 : Heap} {ad : Nat → Nat → Nat} {ca : Nat → ClassId} {M M1 : me_M} {N : Nat → Nat} {index j : Nat} {v : Int32} (he : M1 = wI M 12 j 1 v) (hexec : p.tables.exec = Jvm.exec) (hb : c.code = cc) (hts : ∀ w ∈ fg_g, w.before args s = true) (hown : s.vm.findClass "FilterGuard$Store" = some m.cls) (hK : va_K D classes (me_T ca) s) (hP : va_P D classes (me_W ad ca M) H) (hD : va_D A (me_W ad ca M)) (hwf : me_wf N M) (hS : va_S A H0 H locs) (hj : j < N 12) (hin2 : meth.name = "<init>") (hlink : (Cond.fieldLink "FilterGuard$Store" index "FilterGuard$Store" "keyBytes" "I").before args s = true) (hdg : decode cc pc = .ok (.putfield index, 3)) (kk : ∀ (H1 : Heap) (locs1 : List Loc), va_P D classes (me_W ad ca M1) H1 → va_D A (me_W ad ca M1) → me_wf N M1 → va_S A H0 H1 locs1 → W p l e R s m args below meth c H1 locs1 cells slots Q (F0 m (pc + 3) ls rest)) : W p l e R s m args below meth c H locs cells slots Q (F0 m pc ls (.int v :: .ref (ad 12 j) :: rest)) := by
  subst he
  exact me_putF (M1 := wI M 12 j 1 v) (k := 12) (f := 1) (C := "FilterGuard$Store") (T := F_Store) (Nf := 7) hexec hb hts i_Store t_Store t_Store_ok n_Store hown hK hP hD hwf hS hj (by decide) rfl (by decide) (by decide) hlink (fun _ h9 => h9) rfl hin2 rfl rfl rfl rfl (fun a b h => me_wIE h) (me_fIw (by decide) (by decide)) hdg (fun H1 locs1 a1 a2 a3 => kk H1 locs1 a1 a2 (me_wfI hwf (fun z => absurd z (by decide)) (fun z => absurd z (by decide))) a3)
theorem d_Store_init_23 : decode prog_12_method_1_code 23 = .ok (.aload_n 0, 1) := by decide +kernel
theorem d_Store_init_24 : decode prog_12_method_1_code 24 = .ok (.iload_n 3, 1) := by decide +kernel
theorem d_Store_init_25 : decode prog_12_method_1_code 25 = .ok (.putfield 19, 3) := by decide +kernel
theorem u_906 : Cond.fieldLink "FilterGuard$Store" 19 "FilterGuard$Store" "valueBytes" "I" ∈ fg_g := fg_in (List.mem_of_getElem? (i := 906) (by decide +kernel)) rfl
theorem P_Store_2 {p : Program} {l : Launch} {e : Env} {R : Room} {s : Jvm.State} {m : MethodId} {args : Array Value} {below : List Frame} {meth : Method} {c : Code} {H : Heap} {locs : List Loc} {cells slots : Nat} {Q : Jvm.State → Prop} {cc : ByteArray} {pc : Nat} {ls : Array Slot} {rest : List Value} {D : va_G} {A : Nat → Prop} {H0 : Heap} {ad : Nat → Nat → Nat} {ca : Nat → ClassId} {M M1 : me_M} {N : Nat → Nat} {index j : Nat} {v : Int32} (he : M1 = wI M 12 j 2 v) (hexec : p.tables.exec = Jvm.exec) (hb : c.code = cc) (hts : ∀ w ∈ fg_g, w.before args s = true) (hown : s.vm.findClass "FilterGuard$Store" = some m.cls) (hK : va_K D classes (me_T ca) s) (hP : va_P D classes (me_W ad ca M) H) (hD : va_D A (me_W ad ca M)) (hwf : me_wf N M) (hS : va_S A H0 H locs) (hj : j < N 12) (hin2 : meth.name = "<init>") (hlink : (Cond.fieldLink "FilterGuard$Store" index "FilterGuard$Store" "valueBytes" "I").before args s = true) (hdg : decode cc pc = .ok (.putfield index, 3)) (kk : ∀ (H1 : Heap) (locs1 : List Loc), va_P D classes (me_W ad ca M1) H1 → va_D A (me_W ad ca M1) → me_wf N M1 → va_S A H0 H1 locs1 → W p l e R s m args below meth c H1 locs1 cells slots Q (F0 m (pc + 3) ls rest)) : W p l e R s m args below meth c H locs cells slots Q (F0 m pc ls (.int v :: .ref (ad 12 j) :: rest)) := by
  subst he
  exact me_putF (M1 := wI M 12 j 2 v) (k := 12) (f := 2) (C := "FilterGuard$Store") (T := F_Store) (Nf := 7) hexec hb hts i_Store t_Store t_Store_ok n_Store hown hK hP hD hwf hS hj (by decide) rfl (by decide) (by decide) hlink (fun _ h9 => h9) rfl hin2 rfl rfl rfl rfl (fun a b h => me_wIE h) (me_fIw (by decide) (by decide)) hdg (fun H1 locs1 a1 a2 a3 => kk H1 locs1 a1 a2 (me_wfI hwf (fun z => absurd z (by decide)) (fun z => absurd z (by decide))) a3)
theorem d_Store_init_28 : decode prog_12_method_1_code 28 = .ok (.aload_n 0, 1) := by decide +kernel
theorem d_Store_init_29 : decode prog_12_method_1_code 29 = .ok (.iload 4, 2) := by decide +kernel
theorem d_Store_init_31 : decode prog_12_method_1_code 31 = .ok (.putfield 22, 3) := by decide +kernel
theorem u_911 : Cond.fieldLink "FilterGuard$Store" 22 "FilterGuard$Store" "entries" "I" ∈ fg_g := fg_in (List.mem_of_getElem? (i := 911) (by decide +kernel)) rfl
theorem P_Store_3 {p : Program} {l : Launch} {e : Env} {R : Room} {s : Jvm.State} {m : MethodId} {args : Array Value} {below : List Frame} {meth : Method} {c : Code} {H : Heap} {locs : List Loc} {cells slots : Nat} {Q : Jvm.State → Prop} {cc : ByteArray} {pc : Nat} {ls : Array Slot} {rest : List Value} {D : va_G} {A : Nat → Prop} {H0 : Heap} {ad : Nat → Nat → Nat} {ca : Nat → ClassId} {M M1 : me_M} {N : Nat → Nat} {index j : Nat} {v : Int32} (he : M1 = wI M 12 j 3 v) (hexec : p.tables.exec = Jvm.exec) (hb : c.code = cc) (hts : ∀ w ∈ fg_g, w.before args s = true) (hown : s.vm.findClass "FilterGuard$Store" = some m.cls) (hK : va_K D classes (me_T ca) s) (hP : va_P D classes (me_W ad ca M) H) (hD : va_D A (me_W ad ca M)) (hwf : me_wf N M) (hS : va_S A H0 H locs) (hj : j < N 12) (hin2 : meth.name = "<init>") (hlink : (Cond.fieldLink "FilterGuard$Store" index "FilterGuard$Store" "entries" "I").before args s = true) (hdg : decode cc pc = .ok (.putfield index, 3)) (kk : ∀ (H1 : Heap) (locs1 : List Loc), va_P D classes (me_W ad ca M1) H1 → va_D A (me_W ad ca M1) → me_wf N M1 → va_S A H0 H1 locs1 → W p l e R s m args below meth c H1 locs1 cells slots Q (F0 m (pc + 3) ls rest)) : W p l e R s m args below meth c H locs cells slots Q (F0 m pc ls (.int v :: .ref (ad 12 j) :: rest)) := by
  subst he
  exact me_putF (M1 := wI M 12 j 3 v) (k := 12) (f := 3) (C := "FilterGuard$Store") (T := F_Store) (Nf := 7) hexec hb hts i_Store t_Store t_Store_ok n_Store hown hK hP hD hwf hS hj (by decide) rfl (by decide) (by decide) hlink (fun _ h9 => h9) rfl hin2 rfl rfl rfl rfl (fun a b h => me_wIE h) (me_fIw (by decide) (by decide)) hdg (fun H1 locs1 a1 a2 a3 => kk H1 locs1 a1 a2 (me_wfI hwf (fun z => absurd z (by decide)) (fun z => absurd z (by decide))) a3)
theorem d_Store_init_34 : decode prog_12_method_1_code 34 = .ok (.aload_n 0, 1) := by decide +kernel
theorem d_Store_init_35 : decode prog_12_method_1_code 35 = .ok (.aload_n 0, 1) := by decide +kernel
theorem d_Store_init_36 : decode prog_12_method_1_code 36 = .ok (.getfield 11, 3) := by decide +kernel
theorem d_Store_init_39 : decode prog_12_method_1_code 39 = .ok (.ifCond .eq 10, 3) := by decide +kernel
theorem d_Store_init_49 : decode prog_12_method_1_code 49 = .ok (.iconst 0, 1) := by decide +kernel
theorem d_Store_init_42 : decode prog_12_method_1_code 42 = .ok (.iload 4, 2) := by decide +kernel
theorem d_Store_init_44 : decode prog_12_method_1_code 44 = .ok (.iload_n 2, 1) := by decide +kernel
theorem d_Store_init_45 : decode prog_12_method_1_code 45 = .ok (.imul, 1) := by decide +kernel
theorem d_Store_init_46 : decode prog_12_method_1_code 46 = .ok (.goto 4, 3) := by decide +kernel
theorem d_Store_init_0 : decode prog_12_method_1_code 0 = .ok (.aload_n 0, 1) := by decide +kernel
theorem d_Store_init_1 : decode prog_12_method_1_code 1 = .ok (.invokespecial 3, 3) := by decide +kernel
theorem u_899 : Cond.methodLink "FilterGuard$Store" 3 ⟨"java/lang/Object", "<init>", "()V"⟩ ∈ fg_g := fg_in (List.mem_of_getElem? (i := 899) (by decide +kernel)) rfl
theorem d_Store_init_4 : decode prog_12_method_1_code 4 = .ok (.aload_n 0, 1) := by decide +kernel
theorem d_Store_init_5 : decode prog_12_method_1_code 5 = .ok (.iload_n 1, 1) := by decide +kernel
theorem d_Store_init_6 : decode prog_12_method_1_code 6 = .ok (.iconst 1, 1) := by decide +kernel
theorem d_Store_init_7 : decode prog_12_method_1_code 7 = .ok (.if_icmp .ne 7, 3) := by decide +kernel
theorem d_Store_init_14 : decode prog_12_method_1_code 14 = .ok (.iconst 0, 1) := by decide +kernel
theorem d_Store_init_10 : decode prog_12_method_1_code 10 = .ok (.iconst 1, 1) := by decide +kernel
theorem d_Store_init_11 : decode prog_12_method_1_code 11 = .ok (.goto 4, 3) := by decide +kernel
abbrev y_Store_init : MethodName := ⟨"FilterGuard$Store", "<init>", "(IIII)V"⟩
def rm_Store_init (N0 : Nat → Nat) : Room := { frames := 1, cells := me_CL - me_cN N0, slots := me_SL - me_sN N0, locals := 30 }
abbrev q_Store_init (D : va_G) (ad0 : Nat → Nat → Nat) (ca : Nat → ClassId) (N0 : Nat → Nat) (MZ : me_M) (A : Nat → Prop) : Array Value → Jvm.State → Outcome → Jvm.State → Prop := va_Qv (fun (u : Nat → Nat → Nat) => al_P ad0 N0 MZ u ∧ True) (fg_B D A (fun u => me_W u ca MZ) (fun _ => [])) A
set_option maxHeartbeats 4000000 in
set_option maxRecDepth 100000 in
theorem c_Store_init (l : Launch) (D : va_G) (ad0 : Nat → Nat → Nat) (ca : Nat → ClassId) (N0 : Nat → Nat) (M0 MZ : me_M) (j0 : Nat) (x1 : Int32) (x2 : Int32) (x3 : Int32) (x4 : Int32) (h : f_Store_init M0 j0 x1 x2 x3 x4 = (some MZ)) (hwf : me_wf N0 M0) (hcl : me_cN N0 ≤ me_CL ∧ me_sN N0 ≤ me_SL) (hj0 : j0 < N0 12) (sz : Nat) : Met l y_Store_init (fg_w y_Store_init prog_12_method_1_code 6 none) (rm_Store_init N0) (va_Pc [.ref (ad0 12 j0), .int x1, .int x2, .int x3, .int x4] (fz_P D (me_T ca) (me_W ad0 ca M0) sz)) (q_Store_init D ad0 ca N0 MZ (va_A (me_W ad0 ca M0) sz)) (me_cN (mN MZ) - me_cN N0) (me_sN (mN MZ) - me_sN N0) (va_A (me_W ad0 ca M0) sz) := by
  refine fz_enter (fun A => q_Store_init D ad0 ca N0 MZ A) (by decide +kernel) (Nat.le_of_ble_eq_true rfl) ?_
  intro p e s m below meth c ls A hx hb hml hown hts hr hlocks hin hP hK hD hS hA hX hl hz
  refine W.widen (k := me_cN N0 - me_cN N0) (n := me_sN N0 - me_sN N0) (Nat.zero_le _) (Nat.zero_le _) ?_
  unfold f_Store_init at h
  have hok : me_ok N0 N0 := me_ok.rf hcl
  have b_76 : ∀ (fu : Nat), ∀ (ad : Nat → Nat → Nat) (N : Nat → Nat) (M : me_M) (y5 : Int32) (H : Heap) (locs : List Loc) (ls : Array Slot), f_Store_init_l76 j0 x4 fu M y5 = (some MZ) → me_wf N M → me_ok N0 N → (∀ a b, b < N0 a → ad a b = ad0 a b) → va_P D classes (me_W ad ca M) H → va_D A (me_W ad ca M) → va_S A s.heap H locs → lv_has ls 6 [(0, .ref (ad 12 j0)), (4, .int x4), (5, .int y5)] → W p l e (rm_Store_init N0) s m [.ref (ad0 12 j0), .int x1, .int x2, .int x3, .int x4].toArray below meth c H locs (me_cN N - me_cN N0) (me_sN N - me_sN N0) (MQ below (q_Store_init D ad0 ca N0 MZ A) [.ref (ad0 12 j0), .int x1, .int x2, .int x3, .int x4].toArray s (me_cN (mN MZ) - me_cN N0) (me_sN (mN MZ) - me_sN N0) A) (F0 m 76 ls []) := by
    intro fu
    induction fu with
    | zero =>
      intro ad N M y5 H locs ls h hwf hok hext0 hP hD hS hl
      cases h
    | succ fu ih =>
      intro ad N M y5 H locs ls h hwf hok hext0 hP hD hS hl
      unfold f_Store_init_l76 at h
      have hj0 : j0 < N 12 := Nat.lt_of_lt_of_le hj0 (hok.2.2.2.2 12)
      refine lv_iload hx hb d_Store_init_76 (lv_at hl 2 rfl) ?_
      refine lv_iload hx hb d_Store_init_78 (lv_at hl 1 rfl) ?_
      refine lv_icmp_ge (tgt := 108) hx hb d_Store_init_80 (by decide) (fun c1 => ?_) (fun c1 => ?_)
      · have h := if_t c1 h
        exact al_retv h hx hb hr hlocks hwf hok hext0 hP hK hD hS d_Store_init_108
      have h := if_f c1 h
      refine lv_aload_n hx hb d_Store_init_83 rfl (lv_at hl 0 rfl) ?_
      refine g_Store_6 hx hb hts hown hK hP hwf hj0 (hts _ u_917) d_Store_init_84 ?_
      obtain ⟨j2, e3, h⟩ := bd_ob h
      have hj2 : j2 < N 15 := (hwf.2.1 12 j0 6 _ e3 (by decide) hj0)
      refine me_opt (j := j2) e3 ?_
      refine lv_iload hx hb d_Store_init_87 (lv_at hl 2 rfl) ?_
      refine lv_aload_n hx hb d_Store_init_89 rfl (lv_at hl 0 rfl) ?_
      refine g_Store_0 hx hb hts hown hK hP hwf hj0 (hts _ u_900) d_Store_init_90 ?_
      have z4 := (hwf.2.2.2 12 j0 0 rfl)
      refine lv_if_ne (tgt := 100) hx hb d_Store_init_93 (by decide) (fun c5 => ?_) (fun c5 => ?_)
      · have h := if_f c5 h
        refine lv_iconst (v := 0) hx hb d_Store_init_100 (by decide) ?_
        obtain ⟨g6, h⟩ := gd_ob h
        obtain ⟨M7, eM7, h⟩ := st_ob h
        refine me_zast eM7 hx hb hK hP hD hwf hS hj2 g6 d_Store_init_101 (fun H locs hP hD hwf hS => ?_)
        refine lv_iinc (v := y5 + 1) (lv' := [(5, .int (y5 + 1)), (0, .ref (ad 12 j0)), (4, .int x4)]) hx hb d_Store_init_102 hl (k := 2) rfl (by rfl) (by decide) rfl (fun ls hl => ?_)
        refine lv_goto (tgt := 76) hx hb d_Store_init_105 (by decide) ?_
        exact ih ad N M7 (y5 + 1) _ _ _ h hwf hok hext0 hP hD hS (lv_sub hl [1, 2, 0] rfl)
      have h := if_t c5 h
      refine lv_iconst (v := 1) hx hb d_Store_init_96 (by decide) ?_
      refine lv_goto (tgt := 101) hx hb d_Store_init_97 (by decide) ?_
      obtain ⟨g8, h⟩ := gd_ob h
      obtain ⟨M9, eM9, h⟩ := st_ob h
      refine me_zast eM9 hx hb hK hP hD hwf hS hj2 g8 d_Store_init_101 (fun H locs hP hD hwf hS => ?_)
      refine lv_iinc (v := y5 + 1) (lv' := [(5, .int (y5 + 1)), (0, .ref (ad 12 j0)), (4, .int x4)]) hx hb d_Store_init_102 hl (k := 2) rfl (by rfl) (by decide) rfl (fun ls hl => ?_)
      refine lv_goto (tgt := 76) hx hb d_Store_init_105 (by decide) ?_
      exact ih ad N M9 (y5 + 1) _ _ _ h hwf hok hext0 hP hD hS (lv_sub hl [1, 2, 0] rfl)
  have b_50 : ∀ (ad : Nat → Nat → Nat) (N : Nat → Nat) (M : me_M) (s0 : Int32) (s1 : Nat) (H : Heap) (locs : List Loc) (ls : Array Slot), f_Store_init_b50 j0 x3 x4 M s0 s1 = (some MZ) → (s1 < N 12) → me_wf N M → me_ok N0 N → (∀ a b, b < N0 a → ad a b = ad0 a b) → va_P D classes (me_W ad ca M) H → va_D A (me_W ad ca M) → va_S A s.heap H locs → lv_has ls 6 [(0, .ref (ad 12 j0)), (3, .int x3), (4, .int x4)] → W p l e (rm_Store_init N0) s m [.ref (ad0 12 j0), .int x1, .int x2, .int x3, .int x4].toArray below meth c H locs (me_cN N - me_cN N0) (me_sN N - me_sN N0) (MQ below (q_Store_init D ad0 ca N0 MZ A) [.ref (ad0 12 j0), .int x1, .int x2, .int x3, .int x4].toArray s (me_cN (mN MZ) - me_cN N0) (me_sN (mN MZ) - me_sN N0) A) (F0 m 50 ls [.int s0, .ref (ad 12 s1)]) := by
    intro ad N M s0 s1 H locs ls h hs1 hwf hok hext0 hP hD hS hl
    unfold f_Store_init_b50 at h
    have hj0 : j0 < N 12 := Nat.lt_of_lt_of_le hj0 (hok.2.2.2.2 12)
    obtain ⟨g10, h⟩ := gd_ob h
    obtain ⟨M11, eM11, h⟩ := st_ob h
    refine al_newa (k := 14) (atype := .byte) (a0 := (s0.toNatClampNeg, .inl (fun _ => 0))) eM11 g10 hx hb (hts _ u_309) rfl hK hP hD hwf hok hS hA (by decide) (by decide) rfl (fun _ _ h9 => h9) (by decide) (fun _ => rfl) (fun ad1 => by rw [eM11]; exact al_ar14) rfl rfl d_Store_init_50 (fun ad N H hext hNN hn12 hwf hok1 hP hD hS => ?_)
    have hext0 := al_ext hext hext0 hok
    have hok := hok1
    have hl : lv_has ls 6 [(0, .ref (ad 12 j0)), (3, .int x3), (4, .int x4)] := by rw [hext 12 j0 hj0]; exact hl
    refine W.eq (g2 := F0 m 52 ls [.ref (ad 14 (mN M 14)), .ref (ad 12 s1)]) (by rw [hext 12 s1 hs1]) ?_
    have hj0 : j0 < N 12 := Nat.lt_of_lt_of_le hj0 (hNN 12)
    have hs1 : s1 < N 12 := Nat.lt_of_lt_of_le hs1 (hNN 12)
    obtain ⟨M13, eM13, h⟩ := st_ob h
    refine P_Store_4 eM13 hx hb hts hown hK hP hD hwf hS hs1 hn12 hin (hts _ u_914) d_Store_init_52 (fun H locs hP hD hwf hS => ?_)
    refine lv_aload_n hx hb d_Store_init_55 rfl (lv_at hl 0 rfl) ?_
    refine lv_iload hx hb d_Store_init_56 (lv_at hl 2 rfl) ?_
    refine lv_iload_n hx hb d_Store_init_58 rfl (lv_at hl 1 rfl) ?_
    refine lv_imul hx hb d_Store_init_59 ?_
    obtain ⟨g14, h⟩ := gd_ob h
    obtain ⟨M15, eM15, h⟩ := st_ob h
    refine al_newa (k := 14) (atype := .byte) (a0 := ((x4 * x3).toNatClampNeg, .inl (fun _ => 0))) eM15 g14 hx hb (hts _ u_309) rfl hK hP hD hwf hok hS hA (by decide) (by decide) rfl (fun _ _ h9 => h9) (by decide) (fun _ => rfl) (fun ad1 => by rw [eM15]; exact al_ar14) rfl rfl d_Store_init_60 (fun ad N H hext hNN hn16 hwf hok1 hP hD hS => ?_)
    have hext0 := al_ext hext hext0 hok
    have hok := hok1
    have hl : lv_has ls 6 [(0, .ref (ad 12 j0)), (3, .int x3), (4, .int x4)] := by rw [hext 12 j0 hj0]; exact hl
    refine W.eq (g2 := F0 m 62 ls [.ref (ad 14 (mN M13 14)), .ref (ad 12 j0)]) (by rw [hext 12 j0 hj0]) ?_
    have hj0 : j0 < N 12 := Nat.lt_of_lt_of_le hj0 (hNN 12)
    obtain ⟨M17, eM17, h⟩ := st_ob h
    refine P_Store_5 eM17 hx hb hts hown hK hP hD hwf hS hj0 hn16 hin (hts _ u_915) d_Store_init_62 (fun H locs hP hD hwf hS => ?_)
    refine lv_aload_n hx hb d_Store_init_65 rfl (lv_at hl 0 rfl) ?_
    refine lv_iload hx hb d_Store_init_66 (lv_at hl 2 rfl) ?_
    obtain ⟨g18, h⟩ := gd_ob h
    obtain ⟨M19, eM19, h⟩ := st_ob h
    refine al_newa (k := 15) (atype := .boolean) (a0 := (x4.toNatClampNeg, .inl (fun _ => 0))) eM19 g18 hx hb (hts _ u_311) rfl hK hP hD hwf hok hS hA (by decide) (by decide) rfl (fun _ _ h9 => h9) (by decide) (fun _ => rfl) (fun ad1 => by rw [eM19]; exact al_ar15) rfl rfl d_Store_init_68 (fun ad N H hext hNN hn20 hwf hok1 hP hD hS => ?_)
    have hext0 := al_ext hext hext0 hok
    have hok := hok1
    have hl : lv_has ls 6 [(0, .ref (ad 12 j0)), (3, .int x3), (4, .int x4)] := by rw [hext 12 j0 hj0]; exact hl
    refine W.eq (g2 := F0 m 70 ls [.ref (ad 15 (mN M17 15)), .ref (ad 12 j0)]) (by rw [hext 12 j0 hj0]) ?_
    have hj0 : j0 < N 12 := Nat.lt_of_lt_of_le hj0 (hNN 12)
    obtain ⟨M21, eM21, h⟩ := st_ob h
    refine P_Store_6 eM21 hx hb hts hown hK hP hD hwf hS hj0 hn20 hin (hts _ u_917) d_Store_init_70 (fun H locs hP hD hwf hS => ?_)
    refine lv_iconst (v := 0) hx hb d_Store_init_73 (by decide) ?_
    refine lv_istore (lv' := [(5, .int 0), (0, .ref (ad 12 j0)), (3, .int x3), (4, .int x4)]) hx hb d_Store_init_74 hl (by decide) rfl (fun ls hl => ?_)
    exact b_76 _ ad N M21 (0 : Int32) _ _ _ h hwf hok hext0 hP hD hS (lv_sub hl [1, 3, 0] rfl)
  have b_15 : ∀ (ad : Nat → Nat → Nat) (N : Nat → Nat) (M : me_M) (s0 : Int32) (s1 : Nat) (H : Heap) (locs : List Loc) (ls : Array Slot), f_Store_init_b15 j0 x2 x3 x4 M s0 s1 = (some MZ) → (s0 = 1 ∨ s0 = 0) → (s1 < N 12) → me_wf N M → me_ok N0 N → (∀ a b, b < N0 a → ad a b = ad0 a b) → va_P D classes (me_W ad ca M) H → va_D A (me_W ad ca M) → va_S A s.heap H locs → lv_has ls 6 [(0, .ref (ad 12 j0)), (2, .int x2), (3, .int x3), (4, .int x4)] → W p l e (rm_Store_init N0) s m [.ref (ad0 12 j0), .int x1, .int x2, .int x3, .int x4].toArray below meth c H locs (me_cN N - me_cN N0) (me_sN N - me_sN N0) (MQ below (q_Store_init D ad0 ca N0 MZ A) [.ref (ad0 12 j0), .int x1, .int x2, .int x3, .int x4].toArray s (me_cN (mN MZ) - me_cN N0) (me_sN (mN MZ) - me_sN N0) A) (F0 m 15 ls [.int s0, .ref (ad 12 s1)]) := by
    intro ad N M s0 s1 H locs ls h zs0 hs1 hwf hok hext0 hP hD hS hl
    unfold f_Store_init_b15 at h
    have hj0 : j0 < N 12 := Nat.lt_of_lt_of_le hj0 (hok.2.2.2.2 12)
    obtain ⟨M22, eM22, h⟩ := st_ob h
    refine P_Store_0 eM22 hx hb hts hown hK hP hD hwf hS hs1 zs0 hin (hts _ u_900) d_Store_init_15 (fun H locs hP hD hwf hS => ?_)
    refine lv_aload_n hx hb d_Store_init_18 rfl (lv_at hl 0 rfl) ?_
    refine lv_iload_n hx hb d_Store_init_19 rfl (lv_at hl 1 rfl) ?_
    obtain ⟨M23, eM23, h⟩ := st_ob h
    refine P_Store_1 eM23 hx hb hts hown hK hP hD hwf hS hj0 hin (hts _ u_901) d_Store_init_20 (fun H locs hP hD hwf hS => ?_)
    refine lv_aload_n hx hb d_Store_init_23 rfl (lv_at hl 0 rfl) ?_
    refine lv_iload_n hx hb d_Store_init_24 rfl (lv_at hl 2 rfl) ?_
    obtain ⟨M24, eM24, h⟩ := st_ob h
    refine P_Store_2 eM24 hx hb hts hown hK hP hD hwf hS hj0 hin (hts _ u_906) d_Store_init_25 (fun H locs hP hD hwf hS => ?_)
    refine lv_aload_n hx hb d_Store_init_28 rfl (lv_at hl 0 rfl) ?_
    refine lv_iload hx hb d_Store_init_29 (lv_at hl 3 rfl) ?_
    obtain ⟨M25, eM25, h⟩ := st_ob h
    refine P_Store_3 eM25 hx hb hts hown hK hP hD hwf hS hj0 hin (hts _ u_911) d_Store_init_31 (fun H locs hP hD hwf hS => ?_)
    refine lv_aload_n hx hb d_Store_init_34 rfl (lv_at hl 0 rfl) ?_
    refine lv_aload_n hx hb d_Store_init_35 rfl (lv_at hl 0 rfl) ?_
    refine g_Store_0 hx hb hts hown hK hP hwf hj0 (hts _ u_900) d_Store_init_36 ?_
    have z26 := (hwf.2.2.2 12 j0 0 rfl)
    refine lv_if_eq (tgt := 49) hx hb d_Store_init_39 (by decide) (fun c27 => ?_) (fun c27 => ?_)
    · have h := if_t c27 h
      refine lv_iconst (v := 0) hx hb d_Store_init_49 (by decide) ?_
      exact b_50 ad N M25 (0 : Int32) j0 _ _ _ h hj0 hwf hok hext0 hP hD hS (lv_sub hl [0, 2, 3] rfl)
    have h := if_f c27 h
    refine lv_iload hx hb d_Store_init_42 (lv_at hl 3 rfl) ?_
    refine lv_iload_n hx hb d_Store_init_44 rfl (lv_at hl 1 rfl) ?_
    refine lv_imul hx hb d_Store_init_45 ?_
    refine lv_goto (tgt := 50) hx hb d_Store_init_46 (by decide) ?_
    exact b_50 ad N M25 (x4 * x2) j0 _ _ _ h hj0 hwf hok hext0 hP hD hS (lv_sub hl [0, 2, 3] rfl)
  obtain ⟨ad, N, hext0, hok, hwf, hP, hD, hN9, had9, hj0⟩ : ∃ (ad : Nat → Nat → Nat) (N : Nat → Nat), (∀ a b, b < N0 a → ad a b = ad0 a b) ∧ me_ok N0 N ∧ me_wf N M0 ∧ va_P D classes (me_W ad ca M0) s.heap ∧ va_D A (me_W ad ca M0) ∧ N = N0 ∧ ad = ad0 ∧ j0 < N 12 := ⟨ad0, N0, fun _ _ _ => rfl, hok, hwf, hP, hD, rfl, rfl, hj0⟩
  have hl : lv_has ls 6 [(0, .ref (ad 12 j0)), (1, .int x1), (2, .int x2), (3, .int x3), (4, .int x4)] := by rw [had9]; exact hl
  have hcs : W p l e (rm_Store_init N0) s m [.ref (ad0 12 j0), .int x1, .int x2, .int x3, .int x4].toArray below meth c s.heap [] (me_cN N - me_cN N0) (me_sN N - me_sN N0) (MQ below (q_Store_init D ad0 ca N0 MZ A) [.ref (ad0 12 j0), .int x1, .int x2, .int x3, .int x4].toArray s (me_cN (mN MZ) - me_cN N0) (me_sN (mN MZ) - me_sN N0) A) (F0 m 0 ls []) := by
    clear had9
    refine lv_aload_n hx hb d_Store_init_0 rfl (lv_at hl 0 rfl) ?_
    refine W.objInit hx hb hown (hts _ u_899) (hts _ u_210) (hts _ u_211) rfl (by rw [hml]; exact hl.1) rfl d_Store_init_1 (Nat.le_of_ble_eq_true rfl) (Nat.le_of_ble_eq_true rfl) ?_
    refine W.eq (g2 := F0 m 4 ls []) rfl ?_
    refine lv_aload_n hx hb d_Store_init_4 rfl (lv_at hl 0 rfl) ?_
    refine lv_iload_n hx hb d_Store_init_5 rfl (lv_at hl 1 rfl) ?_
    refine lv_iconst (v := 1) hx hb d_Store_init_6 (by decide) ?_
    refine lv_icmp_ne (tgt := 14) hx hb d_Store_init_7 (by decide) (fun c28 => ?_) (fun c28 => ?_)
    · have h := if_f c28 h
      refine lv_iconst (v := 0) hx hb d_Store_init_14 (by decide) ?_
      exact b_15 ad N M0 (0 : Int32) j0 _ _ _ h (by decide) hj0 hwf hok hext0 hP hD hS (lv_sub hl [0, 2, 3, 4] rfl)
    have h := if_t c28 h
    refine lv_iconst (v := 1) hx hb d_Store_init_10 (by decide) ?_
    refine lv_goto (tgt := 15) hx hb d_Store_init_11 (by decide) ?_
    exact b_15 ad N M0 (1 : Int32) j0 _ _ _ h (by decide) hj0 hwf hok hext0 hP hD hS (lv_sub hl [0, 2, 3, 4] rfl)
  rw [hN9] at hcs
  exact hcs
