theorem d_M_packet_60 : decode prog_14_method_122_code 60 = .ok (.aload_n 0, 1) := by decide +kernel
theorem d_M_packet_61 : decode prog_14_method_122_code 61 = .ok (.iload_n 2, 1) := by decide +kernel
theorem d_M_packet_62 : decode prog_14_method_122_code 62 = .ok (.ifCond .eq 7, 3) := by decide +kernel
theorem d_M_packet_69 : decode prog_14_method_122_code 69 = .ok (.aload_n 0, 1) := by decide +kernel
theorem d_M_packet_70 : decode prog_14_method_122_code 70 = .ok (.getfield 622, 3) := by decide +kernel
theorem u_1775 : Cond.fieldLink "FilterGuardModel" 622 "FilterGuardModel" "packetBytes" "I" ∈ fg_g := fg_in (List.mem_of_getElem? (i := 1775) (by decide +kernel)) rfl
theorem g_M_34 {p : Program} {l : Launch} {e : Env} {R : Room} {s : Jvm.State} {m : MethodId} {args : Array Value} {below : List Frame} {meth : Method} {c : Code} {H : Heap} {locs : List Loc} {cells slots : Nat} {Q : Jvm.State → Prop} {cc : ByteArray} {pc : Nat} {ls : Array Slot} {rest : List Value} {D : va_G} {ad : Nat → Nat → Nat} {ca : Nat → ClassId} {M : me_M} {N : Nat → Nat} {own : String} {index j : Nat} (hexec : p.tables.exec = Jvm.exec) (hb : c.code = cc) (hts : ∀ w ∈ fg_g, w.before args s = true) (hown : s.vm.findClass own = some m.cls) (hK : va_K D classes (me_T ca) s) (hP : va_P D classes (me_W ad ca M) H) (hwf : me_wf N M) (hj : j < N 1) (hlink : (Cond.fieldLink own index "FilterGuardModel" "packetBytes" "I").before args s = true) (hdg : decode cc pc = .ok (.getfield index, 3)) (kk : W p l e R s m args below meth c H locs cells slots Q (F0 m (pc + 3) ls (.int (mI M 1 j 34) :: rest))) : W p l e R s m args below meth c H locs cells slots Q (F0 m pc ls (.ref (ad 1 j) :: rest)) := me_get (k := 1) (f := 34) (C := "FilterGuardModel") (T := F_M) (Nf := 75) hexec hb hts i_M hown hK hP hwf hj (by decide) rfl (by decide) (by decide) hlink (fun _ h9 => h9) hdg kk
theorem d_M_packet_73 : decode prog_14_method_122_code 73 = .ok (.putfield 622, 3) := by decide +kernel
theorem p_M_34 {p : Program} {l : Launch} {e : Env} {R : Room} {s : Jvm.State} {m : MethodId} {args : Array Value} {below : List Frame} {meth : Method} {c : Code} {H : Heap} {locs : List Loc} {cells slots : Nat} {Q : Jvm.State → Prop} {cc : ByteArray} {pc : Nat} {ls : Array Slot} {rest : List Value} {D : va_G} {A : Nat → Prop} {H0 : Heap} {ad : Nat → Nat → Nat} {ca : Nat → ClassId} {M M1 : me_M} {N : Nat → Nat} {own : String} {index j : Nat} {v : Int32} (he : M1 = wI M 1 j 34 v) (hexec : p.tables.exec = Jvm.exec) (hb : c.code = cc) (hts : ∀ w ∈ fg_g, w.before args s = true) (hown : s.vm.findClass own = some m.cls) (hK : va_K D classes (me_T ca) s) (hP : va_P D classes (me_W ad ca M) H) (hD : va_D A (me_W ad ca M)) (hwf : me_wf N M) (hS : va_S A H0 H locs) (hj : j < N 1) (hlink : (Cond.fieldLink own index "FilterGuardModel" "packetBytes" "I").before args s = true) (hdg : decode cc pc = .ok (.putfield index, 3)) (kk : ∀ (H1 : Heap) (locs1 : List Loc), va_P D classes (me_W ad ca M1) H1 → va_D A (me_W ad ca M1) → me_wf N M1 → va_S A H0 H1 locs1 → W p l e R s m args below meth c H1 locs1 cells slots Q (F0 m (pc + 3) ls rest)) : W p l e R s m args below meth c H locs cells slots Q (F0 m pc ls (.int v :: .ref (ad 1 j) :: rest)) := by
  subst he
  exact me_put (M1 := wI M 1 j 34 v) (k := 1) (f := 34) (C := "FilterGuardModel") (T := F_M) (Nf := 75) hexec hb hts i_M t_M t_M_ok n_M hown hK hP hD hwf hS hj (by decide) rfl (by decide) (by decide) hlink (fun _ h9 => h9) rfl rfl rfl rfl (fun a b h => me_wIE h) (me_fIw (by decide) (by decide)) hdg (fun H1 locs1 a1 a2 a3 => kk H1 locs1 a1 a2 (me_wfI hwf (fun z => absurd z (by decide)) (fun z => absurd z (by decide))) a3)
theorem d_M_packet_76 : decode prog_14_method_122_code 76 = .ok (.aload_n 0, 1) := by decide +kernel
theorem d_M_packet_77 : decode prog_14_method_122_code 77 = .ok (.iconst 0, 1) := by decide +kernel
theorem d_M_packet_78 : decode prog_14_method_122_code 78 = .ok (.putfield 566, 3) := by decide +kernel
theorem d_M_packet_81 : decode prog_14_method_122_code 81 = .ok (.iload_n 2, 1) := by decide +kernel
theorem d_M_packet_82 : decode prog_14_method_122_code 82 = .ok (.ireturn, 1) := by decide +kernel
theorem d_M_packet_65 : decode prog_14_method_122_code 65 = .ok (.iload_n 1, 1) := by decide +kernel
theorem d_M_packet_66 : decode prog_14_method_122_code 66 = .ok (.goto 7, 3) := by decide +kernel
theorem d_M_packet_33 : decode prog_14_method_122_code 33 = .ok (.iload_n 3, 1) := by decide +kernel
theorem d_M_packet_34 : decode prog_14_method_122_code 34 = .ok (.iload_n 1, 1) := by decide +kernel
theorem d_M_packet_35 : decode prog_14_method_122_code 35 = .ok (.if_icmp .ge 25, 3) := by decide +kernel
theorem d_M_packet_38 : decode prog_14_method_122_code 38 = .ok (.iload_n 2, 1) := by decide +kernel
theorem d_M_packet_39 : decode prog_14_method_122_code 39 = .ok (.ifCond .eq 21, 3) := by decide +kernel
theorem d_M_packet_42 : decode prog_14_method_122_code 42 = .ok (.aload_n 0, 1) := by decide +kernel
theorem d_M_packet_43 : decode prog_14_method_122_code 43 = .ok (.getfield 68, 3) := by decide +kernel
theorem g_M_35 {p : Program} {l : Launch} {e : Env} {R : Room} {s : Jvm.State} {m : MethodId} {args : Array Value} {below : List Frame} {meth : Method} {c : Code} {H : Heap} {locs : List Loc} {cells slots : Nat} {Q : Jvm.State → Prop} {cc : ByteArray} {pc : Nat} {ls : Array Slot} {rest : List Value} {D : va_G} {ad : Nat → Nat → Nat} {ca : Nat → ClassId} {M : me_M} {N : Nat → Nat} {own : String} {index j : Nat} (hexec : p.tables.exec = Jvm.exec) (hb : c.code = cc) (hts : ∀ w ∈ fg_g, w.before args s = true) (hown : s.vm.findClass own = some m.cls) (hK : va_K D classes (me_T ca) s) (hP : va_P D classes (me_W ad ca M) H) (hwf : me_wf N M) (hj : j < N 1) (hlink : (Cond.fieldLink own index "FilterGuardModel" "packet" "[B").before args s = true) (hdg : decode cc pc = .ok (.getfield index, 3)) (kk : W p l e R s m args below meth c H locs cells slots Q (F0 m (pc + 3) ls (va_rf ((mR M 1 j 35).map (ad 14)) :: rest))) : W p l e R s m args below meth c H locs cells slots Q (F0 m pc ls (.ref (ad 1 j) :: rest)) := me_get (k := 1) (f := 35) (C := "FilterGuardModel") (T := F_M) (Nf := 75) hexec hb hts i_M hown hK hP hwf hj (by decide) rfl (by decide) (by decide) hlink (fun _ h9 => h9) hdg kk
theorem d_M_packet_46 : decode prog_14_method_122_code 46 = .ok (.iload_n 3, 1) := by decide +kernel
theorem d_M_packet_47 : decode prog_14_method_122_code 47 = .ok (.aload_n 0, 1) := by decide +kernel
theorem d_M_packet_48 : decode prog_14_method_122_code 48 = .ok (.getfield 10, 3) := by decide +kernel
theorem d_M_packet_51 : decode prog_14_method_122_code 51 = .ok (.iload_n 3, 1) := by decide +kernel
theorem d_M_packet_52 : decode prog_14_method_122_code 52 = .ok (.baload, 1) := by decide +kernel
theorem d_M_packet_53 : decode prog_14_method_122_code 53 = .ok (.bastore, 1) := by decide +kernel
theorem d_M_packet_54 : decode prog_14_method_122_code 54 = .ok (.iinc 3 1, 3) := by decide +kernel
theorem d_M_packet_57 : decode prog_14_method_122_code 57 = .ok (.goto (-24), 3) := by decide +kernel
theorem d_M_packet_0 : decode prog_14_method_122_code 0 = .ok (.aload_n 0, 1) := by decide +kernel
theorem d_M_packet_1 : decode prog_14_method_122_code 1 = .ok (.iconst 0, 1) := by decide +kernel
theorem d_M_packet_2 : decode prog_14_method_122_code 2 = .ok (.putfield 152, 3) := by decide +kernel
theorem d_M_packet_5 : decode prog_14_method_122_code 5 = .ok (.iload_n 1, 1) := by decide +kernel
theorem d_M_packet_6 : decode prog_14_method_122_code 6 = .ok (.i2l, 1) := by decide +kernel
theorem d_M_packet_7 : decode prog_14_method_122_code 7 = .ok (.lconst 0, 1) := by decide +kernel
theorem d_M_packet_8 : decode prog_14_method_122_code 8 = .ok (.ldc2_w 564, 3) := by decide +kernel
theorem d_M_packet_11 : decode prog_14_method_122_code 11 = .ok (.invokestatic 342, 3) := by decide +kernel
theorem d_M_packet_14 : decode prog_14_method_122_code 14 = .ok (.ifCond .eq 15, 3) := by decide +kernel
theorem d_M_packet_29 : decode prog_14_method_122_code 29 = .ok (.iconst 0, 1) := by decide +kernel
theorem d_M_packet_30 : decode prog_14_method_122_code 30 = .ok (.istore_n 2, 1) := by decide +kernel
theorem d_M_packet_31 : decode prog_14_method_122_code 31 = .ok (.iconst 0, 1) := by decide +kernel
theorem d_M_packet_32 : decode prog_14_method_122_code 32 = .ok (.istore_n 3, 1) := by decide +kernel
theorem d_M_packet_17 : decode prog_14_method_122_code 17 = .ok (.aload_n 0, 1) := by decide +kernel
theorem d_M_packet_18 : decode prog_14_method_122_code 18 = .ok (.getfield 566, 3) := by decide +kernel
theorem d_M_packet_21 : decode prog_14_method_122_code 21 = .ok (.iload_n 1, 1) := by decide +kernel
theorem d_M_packet_22 : decode prog_14_method_122_code 22 = .ok (.if_icmp .lt 7, 3) := by decide +kernel
theorem d_M_packet_25 : decode prog_14_method_122_code 25 = .ok (.iconst 1, 1) := by decide +kernel
theorem d_M_packet_26 : decode prog_14_method_122_code 26 = .ok (.goto 4, 3) := by decide +kernel
abbrev y_M_packet : MethodName := ⟨"FilterGuardModel", "packet", "(I)Z"⟩
def rm_M_packet : Room := { frames := 2, cells := 0, slots := 0, locals := 45 }
abbrev q_M_packet (D : va_G) (ad : Nat → Nat → Nat) (ca : Nat → ClassId) (N : Nat → Nat) (M0 MZ : me_M) (RZ : Int32) (A : Nat → Prop) : Array Value → Jvm.State → Outcome → Jvm.State → Prop := va_Qi (fun r (_ : Unit) => r = RZ ∧ me_wf N MZ ∧ me_kp M0 MZ ∧ (RZ = 1 ∨ RZ = 0)) (fg_B D A (fun _ => me_W ad ca MZ) (fun _ => [])) A
set_option maxHeartbeats 4000000 in
set_option maxRecDepth 100000 in
theorem c_M_packet (l : Launch) (D : va_G) (ad : Nat → Nat → Nat) (ca : Nat → ClassId) (N : Nat → Nat) (M0 MZ : me_M) (RZ : Int32) (j0 : Nat) (x1 : Int32) (h : f_M_packet M0 j0 x1 = (some (MZ, RZ))) (hwf : me_wf N M0) (hj0 : j0 < N 1) (sz : Nat) : Met l y_M_packet (fg_w y_M_packet prog_14_method_122_code 4 (some .boolean)) rm_M_packet (va_Pc [.ref (ad 1 j0), .int x1] (fz_P D (me_T ca) (me_W ad ca M0) sz)) (q_M_packet D ad ca N M0 MZ RZ (va_A (me_W ad ca M0) sz)) rm_M_packet.cells rm_M_packet.slots (va_A (me_W ad ca M0) sz) := by
  refine fz_enter (fun A => q_M_packet D ad ca N M0 MZ RZ A) (by decide +kernel) (Nat.le_of_ble_eq_true rfl) ?_
  intro p e s m below meth c ls A hx hb hml hown hts hr hlocks hin hP hK hD hS hA hX hl hz
  have hl : lv_has ls 4 [(0, .ref (ad 1 j0)), (1, .int x1)] := hl
  unfold f_M_packet at h
  have hkp : me_kp M0 M0 := me_kp.rf
  have hkb := hkp
  have b_60 : ∀ (M : me_M) (y2 : Int32) (H : Heap) (locs : List Loc) (ls : Array Slot), f_M_packet_b60 j0 x1 M y2 = (some (MZ, RZ)) → (y2 = 1 ∨ y2 = 0) → me_wf N M → me_kp M0 M → va_P D classes (me_W ad ca M) H → va_D A (me_W ad ca M) → va_S A s.heap H locs → lv_has ls 4 [(0, .ref (ad 1 j0)), (1, .int x1), (2, .int y2)] → W p l e rm_M_packet s m [.ref (ad 1 j0), .int x1].toArray below meth c H locs 0 0 (MQ below (q_M_packet D ad ca N M0 MZ RZ A) [.ref (ad 1 j0), .int x1].toArray s rm_M_packet.cells rm_M_packet.slots A) (F0 m 60 ls []) := by
    intro M y2 H locs ls h zy2 hwf hkp hP hD hS hl
    unfold f_M_packet_b60 at h
    have hkb := hkp
    refine lv_aload_n hx hb d_M_packet_60 rfl (lv_at hl 0 rfl) ?_
    refine lv_iload_n hx hb d_M_packet_61 rfl (lv_at hl 2 rfl) ?_
    refine lv_if_eq (tgt := 69) hx hb d_M_packet_62 (by decide) (fun c1 => ?_) (fun c1 => ?_)
    · have h := if_t c1 h
      refine lv_aload_n hx hb d_M_packet_69 rfl (lv_at hl 0 rfl) ?_
      refine g_M_34 hx hb hts hown hK hP hwf hj0 (hts _ u_1775) d_M_packet_70 ?_
      obtain ⟨M2, eM2, h⟩ := st_ob h
      refine p_M_34 eM2 hx hb hts hown hK hP hD hwf hS hj0 (hts _ u_1775) d_M_packet_73 (fun H locs hP hD hwf hS => ?_)
      have hkp := kp_I eM2 hkp
      refine lv_aload_n hx hb d_M_packet_76 rfl (lv_at hl 0 rfl) ?_
      refine lv_iconst (v := 0) hx hb d_M_packet_77 (by decide) ?_
      obtain ⟨M3, eM3, h⟩ := st_ob h
      refine p_M_2 eM3 hx hb hts hown hK hP hD hwf hS hj0 (hts _ u_1743) d_M_packet_78 (fun H locs hP hD hwf hS => ?_)
      have hkp := kp_I eM3 hkp
      refine lv_iload_n hx hb d_M_packet_81 rfl (lv_at hl 2 rfl) ?_
      exact me_retz (me_kp M0) h zy2 hx hb hr hlocks hwf hkp hP hK hD hS d_M_packet_82
    have h := if_f c1 h
    refine lv_iload_n hx hb d_M_packet_65 rfl (lv_at hl 1 rfl) ?_
    refine lv_goto (tgt := 73) hx hb d_M_packet_66 (by decide) ?_
    obtain ⟨M4, eM4, h⟩ := st_ob h
    refine p_M_34 eM4 hx hb hts hown hK hP hD hwf hS hj0 (hts _ u_1775) d_M_packet_73 (fun H locs hP hD hwf hS => ?_)
    have hkp := kp_I eM4 hkp
    refine lv_aload_n hx hb d_M_packet_76 rfl (lv_at hl 0 rfl) ?_
    refine lv_iconst (v := 0) hx hb d_M_packet_77 (by decide) ?_
    obtain ⟨M5, eM5, h⟩ := st_ob h
    refine p_M_2 eM5 hx hb hts hown hK hP hD hwf hS hj0 (hts _ u_1743) d_M_packet_78 (fun H locs hP hD hwf hS => ?_)
    have hkp := kp_I eM5 hkp
    refine lv_iload_n hx hb d_M_packet_81 rfl (lv_at hl 2 rfl) ?_
    exact me_retz (me_kp M0) h zy2 hx hb hr hlocks hwf hkp hP hK hD hS d_M_packet_82
  have b_33 : ∀ (fu : Nat), ∀ (M : me_M) (y2 : Int32) (y3 : Int32) (H : Heap) (locs : List Loc) (ls : Array Slot), f_M_packet_l33 j0 x1 fu M y2 y3 = (some (MZ, RZ)) → (y2 = 1 ∨ y2 = 0) → me_wf N M → me_kp M0 M → va_P D classes (me_W ad ca M) H → va_D A (me_W ad ca M) → va_S A s.heap H locs → lv_has ls 4 [(0, .ref (ad 1 j0)), (1, .int x1), (2, .int y2), (3, .int y3)] → W p l e rm_M_packet s m [.ref (ad 1 j0), .int x1].toArray below meth c H locs 0 0 (MQ below (q_M_packet D ad ca N M0 MZ RZ A) [.ref (ad 1 j0), .int x1].toArray s rm_M_packet.cells rm_M_packet.slots A) (F0 m 33 ls []) := by
    intro fu
    induction fu with
    | zero =>
      intro M y2 y3 H locs ls h zy2 hwf hkp hP hD hS hl
      cases h
    | succ fu ih =>
      intro M y2 y3 H locs ls h zy2 hwf hkp hP hD hS hl
      unfold f_M_packet_l33 at h
      have hkb := hkp
      refine lv_iload_n hx hb d_M_packet_33 rfl (lv_at hl 3 rfl) ?_
      refine lv_iload_n hx hb d_M_packet_34 rfl (lv_at hl 1 rfl) ?_
      refine lv_icmp_ge (tgt := 60) hx hb d_M_packet_35 (by decide) (fun c6 => ?_) (fun c6 => ?_)
      · have h := if_t c6 h
        exact b_60 M y2 _ _ _ h zy2 hwf hkp hP hD hS (lv_sub hl [0, 1, 2] rfl)
      have h := if_f c6 h
      refine lv_iload_n hx hb d_M_packet_38 rfl (lv_at hl 2 rfl) ?_
      refine lv_if_eq (tgt := 60) hx hb d_M_packet_39 (by decide) (fun c7 => ?_) (fun c7 => ?_)
      · have h := if_t c7 h
        exact b_60 M y2 _ _ _ h zy2 hwf hkp hP hD hS (lv_sub hl [0, 1, 2] rfl)
      have h := if_f c7 h
      refine lv_aload_n hx hb d_M_packet_42 rfl (lv_at hl 0 rfl) ?_
      refine g_M_35 hx hb hts hown hK hP hwf hj0 (hts _ u_1776) d_M_packet_43 ?_
      obtain ⟨j8, e9, h⟩ := bd_ob h
      have hj8 : j8 < N 14 := (hwf.2.1 1 j0 35 _ e9 (by decide) hj0)
      refine me_opt (j := j8) e9 ?_
      refine lv_iload_n hx hb d_M_packet_46 rfl (lv_at hl 3 rfl) ?_
      refine lv_aload_n hx hb d_M_packet_47 rfl (lv_at hl 0 rfl) ?_
      refine g_M_1 hx hb hts hown hK hP hwf hj0 (hts _ u_1742) d_M_packet_48 ?_
      obtain ⟨j10, e11, h⟩ := bd_ob h
      have hj10 : j10 < N 14 := (hwf.2.1 1 j0 1 _ e11 (by decide) hj0)
      refine me_opt (j := j10) e11 ?_
      refine lv_iload_n hx hb d_M_packet_51 rfl (lv_at hl 3 rfl) ?_
      obtain ⟨g12, h⟩ := gd_ob h
      refine me_bald hx hb hK hP hwf hj10 g12 d_M_packet_52 ?_
      obtain ⟨g13, h⟩ := gd_ob h
      obtain ⟨M14, eM14, h⟩ := st_ob h
      refine me_bast eM14 hx hb hK hP hD hwf hS hj8 g13 d_M_packet_53 (fun H locs hP hD hwf hS => ?_)
      have hkp := kp_I eM14 hkp
      refine lv_iinc (v := y3 + 1) (lv' := [(3, .int (y3 + 1)), (0, .ref (ad 1 j0)), (1, .int x1), (2, .int y2)]) hx hb d_M_packet_54 hl (k := 3) rfl (by rfl) (by decide) rfl (fun ls hl => ?_)
      refine lv_goto (tgt := 33) hx hb d_M_packet_57 (by decide) ?_
      exact ih M14 y2 (y3 + 1) _ _ _ h zy2 hwf hkp hP hD hS (lv_sub hl [1, 2, 3, 0] rfl)
  refine lv_aload_n hx hb d_M_packet_0 rfl (lv_at hl 0 rfl) ?_
  refine lv_iconst (v := 0) hx hb d_M_packet_1 (by decide) ?_
  obtain ⟨M15, eM15, h⟩ := st_ob h
  refine p_M_0 eM15 hx hb hts hown hK hP hD hwf hS hj0 (hts _ u_1741) d_M_packet_2 (fun H locs hP hD hwf hS => ?_)
  have hkp := kp_I eM15 hkp
  refine lv_iload_n hx hb d_M_packet_5 rfl (lv_at hl 1 rfl) ?_
  refine lv_i2l (v := x1.toInt64) hx hb d_M_packet_6 rfl ?_
  refine lv_lconst (v := 0) hx hb d_M_packet_7 (by decide) ?_
  refine lv_ldc2 hx hb hown (hts _ u_1975) d_M_packet_8 ?_
  obtain ⟨r16, er16, h⟩ := bd_ob h
  refine me_pani' (r0 := r16) (fg_runS (wc := []) (tc := []) (A2 := A) (As := [.long x1.toInt64, .long 0, .long 2000]) (rest := []) ⟨hx, hb, hml, hown, hts⟩ (c_M_in l D r16 x1.toInt64 (0 : Int64) (2000 : Int64) er16 _) (by show fg_nm y_M_in 3; decide +kernel) u_1976 u_1977 u_192 u_1978 ⟨Nat.le_of_ble_eq_true rfl, Nat.le_of_ble_eq_true rfl⟩ hX me_P0 (hK.sub (tys' := []) [] rfl) me_D0 rfl hl.1 (Nat.le_of_ble_eq_true rfl) d_M_packet_11 ⟨Nat.le_of_ble_eq_true rfl, Nat.le_of_ble_eq_true rfl⟩) hP hD hK hS hA rfl rfl (fun H locs hw hP hD hS => ?_)
  have zr16 := hw
  refine lv_if_eq (tgt := 29) hx hb d_M_packet_14 (by decide) (fun c17 => ?_) (fun c17 => ?_)
  · have h := if_t c17 h
    refine lv_iconst (v := 0) hx hb d_M_packet_29 (by decide) ?_
    refine lv_istore_n (lv' := [(2, .int 0), (0, .ref (ad 1 j0)), (1, .int x1)]) hx hb d_M_packet_30 rfl hl (by decide) rfl (fun ls hl => ?_)
    refine lv_iconst (v := 0) hx hb d_M_packet_31 (by decide) ?_
    refine lv_istore_n (lv' := [(3, .int 0), (2, .int 0), (0, .ref (ad 1 j0)), (1, .int x1)]) hx hb d_M_packet_32 rfl hl (by decide) rfl (fun ls hl => ?_)
    exact b_33 _ M15 (0 : Int32) (0 : Int32) _ _ _ h (by decide) hwf hkp hP hD hS (lv_sub hl [2, 3, 1, 0] rfl)
  have h := if_f c17 h
  refine lv_aload_n hx hb d_M_packet_17 rfl (lv_at hl 0 rfl) ?_
  refine g_M_2 hx hb hts hown hK hP hwf hj0 (hts _ u_1743) d_M_packet_18 ?_
  refine lv_iload_n hx hb d_M_packet_21 rfl (lv_at hl 1 rfl) ?_
  refine lv_icmp_lt (tgt := 29) hx hb d_M_packet_22 (by decide) (fun c18 => ?_) (fun c18 => ?_)
  · have h := if_t c18 h
    refine lv_iconst (v := 0) hx hb d_M_packet_29 (by decide) ?_
    refine lv_istore_n (lv' := [(2, .int 0), (0, .ref (ad 1 j0)), (1, .int x1)]) hx hb d_M_packet_30 rfl hl (by decide) rfl (fun ls hl => ?_)
    refine lv_iconst (v := 0) hx hb d_M_packet_31 (by decide) ?_
    refine lv_istore_n (lv' := [(3, .int 0), (2, .int 0), (0, .ref (ad 1 j0)), (1, .int x1)]) hx hb d_M_packet_32 rfl hl (by decide) rfl (fun ls hl => ?_)
    exact b_33 _ M15 (0 : Int32) (0 : Int32) _ _ _ h (by decide) hwf hkp hP hD hS (lv_sub hl [2, 3, 1, 0] rfl)
  have h := if_f c18 h
  refine lv_iconst (v := 1) hx hb d_M_packet_25 (by decide) ?_
  refine lv_goto (tgt := 30) hx hb d_M_packet_26 (by decide) ?_
  refine lv_istore_n (lv' := [(2, .int 1), (0, .ref (ad 1 j0)), (1, .int x1)]) hx hb d_M_packet_30 rfl hl (by decide) rfl (fun ls hl => ?_)
  refine lv_iconst (v := 0) hx hb d_M_packet_31 (by decide) ?_
  refine lv_istore_n (lv' := [(3, .int 0), (2, .int 1), (0, .ref (ad 1 j0)), (1, .int x1)]) hx hb d_M_packet_32 rfl hl (by decide) rfl (fun ls hl => ?_)
  exact b_33 _ M15 (1 : Int32) (0 : Int32) _ _ _ h (by decide) hwf hkp hP hD hS (lv_sub hl [2, 3, 1, 0] rfl)
theorem d_M_context_27 : decode prog_14_method_123_code 27 = .ok (.iload 4, 2) := by decide +kernel
theorem d_M_context_29 : decode prog_14_method_123_code 29 = .ok (.bipush 8, 2) := by decide +kernel
theorem d_M_context_31 : decode prog_14_method_123_code 31 = .ok (.if_icmp .ge 27, 3) := by decide +kernel
theorem d_M_context_58 : decode prog_14_method_123_code 58 = .ok (.iconst 1, 1) := by decide +kernel
theorem d_M_context_59 : decode prog_14_method_123_code 59 = .ok (.ireturn, 1) := by decide +kernel
theorem d_M_context_34 : decode prog_14_method_123_code 34 = .ok (.aload_n 0, 1) := by decide +kernel
theorem d_M_context_35 : decode prog_14_method_123_code 35 = .ok (.getfield 71, 3) := by decide +kernel
theorem g_M_36 {p : Program} {l : Launch} {e : Env} {R : Room} {s : Jvm.State} {m : MethodId} {args : Array Value} {below : List Frame} {meth : Method} {c : Code} {H : Heap} {locs : List Loc} {cells slots : Nat} {Q : Jvm.State → Prop} {cc : ByteArray} {pc : Nat} {ls : Array Slot} {rest : List Value} {D : va_G} {ad : Nat → Nat → Nat} {ca : Nat → ClassId} {M : me_M} {N : Nat → Nat} {own : String} {index j : Nat} (hexec : p.tables.exec = Jvm.exec) (hb : c.code = cc) (hts : ∀ w ∈ fg_g, w.before args s = true) (hown : s.vm.findClass own = some m.cls) (hK : va_K D classes (me_T ca) s) (hP : va_P D classes (me_W ad ca M) H) (hwf : me_wf N M) (hj : j < N 1) (hlink : (Cond.fieldLink own index "FilterGuardModel" "context" "[B").before args s = true) (hdg : decode cc pc = .ok (.getfield index, 3)) (kk : W p l e R s m args below meth c H locs cells slots Q (F0 m (pc + 3) ls (va_rf ((mR M 1 j 36).map (ad 14)) :: rest))) : W p l e R s m args below meth c H locs cells slots Q (F0 m pc ls (.ref (ad 1 j) :: rest)) := me_get (k := 1) (f := 36) (C := "FilterGuardModel") (T := F_M) (Nf := 75) hexec hb hts i_M hown hK hP hwf hj (by decide) rfl (by decide) (by decide) hlink (fun _ h9 => h9) hdg kk
theorem d_M_context_38 : decode prog_14_method_123_code 38 = .ok (.iload_n 1, 1) := by decide +kernel
theorem d_M_context_39 : decode prog_14_method_123_code 39 = .ok (.iload 4, 2) := by decide +kernel
theorem d_M_context_41 : decode prog_14_method_123_code 41 = .ok (.iadd, 1) := by decide +kernel
theorem d_M_context_42 : decode prog_14_method_123_code 42 = .ok (.lload_n 2, 1) := by decide +kernel
theorem d_M_context_43 : decode prog_14_method_123_code 43 = .ok (.bipush 8, 2) := by decide +kernel
theorem d_M_context_45 : decode prog_14_method_123_code 45 = .ok (.iload 4, 2) := by decide +kernel
theorem d_M_context_47 : decode prog_14_method_123_code 47 = .ok (.imul, 1) := by decide +kernel
theorem d_M_context_48 : decode prog_14_method_123_code 48 = .ok (.lshr, 1) := by decide +kernel
theorem d_M_context_49 : decode prog_14_method_123_code 49 = .ok (.l2i, 1) := by decide +kernel
theorem d_M_context_50 : decode prog_14_method_123_code 50 = .ok (.i2b, 1) := by decide +kernel
theorem d_M_context_51 : decode prog_14_method_123_code 51 = .ok (.bastore, 1) := by decide +kernel
theorem d_M_context_52 : decode prog_14_method_123_code 52 = .ok (.iinc 4 1, 3) := by decide +kernel
theorem d_M_context_55 : decode prog_14_method_123_code 55 = .ok (.goto (-28), 3) := by decide +kernel
theorem d_M_context_0 : decode prog_14_method_123_code 0 = .ok (.aload_n 0, 1) := by decide +kernel
theorem d_M_context_1 : decode prog_14_method_123_code 1 = .ok (.iconst 0, 1) := by decide +kernel
theorem d_M_context_2 : decode prog_14_method_123_code 2 = .ok (.putfield 152, 3) := by decide +kernel
theorem d_M_context_5 : decode prog_14_method_123_code 5 = .ok (.iload_n 1, 1) := by decide +kernel
theorem d_M_context_6 : decode prog_14_method_123_code 6 = .ok (.ifCond .lt 16, 3) := by decide +kernel
theorem d_M_context_22 : decode prog_14_method_123_code 22 = .ok (.iconst 0, 1) := by decide +kernel
theorem d_M_context_23 : decode prog_14_method_123_code 23 = .ok (.ireturn, 1) := by decide +kernel
theorem d_M_context_9 : decode prog_14_method_123_code 9 = .ok (.iload_n 1, 1) := by decide +kernel
theorem d_M_context_10 : decode prog_14_method_123_code 10 = .ok (.bipush 56, 2) := by decide +kernel
theorem d_M_context_12 : decode prog_14_method_123_code 12 = .ok (.if_icmp .gt 10, 3) := by decide +kernel
theorem d_M_context_15 : decode prog_14_method_123_code 15 = .ok (.iload_n 1, 1) := by decide +kernel
theorem d_M_context_16 : decode prog_14_method_123_code 16 = .ok (.bipush 8, 2) := by decide +kernel
theorem d_M_context_18 : decode prog_14_method_123_code 18 = .ok (.irem, 1) := by decide +kernel
theorem d_M_context_19 : decode prog_14_method_123_code 19 = .ok (.ifCond .eq 5, 3) := by decide +kernel
theorem d_M_context_24 : decode prog_14_method_123_code 24 = .ok (.iconst 0, 1) := by decide +kernel
theorem d_M_context_25 : decode prog_14_method_123_code 25 = .ok (.istore 4, 2) := by decide +kernel
abbrev y_M_context : MethodName := ⟨"FilterGuardModel", "context", "(IJ)Z"⟩
def rm_M_context : Room := { frames := 1, cells := 0, slots := 0, locals := 20 }
abbrev q_M_context (D : va_G) (ad : Nat → Nat → Nat) (ca : Nat → ClassId) (N : Nat → Nat) (M0 MZ : me_M) (RZ : Int32) (A : Nat → Prop) : Array Value → Jvm.State → Outcome → Jvm.State → Prop := va_Qi (fun r (_ : Unit) => r = RZ ∧ me_wf N MZ ∧ me_kp M0 MZ ∧ (RZ = 1 ∨ RZ = 0)) (fg_B D A (fun _ => me_W ad ca MZ) (fun _ => [])) A
set_option maxHeartbeats 4000000 in
set_option maxRecDepth 100000 in
theorem c_M_context (l : Launch) (D : va_G) (ad : Nat → Nat → Nat) (ca : Nat → ClassId) (N : Nat → Nat) (M0 MZ : me_M) (RZ : Int32) (j0 : Nat) (x1 : Int32) (x2 : Int64) (h : f_M_context M0 j0 x1 x2 = (some (MZ, RZ))) (hwf : me_wf N M0) (hj0 : j0 < N 1) (sz : Nat) : Met l y_M_context (fg_w y_M_context prog_14_method_123_code 5 (some .boolean)) rm_M_context (va_Pc [.ref (ad 1 j0), .int x1, .long x2] (fz_P D (me_T ca) (me_W ad ca M0) sz)) (q_M_context D ad ca N M0 MZ RZ (va_A (me_W ad ca M0) sz)) rm_M_context.cells rm_M_context.slots (va_A (me_W ad ca M0) sz) := by
  refine fz_enter (fun A => q_M_context D ad ca N M0 MZ RZ A) (by decide +kernel) (Nat.le_of_ble_eq_true rfl) ?_
  intro p e s m below meth c ls A hx hb hml hown hts hr hlocks hin hP hK hD hS hA hX hl hz
  have hl : lv_has ls 5 [(0, .ref (ad 1 j0)), (1, .int x1), (2, .long x2)] := hl
  unfold f_M_context at h
  have hkp : me_kp M0 M0 := me_kp.rf
  have hkb := hkp
  have b_27 : ∀ (fu : Nat), ∀ (M : me_M) (y4 : Int32) (H : Heap) (locs : List Loc) (ls : Array Slot), f_M_context_l27 j0 x1 x2 fu M y4 = (some (MZ, RZ)) → me_wf N M → me_kp M0 M → va_P D classes (me_W ad ca M) H → va_D A (me_W ad ca M) → va_S A s.heap H locs → lv_has ls 5 [(0, .ref (ad 1 j0)), (1, .int x1), (2, .long x2), (4, .int y4)] → W p l e rm_M_context s m [.ref (ad 1 j0), .int x1, .long x2].toArray below meth c H locs 0 0 (MQ below (q_M_context D ad ca N M0 MZ RZ A) [.ref (ad 1 j0), .int x1, .long x2].toArray s rm_M_context.cells rm_M_context.slots A) (F0 m 27 ls []) := by
    intro fu
    induction fu with
    | zero =>
      intro M y4 H locs ls h hwf hkp hP hD hS hl
      cases h
    | succ fu ih =>
      intro M y4 H locs ls h hwf hkp hP hD hS hl
      unfold f_M_context_l27 at h
      have hkb := hkp
      refine lv_iload hx hb d_M_context_27 (lv_at hl 3 rfl) ?_
      refine lv_bipush (v := 8) hx hb d_M_context_29 (by decide) ?_
      refine lv_icmp_ge (tgt := 58) hx hb d_M_context_31 (by decide) (fun c1 => ?_) (fun c1 => ?_)
      · have h := if_t c1 h
        refine lv_iconst (v := 1) hx hb d_M_context_58 (by decide) ?_
        exact me_retz (me_kp M0) h (by decide) hx hb hr hlocks hwf hkp hP hK hD hS d_M_context_59
      have h := if_f c1 h
      refine lv_aload_n hx hb d_M_context_34 rfl (lv_at hl 0 rfl) ?_
      refine g_M_36 hx hb hts hown hK hP hwf hj0 (hts _ u_1777) d_M_context_35 ?_
      obtain ⟨j2, e3, h⟩ := bd_ob h
      have hj2 : j2 < N 14 := (hwf.2.1 1 j0 36 _ e3 (by decide) hj0)
      refine me_opt (j := j2) e3 ?_
      refine lv_iload_n hx hb d_M_context_38 rfl (lv_at hl 1 rfl) ?_
      refine lv_iload hx hb d_M_context_39 (lv_at hl 3 rfl) ?_
      refine lv_iadd hx hb d_M_context_41 ?_
      refine lv_lload_n hx hb d_M_context_42 rfl (lv_at hl 2 rfl) ?_
      refine lv_bipush (v := 8) hx hb d_M_context_43 (by decide) ?_
      refine lv_iload hx hb d_M_context_45 (lv_at hl 3 rfl) ?_
      refine lv_imul hx hb d_M_context_47 ?_
      refine lv_lshr (v := jlshr x2 (8 * y4)) hx hb d_M_context_48 rfl ?_
      refine lv_l2i (v := (jlshr x2 (8 * y4)).toInt32) hx hb d_M_context_49 rfl ?_
      refine lv_i2b (v := ((jlshr x2 (8 * y4)).toInt32).toInt8.toInt32) hx hb d_M_context_50 rfl ?_
      obtain ⟨g4, h⟩ := gd_ob h
      obtain ⟨M5, eM5, h⟩ := st_ob h
      refine me_bast eM5 hx hb hK hP hD hwf hS hj2 g4 d_M_context_51 (fun H locs hP hD hwf hS => ?_)
      have hkp := kp_I eM5 hkp
      refine lv_iinc (v := y4 + 1) (lv' := [(4, .int (y4 + 1)), (0, .ref (ad 1 j0)), (1, .int x1), (2, .long x2)]) hx hb d_M_context_52 hl (k := 3) rfl (by rfl) (by decide) rfl (fun ls hl => ?_)
      refine lv_goto (tgt := 27) hx hb d_M_context_55 (by decide) ?_
      exact ih M5 (y4 + 1) _ _ _ h hwf hkp hP hD hS (lv_sub hl [1, 2, 3, 0] rfl)
  refine lv_aload_n hx hb d_M_context_0 rfl (lv_at hl 0 rfl) ?_
  refine lv_iconst (v := 0) hx hb d_M_context_1 (by decide) ?_
  obtain ⟨M6, eM6, h⟩ := st_ob h
  refine p_M_0 eM6 hx hb hts hown hK hP hD hwf hS hj0 (hts _ u_1741) d_M_context_2 (fun H locs hP hD hwf hS => ?_)
  have hkp := kp_I eM6 hkp
  refine lv_iload_n hx hb d_M_context_5 rfl (lv_at hl 1 rfl) ?_
  refine lv_if_lt (tgt := 22) hx hb d_M_context_6 (by decide) (fun c7 => ?_) (fun c7 => ?_)
  · have h := if_t c7 h
    refine lv_iconst (v := 0) hx hb d_M_context_22 (by decide) ?_
    exact me_retz (me_kp M0) h (by decide) hx hb hr hlocks hwf hkp hP hK hD hS d_M_context_23
  have h := if_f c7 h
  refine lv_iload_n hx hb d_M_context_9 rfl (lv_at hl 1 rfl) ?_
  refine lv_bipush (v := 56) hx hb d_M_context_10 (by decide) ?_
  refine lv_icmp_gt (tgt := 22) hx hb d_M_context_12 (by decide) (fun c8 => ?_) (fun c8 => ?_)
  · have h := if_t c8 h
    refine lv_iconst (v := 0) hx hb d_M_context_22 (by decide) ?_
    exact me_retz (me_kp M0) h (by decide) hx hb hr hlocks hwf hkp hP hK hD hS d_M_context_23
  have h := if_f c8 h
  refine lv_iload_n hx hb d_M_context_15 rfl (lv_at hl 1 rfl) ?_
  refine lv_bipush (v := 8) hx hb d_M_context_16 (by decide) ?_
  refine lv_irem hx hb d_M_context_18 (by decide) ?_
  refine fg_topi (y := jirem x1 8) rfl ?_
  refine lv_if_eq (tgt := 24) hx hb d_M_context_19 (by decide) (fun c9 => ?_) (fun c9 => ?_)
  · have h := if_t c9 h
    refine lv_iconst (v := 0) hx hb d_M_context_24 (by decide) ?_
    refine lv_istore (lv' := [(4, .int 0), (0, .ref (ad 1 j0)), (1, .int x1), (2, .long x2)]) hx hb d_M_context_25 hl (by decide) rfl (fun ls hl => ?_)
    exact b_27 _ M6 (0 : Int32) _ _ _ h hwf hkp hP hD hS (lv_sub hl [1, 2, 3, 0] rfl)
  have h := if_f c9 h
  refine lv_iconst (v := 0) hx hb d_M_context_22 (by decide) ?_
  exact me_retz (me_kp M0) h (by decide) hx hb hr hlocks hwf hkp hP hK hD hS d_M_context_23
theorem d_M_packetAt_17 : decode prog_14_method_124_code 17 = .ok (.iconst 1, 1) := by decide +kernel
theorem d_M_packetAt_18 : decode prog_14_method_124_code 18 = .ok (.putfield 152, 3) := by decide +kernel
theorem d_M_packetAt_21 : decode prog_14_method_124_code 21 = .ok (.aload_n 0, 1) := by decide +kernel
theorem d_M_packetAt_22 : decode prog_14_method_124_code 22 = .ok (.getfield 152, 3) := by decide +kernel
theorem d_M_packetAt_25 : decode prog_14_method_124_code 25 = .ok (.ifCond .le 7, 3) := by decide +kernel
theorem d_M_packetAt_32 : decode prog_14_method_124_code 32 = .ok (.aload_n 0, 1) := by decide +kernel
theorem d_M_packetAt_33 : decode prog_14_method_124_code 33 = .ok (.getfield 68, 3) := by decide +kernel
theorem d_M_packetAt_36 : decode prog_14_method_124_code 36 = .ok (.iload_n 1, 1) := by decide +kernel
theorem d_M_packetAt_37 : decode prog_14_method_124_code 37 = .ok (.baload, 1) := by decide +kernel
theorem d_M_packetAt_38 : decode prog_14_method_124_code 38 = .ok (.sipush 255, 3) := by decide +kernel
theorem d_M_packetAt_41 : decode prog_14_method_124_code 41 = .ok (.iand, 1) := by decide +kernel
theorem d_M_packetAt_42 : decode prog_14_method_124_code 42 = .ok (.ireturn, 1) := by decide +kernel
theorem d_M_packetAt_28 : decode prog_14_method_124_code 28 = .ok (.iconst 0, 1) := by decide +kernel
theorem d_M_packetAt_29 : decode prog_14_method_124_code 29 = .ok (.goto 13, 3) := by decide +kernel
theorem d_M_packetAt_0 : decode prog_14_method_124_code 0 = .ok (.aload_n 0, 1) := by decide +kernel
theorem d_M_packetAt_1 : decode prog_14_method_124_code 1 = .ok (.iload_n 1, 1) := by decide +kernel
theorem d_M_packetAt_2 : decode prog_14_method_124_code 2 = .ok (.ifCond .lt 15, 3) := by decide +kernel
theorem d_M_packetAt_5 : decode prog_14_method_124_code 5 = .ok (.iload_n 1, 1) := by decide +kernel
theorem d_M_packetAt_6 : decode prog_14_method_124_code 6 = .ok (.aload_n 0, 1) := by decide +kernel
theorem d_M_packetAt_7 : decode prog_14_method_124_code 7 = .ok (.getfield 622, 3) := by decide +kernel
theorem d_M_packetAt_10 : decode prog_14_method_124_code 10 = .ok (.if_icmp .ge 7, 3) := by decide +kernel
theorem d_M_packetAt_13 : decode prog_14_method_124_code 13 = .ok (.iconst 0, 1) := by decide +kernel
theorem d_M_packetAt_14 : decode prog_14_method_124_code 14 = .ok (.goto 4, 3) := by decide +kernel
abbrev y_M_packetAt : MethodName := ⟨"FilterGuardModel", "packetAt", "(I)I"⟩
def rm_M_packetAt : Room := { frames := 1, cells := 0, slots := 0, locals := 20 }
abbrev q_M_packetAt (D : va_G) (ad : Nat → Nat → Nat) (ca : Nat → ClassId) (N : Nat → Nat) (M0 MZ : me_M) (RZ : Int32) (A : Nat → Prop) : Array Value → Jvm.State → Outcome → Jvm.State → Prop := va_Qi (fun r (_ : Unit) => r = RZ ∧ me_wf N MZ ∧ me_kp M0 MZ) (fg_B D A (fun _ => me_W ad ca MZ) (fun _ => [])) A
set_option maxHeartbeats 4000000 in
set_option maxRecDepth 100000 in
theorem c_M_packetAt (l : Launch) (D : va_G) (ad : Nat → Nat → Nat) (ca : Nat → ClassId) (N : Nat → Nat) (M0 MZ : me_M) (RZ : Int32) (j0 : Nat) (x1 : Int32) (h : f_M_packetAt M0 j0 x1 = (some (MZ, RZ))) (hwf : me_wf N M0) (hj0 : j0 < N 1) (sz : Nat) : Met l y_M_packetAt (fg_w y_M_packetAt prog_14_method_124_code 2 (some .int)) rm_M_packetAt (va_Pc [.ref (ad 1 j0), .int x1] (fz_P D (me_T ca) (me_W ad ca M0) sz)) (q_M_packetAt D ad ca N M0 MZ RZ (va_A (me_W ad ca M0) sz)) rm_M_packetAt.cells rm_M_packetAt.slots (va_A (me_W ad ca M0) sz) := by
  refine fz_enter (fun A => q_M_packetAt D ad ca N M0 MZ RZ A) (by decide +kernel) (Nat.le_of_ble_eq_true rfl) ?_
  intro p e s m below meth c ls A hx hb hml hown hts hr hlocks hin hP hK hD hS hA hX hl hz
  have hl : lv_has ls 2 [(0, .ref (ad 1 j0)), (1, .int x1)] := hl
  unfold f_M_packetAt at h
  have hkp : me_kp M0 M0 := me_kp.rf
  have hkb := hkp
  have b_17 : ∀ (M : me_M) (s0 : Nat) (H : Heap) (locs : List Loc) (ls : Array Slot), f_M_packetAt_b17 j0 x1 M s0 = (some (MZ, RZ)) → (s0 < N 1) → me_wf N M → me_kp M0 M → va_P D classes (me_W ad ca M) H → va_D A (me_W ad ca M) → va_S A s.heap H locs → lv_has ls 2 [(0, .ref (ad 1 j0)), (1, .int x1)] → W p l e rm_M_packetAt s m [.ref (ad 1 j0), .int x1].toArray below meth c H locs 0 0 (MQ below (q_M_packetAt D ad ca N M0 MZ RZ A) [.ref (ad 1 j0), .int x1].toArray s rm_M_packetAt.cells rm_M_packetAt.slots A) (F0 m 17 ls [.ref (ad 1 s0)]) := by
    intro M s0 H locs ls h hs0 hwf hkp hP hD hS hl
    unfold f_M_packetAt_b17 at h
    have hkb := hkp
    refine lv_iconst (v := 1) hx hb d_M_packetAt_17 (by decide) ?_
    obtain ⟨M1, eM1, h⟩ := st_ob h
    refine p_M_0 eM1 hx hb hts hown hK hP hD hwf hS hs0 (hts _ u_1741) d_M_packetAt_18 (fun H locs hP hD hwf hS => ?_)
    have hkp := kp_I eM1 hkp
    refine lv_aload_n hx hb d_M_packetAt_21 rfl (lv_at hl 0 rfl) ?_
    refine g_M_0 hx hb hts hown hK hP hwf hj0 (hts _ u_1741) d_M_packetAt_22 ?_
    refine lv_if_le (tgt := 32) hx hb d_M_packetAt_25 (by decide) (fun c2 => ?_) (fun c2 => ?_)
    · have h := if_t c2 h
      refine lv_aload_n hx hb d_M_packetAt_32 rfl (lv_at hl 0 rfl) ?_
      refine g_M_35 hx hb hts hown hK hP hwf hj0 (hts _ u_1776) d_M_packetAt_33 ?_
      obtain ⟨j3, e4, h⟩ := bd_ob h
      have hj3 : j3 < N 14 := (hwf.2.1 1 j0 35 _ (kp_r hkb hkp e4) (by decide) hj0)
      refine me_opt (j := j3) (kp_r hkb hkp e4) ?_
      refine lv_iload_n hx hb d_M_packetAt_36 rfl (lv_at hl 1 rfl) ?_
      obtain ⟨g5, h⟩ := gd_ob h
      refine me_bald hx hb hK hP hwf hj3 (kp_z hkb.z hkp.z g5) d_M_packetAt_37 ?_
      refine lv_sipush (v := 255) hx hb d_M_packetAt_38 (by decide) ?_
      refine lv_iand hx hb d_M_packetAt_41 ?_
      exact me_reti (me_kp M0) h hx hb hr hlocks hwf hkp hP hK hD hS d_M_packetAt_42
    have h := if_f c2 h
    refine lv_iconst (v := 0) hx hb d_M_packetAt_28 (by decide) ?_
    refine lv_goto (tgt := 42) hx hb d_M_packetAt_29 (by decide) ?_
    exact me_reti (me_kp M0) h hx hb hr hlocks hwf hkp hP hK hD hS d_M_packetAt_42
  refine lv_aload_n hx hb d_M_packetAt_0 rfl (lv_at hl 0 rfl) ?_
  refine lv_iload_n hx hb d_M_packetAt_1 rfl (lv_at hl 1 rfl) ?_
  refine lv_if_lt (tgt := 17) hx hb d_M_packetAt_2 (by decide) (fun c6 => ?_) (fun c6 => ?_)
  · have h := if_t c6 h
    exact b_17 M0 j0 _ _ _ h hj0 hwf hkp hP hD hS (lv_sub hl [0, 1] rfl)
  have h := if_f c6 h
  refine lv_iload_n hx hb d_M_packetAt_5 rfl (lv_at hl 1 rfl) ?_
  refine lv_aload_n hx hb d_M_packetAt_6 rfl (lv_at hl 0 rfl) ?_
  refine g_M_34 hx hb hts hown hK hP hwf hj0 (hts _ u_1775) d_M_packetAt_7 ?_
  refine lv_icmp_ge (tgt := 17) hx hb d_M_packetAt_10 (by decide) (fun c7 => ?_) (fun c7 => ?_)
  · have h := if_t c7 h
    exact b_17 M0 j0 _ _ _ h hj0 hwf hkp hP hD hS (lv_sub hl [0, 1] rfl)
  have h := if_f c7 h
  refine lv_iconst (v := 0) hx hb d_M_packetAt_13 (by decide) ?_
  refine lv_goto (tgt := 18) hx hb d_M_packetAt_14 (by decide) ?_
  obtain ⟨M8, eM8, h⟩ := st_ob h
  refine p_M_0 eM8 hx hb hts hown hK hP hD hwf hS hj0 (hts _ u_1741) d_M_packetAt_18 (fun H locs hP hD hwf hS => ?_)
  have hkp := kp_I eM8 hkp
  refine lv_aload_n hx hb d_M_packetAt_21 rfl (lv_at hl 0 rfl) ?_
  refine g_M_0 hx hb hts hown hK hP hwf hj0 (hts _ u_1741) d_M_packetAt_22 ?_
  refine lv_if_le (tgt := 32) hx hb d_M_packetAt_25 (by decide) (fun c9 => ?_) (fun c9 => ?_)
  · have h := if_t c9 h
    refine lv_aload_n hx hb d_M_packetAt_32 rfl (lv_at hl 0 rfl) ?_
    refine g_M_35 hx hb hts hown hK hP hwf hj0 (hts _ u_1776) d_M_packetAt_33 ?_
    obtain ⟨j10, e11, h⟩ := bd_ob h
    have hj10 : j10 < N 14 := (hwf.2.1 1 j0 35 _ (kp_r hkb hkp e11) (by decide) hj0)
    refine me_opt (j := j10) (kp_r hkb hkp e11) ?_
    refine lv_iload_n hx hb d_M_packetAt_36 rfl (lv_at hl 1 rfl) ?_
    obtain ⟨g12, h⟩ := gd_ob h
    refine me_bald hx hb hK hP hwf hj10 (kp_z hkb.z hkp.z g12) d_M_packetAt_37 ?_
    refine lv_sipush (v := 255) hx hb d_M_packetAt_38 (by decide) ?_
    refine lv_iand hx hb d_M_packetAt_41 ?_
    exact me_reti (me_kp M0) h hx hb hr hlocks hwf hkp hP hK hD hS d_M_packetAt_42
  have h := if_f c9 h
  refine lv_iconst (v := 0) hx hb d_M_packetAt_28 (by decide) ?_
  refine lv_goto (tgt := 42) hx hb d_M_packetAt_29 (by decide) ?_
  exact me_reti (me_kp M0) h hx hb hr hlocks hwf hkp hP hK hD hS d_M_packetAt_42
theorem d_M_clock_0 : decode prog_14_method_125_code 0 = .ok (.aload_n 0, 1) := by decide +kernel
theorem d_M_clock_1 : decode prog_14_method_125_code 1 = .ok (.iconst 0, 1) := by decide +kernel
theorem d_M_clock_2 : decode prog_14_method_125_code 2 = .ok (.putfield 152, 3) := by decide +kernel
theorem d_M_clock_5 : decode prog_14_method_125_code 5 = .ok (.aload_n 0, 1) := by decide +kernel
theorem d_M_clock_6 : decode prog_14_method_125_code 6 = .ok (.lload_n 1, 1) := by decide +kernel
theorem d_M_clock_7 : decode prog_14_method_125_code 7 = .ok (.putfield 625, 3) := by decide +kernel
theorem u_1778 : Cond.fieldLink "FilterGuardModel" 625 "FilterGuardModel" "clock" "J" ∈ fg_g := fg_in (List.mem_of_getElem? (i := 1778) (by decide +kernel)) rfl
theorem p_M_37 {p : Program} {l : Launch} {e : Env} {R : Room} {s : Jvm.State} {m : MethodId} {args : Array Value} {below : List Frame} {meth : Method} {c : Code} {H : Heap} {locs : List Loc} {cells slots : Nat} {Q : Jvm.State → Prop} {cc : ByteArray} {pc : Nat} {ls : Array Slot} {rest : List Value} {D : va_G} {A : Nat → Prop} {H0 : Heap} {ad : Nat → Nat → Nat} {ca : Nat → ClassId} {M M1 : me_M} {N : Nat → Nat} {own : String} {index j : Nat} {v : Int64} (he : M1 = wL M 1 j 37 v) (hexec : p.tables.exec = Jvm.exec) (hb : c.code = cc) (hts : ∀ w ∈ fg_g, w.before args s = true) (hown : s.vm.findClass own = some m.cls) (hK : va_K D classes (me_T ca) s) (hP : va_P D classes (me_W ad ca M) H) (hD : va_D A (me_W ad ca M)) (hwf : me_wf N M) (hS : va_S A H0 H locs) (hj : j < N 1) (hlink : (Cond.fieldLink own index "FilterGuardModel" "clock" "J").before args s = true) (hdg : decode cc pc = .ok (.putfield index, 3)) (kk : ∀ (H1 : Heap) (locs1 : List Loc), va_P D classes (me_W ad ca M1) H1 → va_D A (me_W ad ca M1) → me_wf N M1 → va_S A H0 H1 locs1 → W p l e R s m args below meth c H1 locs1 cells slots Q (F0 m (pc + 3) ls rest)) : W p l e R s m args below meth c H locs cells slots Q (F0 m pc ls (.long v :: .ref (ad 1 j) :: rest)) := by
  subst he
  exact me_put (M1 := wL M 1 j 37 v) (k := 1) (f := 37) (C := "FilterGuardModel") (T := F_M) (Nf := 75) hexec hb hts i_M t_M t_M_ok n_M hown hK hP hD hwf hS hj (by decide) rfl (by decide) (by decide) hlink (fun _ h9 => h9) rfl rfl rfl rfl (fun a b h => me_wLE h) (me_fLw (by decide) (by decide)) hdg (fun H1 locs1 a1 a2 a3 => kk H1 locs1 a1 a2 (me_wfL hwf) a3)
theorem d_M_clock_10 : decode prog_14_method_125_code 10 = .ok (.return_, 1) := by decide +kernel
abbrev y_M_clock : MethodName := ⟨"FilterGuardModel", "clock", "(J)V"⟩
def rm_M_clock : Room := { frames := 1, cells := 0, slots := 0, locals := 20 }
abbrev q_M_clock (D : va_G) (ad : Nat → Nat → Nat) (ca : Nat → ClassId) (N : Nat → Nat) (M0 MZ : me_M) (A : Nat → Prop) : Array Value → Jvm.State → Outcome → Jvm.State → Prop := va_Qv (fun (_ : Unit) => me_wf N MZ ∧ me_kp M0 MZ) (fg_B D A (fun _ => me_W ad ca MZ) (fun _ => [])) A
set_option maxHeartbeats 4000000 in
set_option maxRecDepth 100000 in
theorem c_M_clock (l : Launch) (D : va_G) (ad : Nat → Nat → Nat) (ca : Nat → ClassId) (N : Nat → Nat) (M0 MZ : me_M) (j0 : Nat) (x1 : Int64) (h : f_M_clock M0 j0 x1 = (some MZ)) (hwf : me_wf N M0) (hj0 : j0 < N 1) (sz : Nat) : Met l y_M_clock (fg_w y_M_clock prog_14_method_125_code 3 none) rm_M_clock (va_Pc [.ref (ad 1 j0), .long x1] (fz_P D (me_T ca) (me_W ad ca M0) sz)) (q_M_clock D ad ca N M0 MZ (va_A (me_W ad ca M0) sz)) rm_M_clock.cells rm_M_clock.slots (va_A (me_W ad ca M0) sz) := by
  refine fz_enter (fun A => q_M_clock D ad ca N M0 MZ A) (by decide +kernel) (Nat.le_of_ble_eq_true rfl) ?_
  intro p e s m below meth c ls A hx hb hml hown hts hr hlocks hin hP hK hD hS hA hX hl hz
  have hl : lv_has ls 3 [(0, .ref (ad 1 j0)), (1, .long x1)] := hl
  unfold f_M_clock at h
  have hkp : me_kp M0 M0 := me_kp.rf
  have hkb := hkp
  refine lv_aload_n hx hb d_M_clock_0 rfl (lv_at hl 0 rfl) ?_
  refine lv_iconst (v := 0) hx hb d_M_clock_1 (by decide) ?_
  obtain ⟨M1, eM1, h⟩ := st_ob h
  refine p_M_0 eM1 hx hb hts hown hK hP hD hwf hS hj0 (hts _ u_1741) d_M_clock_2 (fun H locs hP hD hwf hS => ?_)
  have hkp := kp_I eM1 hkp
  refine lv_aload_n hx hb d_M_clock_5 rfl (lv_at hl 0 rfl) ?_
  refine lv_lload_n hx hb d_M_clock_6 rfl (lv_at hl 1 rfl) ?_
  obtain ⟨M2, eM2, h⟩ := st_ob h
  refine p_M_37 eM2 hx hb hts hown hK hP hD hwf hS hj0 (hts _ u_1778) d_M_clock_7 (fun H locs hP hD hwf hS => ?_)
  have hkp := kp_L eM2 hkp
  exact me_retv (me_kp M0) h hx hb hr hlocks hwf hkp hP hK hD hS d_M_clock_10
theorem d_M_byteAt_0 : decode prog_14_method_126_code 0 = .ok (.lload_n 1, 1) := by decide +kernel
theorem d_M_byteAt_1 : decode prog_14_method_126_code 1 = .ok (.ldc2_w 629, 3) := by decide +kernel
theorem u_2479 : Cond.constantLong "FilterGuardModel" 629 4398046511104 ∈ fg_g := fg_in (List.mem_of_getElem? (i := 2479) (by decide +kernel)) rfl
theorem d_M_byteAt_4 : decode prog_14_method_126_code 4 = .ok (.lcmp, 1) := by decide +kernel
theorem d_M_byteAt_5 : decode prog_14_method_126_code 5 = .ok (.ifCond .lt 19, 3) := by decide +kernel
theorem d_M_byteAt_24 : decode prog_14_method_126_code 24 = .ok (.lload_n 1, 1) := by decide +kernel
theorem d_M_byteAt_25 : decode prog_14_method_126_code 25 = .ok (.ldc2_w 631, 3) := by decide +kernel
theorem u_2473 : Cond.constantLong "FilterGuardModel" 631 3298534883328 ∈ fg_g := fg_in (List.mem_of_getElem? (i := 2473) (by decide +kernel)) rfl
theorem d_M_byteAt_28 : decode prog_14_method_126_code 28 = .ok (.lcmp, 1) := by decide +kernel
theorem d_M_byteAt_29 : decode prog_14_method_126_code 29 = .ok (.ifCond .lt 19, 3) := by decide +kernel
theorem d_M_byteAt_48 : decode prog_14_method_126_code 48 = .ok (.lload_n 1, 1) := by decide +kernel
theorem d_M_byteAt_49 : decode prog_14_method_126_code 49 = .ok (.ldc2_w 633, 3) := by decide +kernel
theorem u_2480 : Cond.constantLong "FilterGuardModel" 633 2199023255040 ∈ fg_g := fg_in (List.mem_of_getElem? (i := 2480) (by decide +kernel)) rfl
theorem d_M_byteAt_52 : decode prog_14_method_126_code 52 = .ok (.lcmp, 1) := by decide +kernel
theorem d_M_byteAt_53 : decode prog_14_method_126_code 53 = .ok (.ifCond .lt 25, 3) := by decide +kernel
theorem d_M_byteAt_78 : decode prog_14_method_126_code 78 = .ok (.aload_n 0, 1) := by decide +kernel
theorem d_M_byteAt_79 : decode prog_14_method_126_code 79 = .ok (.getfield 71, 3) := by decide +kernel
theorem d_M_byteAt_82 : decode prog_14_method_126_code 82 = .ok (.lload_n 1, 1) := by decide +kernel
theorem d_M_byteAt_83 : decode prog_14_method_126_code 83 = .ok (.ldc2_w 637, 3) := by decide +kernel
theorem u_2463 : Cond.constantLong "FilterGuardModel" 637 1099511627776 ∈ fg_g := fg_in (List.mem_of_getElem? (i := 2463) (by decide +kernel)) rfl
theorem d_M_byteAt_86 : decode prog_14_method_126_code 86 = .ok (.lsub, 1) := by decide +kernel
theorem d_M_byteAt_87 : decode prog_14_method_126_code 87 = .ok (.l2i, 1) := by decide +kernel
theorem d_M_byteAt_88 : decode prog_14_method_126_code 88 = .ok (.baload, 1) := by decide +kernel
theorem d_M_byteAt_89 : decode prog_14_method_126_code 89 = .ok (.sipush 255, 3) := by decide +kernel
theorem d_M_byteAt_92 : decode prog_14_method_126_code 92 = .ok (.iand, 1) := by decide +kernel
theorem d_M_byteAt_93 : decode prog_14_method_126_code 93 = .ok (.ireturn, 1) := by decide +kernel
theorem d_M_byteAt_56 : decode prog_14_method_126_code 56 = .ok (.aload_n 0, 1) := by decide +kernel
theorem d_M_byteAt_57 : decode prog_14_method_126_code 57 = .ok (.getfield 80, 3) := by decide +kernel
theorem g_M_44 {p : Program} {l : Launch} {e : Env} {R : Room} {s : Jvm.State} {m : MethodId} {args : Array Value} {below : List Frame} {meth : Method} {c : Code} {H : Heap} {locs : List Loc} {cells slots : Nat} {Q : Jvm.State → Prop} {cc : ByteArray} {pc : Nat} {ls : Array Slot} {rest : List Value} {D : va_G} {ad : Nat → Nat → Nat} {ca : Nat → ClassId} {M : me_M} {N : Nat → Nat} {own : String} {index j : Nat} (hexec : p.tables.exec = Jvm.exec) (hb : c.code = cc) (hts : ∀ w ∈ fg_g, w.before args s = true) (hown : s.vm.findClass own = some m.cls) (hK : va_K D classes (me_T ca) s) (hP : va_P D classes (me_W ad ca M) H) (hwf : me_wf N M) (hj : j < N 1) (hlink : (Cond.fieldLink own index "FilterGuardModel" "stack" "[B").before args s = true) (hdg : decode cc pc = .ok (.getfield index, 3)) (kk : W p l e R s m args below meth c H locs cells slots Q (F0 m (pc + 3) ls (va_rf ((mR M 1 j 44).map (ad 14)) :: rest))) : W p l e R s m args below meth c H locs cells slots Q (F0 m pc ls (.ref (ad 1 j) :: rest)) := me_get (k := 1) (f := 44) (C := "FilterGuardModel") (T := F_M) (Nf := 75) hexec hb hts i_M hown hK hP hwf hj (by decide) rfl (by decide) (by decide) hlink (fun _ h9 => h9) hdg kk
theorem d_M_byteAt_60 : decode prog_14_method_126_code 60 = .ok (.lload_n 1, 1) := by decide +kernel
theorem d_M_byteAt_61 : decode prog_14_method_126_code 61 = .ok (.ldc2_w 635, 3) := by decide +kernel
theorem u_2464 : Cond.constantLong "FilterGuardModel" 635 2199023255552 ∈ fg_g := fg_in (List.mem_of_getElem? (i := 2464) (by decide +kernel)) rfl
theorem d_M_byteAt_64 : decode prog_14_method_126_code 64 = .ok (.lsub, 1) := by decide +kernel
theorem d_M_byteAt_65 : decode prog_14_method_126_code 65 = .ok (.ldc2_w 446, 3) := by decide +kernel
theorem d_M_byteAt_68 : decode prog_14_method_126_code 68 = .ok (.ladd, 1) := by decide +kernel
theorem d_M_byteAt_69 : decode prog_14_method_126_code 69 = .ok (.l2i, 1) := by decide +kernel
theorem d_M_byteAt_70 : decode prog_14_method_126_code 70 = .ok (.baload, 1) := by decide +kernel
theorem d_M_byteAt_71 : decode prog_14_method_126_code 71 = .ok (.sipush 255, 3) := by decide +kernel
theorem d_M_byteAt_74 : decode prog_14_method_126_code 74 = .ok (.iand, 1) := by decide +kernel
theorem d_M_byteAt_75 : decode prog_14_method_126_code 75 = .ok (.goto 18, 3) := by decide +kernel
theorem d_M_byteAt_32 : decode prog_14_method_126_code 32 = .ok (.aload_n 0, 1) := by decide +kernel
theorem d_M_byteAt_33 : decode prog_14_method_126_code 33 = .ok (.getfield 68, 3) := by decide +kernel
theorem d_M_byteAt_36 : decode prog_14_method_126_code 36 = .ok (.lload_n 1, 1) := by decide +kernel
theorem d_M_byteAt_37 : decode prog_14_method_126_code 37 = .ok (.ldc2_w 631, 3) := by decide +kernel
theorem d_M_byteAt_40 : decode prog_14_method_126_code 40 = .ok (.lsub, 1) := by decide +kernel
theorem d_M_byteAt_41 : decode prog_14_method_126_code 41 = .ok (.l2i, 1) := by decide +kernel
theorem d_M_byteAt_42 : decode prog_14_method_126_code 42 = .ok (.baload, 1) := by decide +kernel
theorem d_M_byteAt_43 : decode prog_14_method_126_code 43 = .ok (.sipush 255, 3) := by decide +kernel
theorem d_M_byteAt_46 : decode prog_14_method_126_code 46 = .ok (.iand, 1) := by decide +kernel
theorem d_M_byteAt_47 : decode prog_14_method_126_code 47 = .ok (.ireturn, 1) := by decide +kernel
theorem d_M_byteAt_8 : decode prog_14_method_126_code 8 = .ok (.aload_n 0, 1) := by decide +kernel
theorem d_M_byteAt_9 : decode prog_14_method_126_code 9 = .ok (.getfield 34, 3) := by decide +kernel
theorem d_M_byteAt_12 : decode prog_14_method_126_code 12 = .ok (.lload_n 1, 1) := by decide +kernel
theorem d_M_byteAt_13 : decode prog_14_method_126_code 13 = .ok (.ldc2_w 629, 3) := by decide +kernel
theorem d_M_byteAt_16 : decode prog_14_method_126_code 16 = .ok (.lsub, 1) := by decide +kernel
theorem d_M_byteAt_17 : decode prog_14_method_126_code 17 = .ok (.l2i, 1) := by decide +kernel
theorem d_M_byteAt_18 : decode prog_14_method_126_code 18 = .ok (.baload, 1) := by decide +kernel
theorem d_M_byteAt_19 : decode prog_14_method_126_code 19 = .ok (.sipush 255, 3) := by decide +kernel
theorem d_M_byteAt_22 : decode prog_14_method_126_code 22 = .ok (.iand, 1) := by decide +kernel
theorem d_M_byteAt_23 : decode prog_14_method_126_code 23 = .ok (.ireturn, 1) := by decide +kernel
abbrev y_M_byteAt : MethodName := ⟨"FilterGuardModel", "byteAt", "(J)I"⟩
def rm_M_byteAt : Room := { frames := 1, cells := 0, slots := 0, locals := 20 }
abbrev q_M_byteAt (D : va_G) (ad : Nat → Nat → Nat) (ca : Nat → ClassId) (N : Nat → Nat) (M0 MZ : me_M) (RZ : Int32) (A : Nat → Prop) : Array Value → Jvm.State → Outcome → Jvm.State → Prop := va_Qi (fun r (_ : Unit) => r = RZ ∧ me_wf N MZ ∧ me_kp M0 MZ) (fg_B D A (fun _ => me_W ad ca MZ) (fun _ => [])) A
set_option maxHeartbeats 4000000 in
set_option maxRecDepth 100000 in
theorem c_M_byteAt (l : Launch) (D : va_G) (ad : Nat → Nat → Nat) (ca : Nat → ClassId) (N : Nat → Nat) (M0 MZ : me_M) (RZ : Int32) (j0 : Nat) (x1 : Int64) (h : f_M_byteAt M0 j0 x1 = (some (MZ, RZ))) (hwf : me_wf N M0) (hj0 : j0 < N 1) (sz : Nat) : Met l y_M_byteAt (fg_w y_M_byteAt prog_14_method_126_code 3 (some .int)) rm_M_byteAt (va_Pc [.ref (ad 1 j0), .long x1] (fz_P D (me_T ca) (me_W ad ca M0) sz)) (q_M_byteAt D ad ca N M0 MZ RZ (va_A (me_W ad ca M0) sz)) rm_M_byteAt.cells rm_M_byteAt.slots (va_A (me_W ad ca M0) sz) := by
  refine fz_enter (fun A => q_M_byteAt D ad ca N M0 MZ RZ A) (by decide +kernel) (Nat.le_of_ble_eq_true rfl) ?_
  intro p e s m below meth c ls A hx hb hml hown hts hr hlocks hin hP hK hD hS hA hX hl hz
  have hl : lv_has ls 3 [(0, .ref (ad 1 j0)), (1, .long x1)] := hl
  unfold f_M_byteAt at h
  have hkp : me_kp M0 M0 := me_kp.rf
  have hkb := hkp
  refine lv_lload_n hx hb d_M_byteAt_0 rfl (lv_at hl 1 rfl) ?_
  refine lv_ldc2 hx hb hown (hts _ u_2479) d_M_byteAt_1 ?_
  refine W.lcmp hx hb d_M_byteAt_4 ?_
  refine lv_if_lt (tgt := 24) hx hb d_M_byteAt_5 (by decide) (fun c1 => ?_) (fun c1 => ?_)
  · have h := if_t ((lg_cmp_lt _ _).mp c1) h
    refine lv_lload_n hx hb d_M_byteAt_24 rfl (lv_at hl 1 rfl) ?_
    refine lv_ldc2 hx hb hown (hts _ u_2473) d_M_byteAt_25 ?_
    refine W.lcmp hx hb d_M_byteAt_28 ?_
    refine lv_if_lt (tgt := 48) hx hb d_M_byteAt_29 (by decide) (fun c2 => ?_) (fun c2 => ?_)
    · have h := if_t ((lg_cmp_lt _ _).mp c2) h
      refine lv_lload_n hx hb d_M_byteAt_48 rfl (lv_at hl 1 rfl) ?_
      refine lv_ldc2 hx hb hown (hts _ u_2480) d_M_byteAt_49 ?_
      refine W.lcmp hx hb d_M_byteAt_52 ?_
      refine lv_if_lt (tgt := 78) hx hb d_M_byteAt_53 (by decide) (fun c3 => ?_) (fun c3 => ?_)
      · have h := if_t ((lg_cmp_lt _ _).mp c3) h
        refine lv_aload_n hx hb d_M_byteAt_78 rfl (lv_at hl 0 rfl) ?_
        refine g_M_36 hx hb hts hown hK hP hwf hj0 (hts _ u_1777) d_M_byteAt_79 ?_
        obtain ⟨j4, e5, h⟩ := bd_ob h
        have hj4 : j4 < N 14 := (hwf.2.1 1 j0 36 _ e5 (by decide) hj0)
        refine me_opt (j := j4) e5 ?_
        refine lv_lload_n hx hb d_M_byteAt_82 rfl (lv_at hl 1 rfl) ?_
        refine lv_ldc2 hx hb hown (hts _ u_2463) d_M_byteAt_83 ?_
        refine lv_lsub hx hb d_M_byteAt_86 ?_
        refine lv_l2i (v := (x1 - 1099511627776).toInt32) hx hb d_M_byteAt_87 rfl ?_
        obtain ⟨g6, h⟩ := gd_ob h
        refine me_bald hx hb hK hP hwf hj4 g6 d_M_byteAt_88 ?_
        refine lv_sipush (v := 255) hx hb d_M_byteAt_89 (by decide) ?_
        refine lv_iand hx hb d_M_byteAt_92 ?_
        exact me_reti (me_kp M0) h hx hb hr hlocks hwf hkp hP hK hD hS d_M_byteAt_93
      have h := if_f (fun z => c3 ((lg_cmp_lt _ _).mpr z)) h
      refine lv_aload_n hx hb d_M_byteAt_56 rfl (lv_at hl 0 rfl) ?_
      refine g_M_44 hx hb hts hown hK hP hwf hj0 (hts _ u_1785) d_M_byteAt_57 ?_
      obtain ⟨j7, e8, h⟩ := bd_ob h
      have hj7 : j7 < N 14 := (hwf.2.1 1 j0 44 _ e8 (by decide) hj0)
      refine me_opt (j := j7) e8 ?_
      refine lv_lload_n hx hb d_M_byteAt_60 rfl (lv_at hl 1 rfl) ?_
      refine lv_ldc2 hx hb hown (hts _ u_2464) d_M_byteAt_61 ?_
      refine lv_lsub hx hb d_M_byteAt_64 ?_
      refine lv_ldc2 hx hb hown (hts _ u_2311) d_M_byteAt_65 ?_
      refine lv_ladd hx hb d_M_byteAt_68 ?_
      refine lv_l2i (v := ((x1 - 2199023255552) + 512).toInt32) hx hb d_M_byteAt_69 rfl ?_
      obtain ⟨g9, h⟩ := gd_ob h
      refine me_bald hx hb hK hP hwf hj7 g9 d_M_byteAt_70 ?_
      refine lv_sipush (v := 255) hx hb d_M_byteAt_71 (by decide) ?_
      refine lv_iand hx hb d_M_byteAt_74 ?_
      obtain ⟨v10, ev10, h⟩ := st_ob h
      refine fg_topi (y := v10) ev10.symm ?_
      refine lv_goto (tgt := 93) hx hb d_M_byteAt_75 (by decide) ?_
      exact me_reti (me_kp M0) h hx hb hr hlocks hwf hkp hP hK hD hS d_M_byteAt_93
    have h := if_f (fun z => c2 ((lg_cmp_lt _ _).mpr z)) h
    refine lv_aload_n hx hb d_M_byteAt_32 rfl (lv_at hl 0 rfl) ?_
    refine g_M_35 hx hb hts hown hK hP hwf hj0 (hts _ u_1776) d_M_byteAt_33 ?_
    obtain ⟨j11, e12, h⟩ := bd_ob h
    have hj11 : j11 < N 14 := (hwf.2.1 1 j0 35 _ e12 (by decide) hj0)
    refine me_opt (j := j11) e12 ?_
    refine lv_lload_n hx hb d_M_byteAt_36 rfl (lv_at hl 1 rfl) ?_
    refine lv_ldc2 hx hb hown (hts _ u_2473) d_M_byteAt_37 ?_
    refine lv_lsub hx hb d_M_byteAt_40 ?_
    refine lv_l2i (v := (x1 - 3298534883328).toInt32) hx hb d_M_byteAt_41 rfl ?_
    obtain ⟨g13, h⟩ := gd_ob h
    refine me_bald hx hb hK hP hwf hj11 g13 d_M_byteAt_42 ?_
    refine lv_sipush (v := 255) hx hb d_M_byteAt_43 (by decide) ?_
    refine lv_iand hx hb d_M_byteAt_46 ?_
    exact me_reti (me_kp M0) h hx hb hr hlocks hwf hkp hP hK hD hS d_M_byteAt_47
  have h := if_f (fun z => c1 ((lg_cmp_lt _ _).mpr z)) h
  refine lv_aload_n hx hb d_M_byteAt_8 rfl (lv_at hl 0 rfl) ?_
  refine g_M_11 hx hb hts hown hK hP hwf hj0 (hts _ u_1752) d_M_byteAt_9 ?_
  obtain ⟨j14, e15, h⟩ := bd_ob h
  have hj14 : j14 < N 14 := (hwf.2.1 1 j0 11 _ e15 (by decide) hj0)
  refine me_opt (j := j14) e15 ?_
  refine lv_lload_n hx hb d_M_byteAt_12 rfl (lv_at hl 1 rfl) ?_
  refine lv_ldc2 hx hb hown (hts _ u_2479) d_M_byteAt_13 ?_
  refine lv_lsub hx hb d_M_byteAt_16 ?_
  refine lv_l2i (v := (x1 - 4398046511104).toInt32) hx hb d_M_byteAt_17 rfl ?_
  obtain ⟨g16, h⟩ := gd_ob h
  refine me_bald hx hb hK hP hwf hj14 g16 d_M_byteAt_18 ?_
  refine lv_sipush (v := 255) hx hb d_M_byteAt_19 (by decide) ?_
  refine lv_iand hx hb d_M_byteAt_22 ?_
  exact me_reti (me_kp M0) h hx hb hr hlocks hwf hkp hP hK hD hS d_M_byteAt_23
theorem d_M_setByte_0 : decode prog_14_method_127_code 0 = .ok (.lload_n 1, 1) := by decide +kernel
theorem d_M_setByte_1 : decode prog_14_method_127_code 1 = .ok (.ldc2_w 629, 3) := by decide +kernel
theorem d_M_setByte_4 : decode prog_14_method_127_code 4 = .ok (.lcmp, 1) := by decide +kernel
theorem d_M_setByte_5 : decode prog_14_method_127_code 5 = .ok (.ifCond .lt 19, 3) := by decide +kernel
theorem d_M_setByte_24 : decode prog_14_method_127_code 24 = .ok (.lload_n 1, 1) := by decide +kernel
theorem d_M_setByte_25 : decode prog_14_method_127_code 25 = .ok (.ldc2_w 631, 3) := by decide +kernel
theorem d_M_setByte_28 : decode prog_14_method_127_code 28 = .ok (.lcmp, 1) := by decide +kernel
theorem d_M_setByte_29 : decode prog_14_method_127_code 29 = .ok (.ifCond .lt 19, 3) := by decide +kernel
theorem d_M_setByte_48 : decode prog_14_method_127_code 48 = .ok (.aload_n 0, 1) := by decide +kernel
theorem d_M_setByte_49 : decode prog_14_method_127_code 49 = .ok (.getfield 80, 3) := by decide +kernel
theorem d_M_setByte_52 : decode prog_14_method_127_code 52 = .ok (.lload_n 1, 1) := by decide +kernel
theorem d_M_setByte_53 : decode prog_14_method_127_code 53 = .ok (.ldc2_w 635, 3) := by decide +kernel
theorem d_M_setByte_56 : decode prog_14_method_127_code 56 = .ok (.lsub, 1) := by decide +kernel
theorem d_M_setByte_57 : decode prog_14_method_127_code 57 = .ok (.ldc2_w 446, 3) := by decide +kernel
theorem d_M_setByte_60 : decode prog_14_method_127_code 60 = .ok (.ladd, 1) := by decide +kernel
theorem d_M_setByte_61 : decode prog_14_method_127_code 61 = .ok (.l2i, 1) := by decide +kernel
theorem d_M_setByte_62 : decode prog_14_method_127_code 62 = .ok (.iload_n 3, 1) := by decide +kernel
theorem d_M_setByte_63 : decode prog_14_method_127_code 63 = .ok (.i2b, 1) := by decide +kernel
theorem d_M_setByte_64 : decode prog_14_method_127_code 64 = .ok (.bastore, 1) := by decide +kernel
theorem d_M_setByte_65 : decode prog_14_method_127_code 65 = .ok (.return_, 1) := by decide +kernel
theorem d_M_setByte_32 : decode prog_14_method_127_code 32 = .ok (.aload_n 0, 1) := by decide +kernel
theorem d_M_setByte_33 : decode prog_14_method_127_code 33 = .ok (.getfield 68, 3) := by decide +kernel
theorem d_M_setByte_36 : decode prog_14_method_127_code 36 = .ok (.lload_n 1, 1) := by decide +kernel
theorem d_M_setByte_37 : decode prog_14_method_127_code 37 = .ok (.ldc2_w 631, 3) := by decide +kernel
theorem d_M_setByte_40 : decode prog_14_method_127_code 40 = .ok (.lsub, 1) := by decide +kernel
theorem d_M_setByte_41 : decode prog_14_method_127_code 41 = .ok (.l2i, 1) := by decide +kernel
theorem d_M_setByte_42 : decode prog_14_method_127_code 42 = .ok (.iload_n 3, 1) := by decide +kernel
theorem d_M_setByte_43 : decode prog_14_method_127_code 43 = .ok (.i2b, 1) := by decide +kernel
theorem d_M_setByte_44 : decode prog_14_method_127_code 44 = .ok (.bastore, 1) := by decide +kernel
theorem d_M_setByte_45 : decode prog_14_method_127_code 45 = .ok (.goto 20, 3) := by decide +kernel
theorem d_M_setByte_8 : decode prog_14_method_127_code 8 = .ok (.aload_n 0, 1) := by decide +kernel
theorem d_M_setByte_9 : decode prog_14_method_127_code 9 = .ok (.getfield 34, 3) := by decide +kernel
theorem d_M_setByte_12 : decode prog_14_method_127_code 12 = .ok (.lload_n 1, 1) := by decide +kernel
theorem d_M_setByte_13 : decode prog_14_method_127_code 13 = .ok (.ldc2_w 629, 3) := by decide +kernel
theorem d_M_setByte_16 : decode prog_14_method_127_code 16 = .ok (.lsub, 1) := by decide +kernel
theorem d_M_setByte_17 : decode prog_14_method_127_code 17 = .ok (.l2i, 1) := by decide +kernel
theorem d_M_setByte_18 : decode prog_14_method_127_code 18 = .ok (.iload_n 3, 1) := by decide +kernel
theorem d_M_setByte_19 : decode prog_14_method_127_code 19 = .ok (.i2b, 1) := by decide +kernel
theorem d_M_setByte_20 : decode prog_14_method_127_code 20 = .ok (.bastore, 1) := by decide +kernel
theorem d_M_setByte_21 : decode prog_14_method_127_code 21 = .ok (.goto 44, 3) := by decide +kernel
abbrev y_M_setByte : MethodName := ⟨"FilterGuardModel", "setByte", "(JI)V"⟩
def rm_M_setByte : Room := { frames := 1, cells := 0, slots := 0, locals := 20 }
abbrev q_M_setByte (D : va_G) (ad : Nat → Nat → Nat) (ca : Nat → ClassId) (N : Nat → Nat) (M0 MZ : me_M) (A : Nat → Prop) : Array Value → Jvm.State → Outcome → Jvm.State → Prop := va_Qv (fun (_ : Unit) => me_wf N MZ ∧ me_kp M0 MZ) (fg_B D A (fun _ => me_W ad ca MZ) (fun _ => [])) A
set_option maxHeartbeats 4000000 in
set_option maxRecDepth 100000 in
theorem c_M_setByte (l : Launch) (D : va_G) (ad : Nat → Nat → Nat) (ca : Nat → ClassId) (N : Nat → Nat) (M0 MZ : me_M) (j0 : Nat) (x1 : Int64) (x3 : Int32) (h : f_M_setByte M0 j0 x1 x3 = (some MZ)) (hwf : me_wf N M0) (hj0 : j0 < N 1) (sz : Nat) : Met l y_M_setByte (fg_w y_M_setByte prog_14_method_127_code 4 none) rm_M_setByte (va_Pc [.ref (ad 1 j0), .long x1, .int x3] (fz_P D (me_T ca) (me_W ad ca M0) sz)) (q_M_setByte D ad ca N M0 MZ (va_A (me_W ad ca M0) sz)) rm_M_setByte.cells rm_M_setByte.slots (va_A (me_W ad ca M0) sz) := by
  refine fz_enter (fun A => q_M_setByte D ad ca N M0 MZ A) (by decide +kernel) (Nat.le_of_ble_eq_true rfl) ?_
  intro p e s m below meth c ls A hx hb hml hown hts hr hlocks hin hP hK hD hS hA hX hl hz
  have hl : lv_has ls 4 [(0, .ref (ad 1 j0)), (1, .long x1), (3, .int x3)] := hl
  unfold f_M_setByte at h
  have hkp : me_kp M0 M0 := me_kp.rf
  have hkb := hkp
  refine lv_lload_n hx hb d_M_setByte_0 rfl (lv_at hl 1 rfl) ?_
  refine lv_ldc2 hx hb hown (hts _ u_2479) d_M_setByte_1 ?_
  refine W.lcmp hx hb d_M_setByte_4 ?_
  refine lv_if_lt (tgt := 24) hx hb d_M_setByte_5 (by decide) (fun c1 => ?_) (fun c1 => ?_)
  · have h := if_t ((lg_cmp_lt _ _).mp c1) h
    refine lv_lload_n hx hb d_M_setByte_24 rfl (lv_at hl 1 rfl) ?_
    refine lv_ldc2 hx hb hown (hts _ u_2473) d_M_setByte_25 ?_
    refine W.lcmp hx hb d_M_setByte_28 ?_
    refine lv_if_lt (tgt := 48) hx hb d_M_setByte_29 (by decide) (fun c2 => ?_) (fun c2 => ?_)
    · have h := if_t ((lg_cmp_lt _ _).mp c2) h
      refine lv_aload_n hx hb d_M_setByte_48 rfl (lv_at hl 0 rfl) ?_
      refine g_M_44 hx hb hts hown hK hP hwf hj0 (hts _ u_1785) d_M_setByte_49 ?_
      obtain ⟨j3, e4, h⟩ := bd_ob h
      have hj3 : j3 < N 14 := (hwf.2.1 1 j0 44 _ e4 (by decide) hj0)
      refine me_opt (j := j3) e4 ?_
      refine lv_lload_n hx hb d_M_setByte_52 rfl (lv_at hl 1 rfl) ?_
      refine lv_ldc2 hx hb hown (hts _ u_2464) d_M_setByte_53 ?_
      refine lv_lsub hx hb d_M_setByte_56 ?_
      refine lv_ldc2 hx hb hown (hts _ u_2311) d_M_setByte_57 ?_
      refine lv_ladd hx hb d_M_setByte_60 ?_
      refine lv_l2i (v := ((x1 - 2199023255552) + 512).toInt32) hx hb d_M_setByte_61 rfl ?_
      refine lv_iload_n hx hb d_M_setByte_62 rfl (lv_at hl 2 rfl) ?_
      refine lv_i2b (v := x3.toInt8.toInt32) hx hb d_M_setByte_63 rfl ?_
      obtain ⟨g5, h⟩ := gd_ob h
      obtain ⟨M6, eM6, h⟩ := st_ob h
      refine me_bast eM6 hx hb hK hP hD hwf hS hj3 g5 d_M_setByte_64 (fun H locs hP hD hwf hS => ?_)
      have hkp := kp_I eM6 hkp
      exact me_retv (me_kp M0) h hx hb hr hlocks hwf hkp hP hK hD hS d_M_setByte_65
    have h := if_f (fun z => c2 ((lg_cmp_lt _ _).mpr z)) h
    refine lv_aload_n hx hb d_M_setByte_32 rfl (lv_at hl 0 rfl) ?_
    refine g_M_35 hx hb hts hown hK hP hwf hj0 (hts _ u_1776) d_M_setByte_33 ?_
    obtain ⟨j7, e8, h⟩ := bd_ob h
    have hj7 : j7 < N 14 := (hwf.2.1 1 j0 35 _ e8 (by decide) hj0)
    refine me_opt (j := j7) e8 ?_
    refine lv_lload_n hx hb d_M_setByte_36 rfl (lv_at hl 1 rfl) ?_
    refine lv_ldc2 hx hb hown (hts _ u_2473) d_M_setByte_37 ?_
    refine lv_lsub hx hb d_M_setByte_40 ?_
    refine lv_l2i (v := (x1 - 3298534883328).toInt32) hx hb d_M_setByte_41 rfl ?_
    refine lv_iload_n hx hb d_M_setByte_42 rfl (lv_at hl 2 rfl) ?_
    refine lv_i2b (v := x3.toInt8.toInt32) hx hb d_M_setByte_43 rfl ?_
    obtain ⟨g9, h⟩ := gd_ob h
    obtain ⟨M10, eM10, h⟩ := st_ob h
    refine me_bast eM10 hx hb hK hP hD hwf hS hj7 g9 d_M_setByte_44 (fun H locs hP hD hwf hS => ?_)
    have hkp := kp_I eM10 hkp
    refine lv_goto (tgt := 65) hx hb d_M_setByte_45 (by decide) ?_
    exact me_retv (me_kp M0) h hx hb hr hlocks hwf hkp hP hK hD hS d_M_setByte_65
  have h := if_f (fun z => c1 ((lg_cmp_lt _ _).mpr z)) h
  refine lv_aload_n hx hb d_M_setByte_8 rfl (lv_at hl 0 rfl) ?_
  refine g_M_11 hx hb hts hown hK hP hwf hj0 (hts _ u_1752) d_M_setByte_9 ?_
  obtain ⟨j11, e12, h⟩ := bd_ob h
  have hj11 : j11 < N 14 := (hwf.2.1 1 j0 11 _ e12 (by decide) hj0)
  refine me_opt (j := j11) e12 ?_
  refine lv_lload_n hx hb d_M_setByte_12 rfl (lv_at hl 1 rfl) ?_
  refine lv_ldc2 hx hb hown (hts _ u_2479) d_M_setByte_13 ?_
  refine lv_lsub hx hb d_M_setByte_16 ?_
  refine lv_l2i (v := (x1 - 4398046511104).toInt32) hx hb d_M_setByte_17 rfl ?_
  refine lv_iload_n hx hb d_M_setByte_18 rfl (lv_at hl 2 rfl) ?_
  refine lv_i2b (v := x3.toInt8.toInt32) hx hb d_M_setByte_19 rfl ?_
  obtain ⟨g13, h⟩ := gd_ob h
  obtain ⟨M14, eM14, h⟩ := st_ob h
  refine me_bast eM14 hx hb hK hP hD hwf hS hj11 g13 d_M_setByte_20 (fun H locs hP hD hwf hS => ?_)
  have hkp := kp_I eM14 hkp
  refine lv_goto (tgt := 65) hx hb d_M_setByte_21 (by decide) ?_
  exact me_retv (me_kp M0) h hx hb hr hlocks hwf hkp hP hK hD hS d_M_setByte_65
theorem d_M_read_50 : decode prog_14_method_128_code 50 = .ok (.iload 6, 2) := by decide +kernel
theorem d_M_read_52 : decode prog_14_method_128_code 52 = .ok (.ifCond .lt 27, 3) := by decide +kernel
theorem d_M_read_79 : decode prog_14_method_128_code 79 = .ok (.lload 4, 2) := by decide +kernel
theorem d_M_read_81 : decode prog_14_method_128_code 81 = .ok (.lreturn, 1) := by decide +kernel
theorem d_M_read_55 : decode prog_14_method_128_code 55 = .ok (.lload 4, 2) := by decide +kernel
theorem d_M_read_57 : decode prog_14_method_128_code 57 = .ok (.bipush 8, 2) := by decide +kernel
theorem d_M_read_59 : decode prog_14_method_128_code 59 = .ok (.lshl, 1) := by decide +kernel
theorem d_M_read_60 : decode prog_14_method_128_code 60 = .ok (.aload_n 0, 1) := by decide +kernel
theorem d_M_read_61 : decode prog_14_method_128_code 61 = .ok (.lload_n 1, 1) := by decide +kernel
theorem d_M_read_62 : decode prog_14_method_128_code 62 = .ok (.iload 6, 2) := by decide +kernel
theorem d_M_read_64 : decode prog_14_method_128_code 64 = .ok (.i2l, 1) := by decide +kernel
theorem d_M_read_65 : decode prog_14_method_128_code 65 = .ok (.ladd, 1) := by decide +kernel
theorem d_M_read_66 : decode prog_14_method_128_code 66 = .ok (.invokevirtual 641, 3) := by decide +kernel
theorem u_2475 : Cond.methodLink "FilterGuardModel" 641 ⟨"FilterGuardModel", "byteAt", "(J)I"⟩ ∈ fg_g := fg_in (List.mem_of_getElem? (i := 2475) (by decide +kernel)) rfl
theorem u_2478 : Cond.code ⟨"FilterGuardModel", "byteAt", "(J)I"⟩ prog_14_method_126_code 3 (some .int) ∈ fg_g := fg_in (List.mem_of_getElem? (i := 2478) (by decide +kernel)) rfl
theorem u_2477 : Cond.instanceMethod ⟨"FilterGuardModel", "byteAt", "(J)I"⟩ ∈ fg_g := fg_in (List.mem_of_getElem? (i := 2477) (by decide +kernel)) rfl
theorem u_172 : Cond.selects "FilterGuardModel" ⟨"FilterGuardModel", "byteAt", "(J)I"⟩ ⟨"FilterGuardModel", "byteAt", "(J)I"⟩ ∈ fg_g := fg_in (List.mem_of_getElem? (i := 172) (by decide +kernel)) rfl
theorem d_M_read_69 : decode prog_14_method_128_code 69 = .ok (.i2l, 1) := by decide +kernel
theorem d_M_read_70 : decode prog_14_method_128_code 70 = .ok (.lor, 1) := by decide +kernel
theorem d_M_read_71 : decode prog_14_method_128_code 71 = .ok (.lstore 4, 2) := by decide +kernel
theorem d_M_read_73 : decode prog_14_method_128_code 73 = .ok (.iinc 6 (-1), 3) := by decide +kernel
theorem d_M_read_76 : decode prog_14_method_128_code 76 = .ok (.goto (-26), 3) := by decide +kernel
theorem d_M_read_18 : decode prog_14_method_128_code 18 = .ok (.iload_n 3, 1) := by decide +kernel
theorem d_M_read_19 : decode prog_14_method_128_code 19 = .ok (.bipush 8, 2) := by decide +kernel
theorem d_M_read_21 : decode prog_14_method_128_code 21 = .ok (.if_icmp .ne 21, 3) := by decide +kernel
theorem d_M_read_42 : decode prog_14_method_128_code 42 = .ok (.lconst 0, 1) := by decide +kernel
theorem d_M_read_43 : decode prog_14_method_128_code 43 = .ok (.lstore 4, 2) := by decide +kernel
theorem d_M_read_45 : decode prog_14_method_128_code 45 = .ok (.iload_n 3, 1) := by decide +kernel
theorem d_M_read_46 : decode prog_14_method_128_code 46 = .ok (.iconst 1, 1) := by decide +kernel
theorem d_M_read_47 : decode prog_14_method_128_code 47 = .ok (.isub, 1) := by decide +kernel
theorem d_M_read_48 : decode prog_14_method_128_code 48 = .ok (.istore 6, 2) := by decide +kernel
theorem d_M_read_24 : decode prog_14_method_128_code 24 = .ok (.lload_n 1, 1) := by decide +kernel
theorem d_M_read_25 : decode prog_14_method_128_code 25 = .ok (.ldc2_w 639, 3) := by decide +kernel
theorem u_2474 : Cond.constantLong "FilterGuardModel" 639 1099511627784 ∈ fg_g := fg_in (List.mem_of_getElem? (i := 2474) (by decide +kernel)) rfl
theorem d_M_read_28 : decode prog_14_method_128_code 28 = .ok (.lcmp, 1) := by decide +kernel
theorem d_M_read_29 : decode prog_14_method_128_code 29 = .ok (.ifCond .ne 13, 3) := by decide +kernel
theorem d_M_read_32 : decode prog_14_method_128_code 32 = .ok (.ldc2_w 631, 3) := by decide +kernel
theorem d_M_read_35 : decode prog_14_method_128_code 35 = .ok (.aload_n 0, 1) := by decide +kernel
theorem d_M_read_36 : decode prog_14_method_128_code 36 = .ok (.getfield 622, 3) := by decide +kernel
theorem d_M_read_39 : decode prog_14_method_128_code 39 = .ok (.i2l, 1) := by decide +kernel
theorem d_M_read_40 : decode prog_14_method_128_code 40 = .ok (.ladd, 1) := by decide +kernel
theorem d_M_read_41 : decode prog_14_method_128_code 41 = .ok (.lreturn, 1) := by decide +kernel
theorem d_M_read_0 : decode prog_14_method_128_code 0 = .ok (.iload_n 3, 1) := by decide +kernel
theorem d_M_read_1 : decode prog_14_method_128_code 1 = .ok (.bipush 8, 2) := by decide +kernel
theorem d_M_read_3 : decode prog_14_method_128_code 3 = .ok (.if_icmp .ne 15, 3) := by decide +kernel
theorem d_M_read_6 : decode prog_14_method_128_code 6 = .ok (.lload_n 1, 1) := by decide +kernel
theorem d_M_read_7 : decode prog_14_method_128_code 7 = .ok (.ldc2_w 637, 3) := by decide +kernel
theorem d_M_read_10 : decode prog_14_method_128_code 10 = .ok (.lcmp, 1) := by decide +kernel
theorem d_M_read_11 : decode prog_14_method_128_code 11 = .ok (.ifCond .ne 7, 3) := by decide +kernel
theorem d_M_read_14 : decode prog_14_method_128_code 14 = .ok (.ldc2_w 631, 3) := by decide +kernel
theorem d_M_read_17 : decode prog_14_method_128_code 17 = .ok (.lreturn, 1) := by decide +kernel
abbrev y_M_read : MethodName := ⟨"FilterGuardModel", "read", "(JI)J"⟩
def rm_M_read : Room := { frames := 2, cells := 0, slots := 0, locals := 42 }
abbrev q_M_read (D : va_G) (ad : Nat → Nat → Nat) (ca : Nat → ClassId) (N : Nat → Nat) (M0 MZ : me_M) (RZ : Int64) (A : Nat → Prop) : Array Value → Jvm.State → Outcome → Jvm.State → Prop := va_Ql (fun r (_ : Unit) => r = RZ ∧ me_wf N MZ ∧ me_kp M0 MZ) (fg_B D A (fun _ => me_W ad ca MZ) (fun _ => [])) A
set_option maxHeartbeats 4000000 in
set_option maxRecDepth 100000 in
theorem c_M_read (l : Launch) (D : va_G) (ad : Nat → Nat → Nat) (ca : Nat → ClassId) (N : Nat → Nat) (M0 MZ : me_M) (RZ : Int64) (j0 : Nat) (x1 : Int64) (x3 : Int32) (h : f_M_read M0 j0 x1 x3 = (some (MZ, RZ))) (hwf : me_wf N M0) (hj0 : j0 < N 1) (sz : Nat) : Met l y_M_read (fg_w y_M_read prog_14_method_128_code 7 (some .long)) rm_M_read (va_Pc [.ref (ad 1 j0), .long x1, .int x3] (fz_P D (me_T ca) (me_W ad ca M0) sz)) (q_M_read D ad ca N M0 MZ RZ (va_A (me_W ad ca M0) sz)) rm_M_read.cells rm_M_read.slots (va_A (me_W ad ca M0) sz) := by
  refine fz_enter (fun A => q_M_read D ad ca N M0 MZ RZ A) (by decide +kernel) (Nat.le_of_ble_eq_true rfl) ?_
  intro p e s m below meth c ls A hx hb hml hown hts hr hlocks hin hP hK hD hS hA hX hl hz
  have hl : lv_has ls 7 [(0, .ref (ad 1 j0)), (1, .long x1), (3, .int x3)] := hl
  unfold f_M_read at h
  have hkp : me_kp M0 M0 := me_kp.rf
  have hkb := hkp
  have b_50 : ∀ (fu : Nat), ∀ (M : me_M) (y4 : Int64) (y6 : Int32) (H : Heap) (locs : List Loc) (ls : Array Slot), f_M_read_l50 j0 x1 fu M y4 y6 = (some (MZ, RZ)) → me_wf N M → me_kp M0 M → va_P D classes (me_W ad ca M) H → va_D A (me_W ad ca M) → va_S A s.heap H locs → lv_has ls 7 [(0, .ref (ad 1 j0)), (1, .long x1), (4, .long y4), (6, .int y6)] → W p l e rm_M_read s m [.ref (ad 1 j0), .long x1, .int x3].toArray below meth c H locs 0 0 (MQ below (q_M_read D ad ca N M0 MZ RZ A) [.ref (ad 1 j0), .long x1, .int x3].toArray s rm_M_read.cells rm_M_read.slots A) (F0 m 50 ls []) := by
    intro fu
    induction fu with
    | zero =>
      intro M y4 y6 H locs ls h hwf hkp hP hD hS hl
      cases h
    | succ fu ih =>
      intro M y4 y6 H locs ls h hwf hkp hP hD hS hl
      unfold f_M_read_l50 at h
      have hkb := hkp
      refine lv_iload hx hb d_M_read_50 (lv_at hl 3 rfl) ?_
      refine lv_if_lt (tgt := 79) hx hb d_M_read_52 (by decide) (fun c1 => ?_) (fun c1 => ?_)
      · have h := if_t c1 h
        refine lv_lload hx hb d_M_read_79 (lv_at hl 2 rfl) ?_
        exact me_retl (me_kp M0) h hx hb hr hlocks hwf hkp hP hK hD hS d_M_read_81
      have h := if_f c1 h
      refine lv_lload hx hb d_M_read_55 (lv_at hl 2 rfl) ?_
      refine lv_bipush (v := 8) hx hb d_M_read_57 (by decide) ?_
      refine lv_lshl (v := jlshl y4 (8 : Int32)) hx hb d_M_read_59 rfl ?_
      refine lv_aload_n hx hb d_M_read_60 rfl (lv_at hl 0 rfl) ?_
      refine lv_lload_n hx hb d_M_read_61 rfl (lv_at hl 1 rfl) ?_
      refine lv_iload hx hb d_M_read_62 (lv_at hl 3 rfl) ?_
      refine lv_i2l (v := y6.toInt64) hx hb d_M_read_64 rfl ?_
      refine lv_ladd hx hb d_M_read_65 ?_
      obtain ⟨M2, r3, eM2, h⟩ := b2_ob h
      refine me_theni0 (M1 := M2) (me_runV (C := "FilterGuardModel") (As := [.long (x1 + y6.toInt64)]) (rest := [.long (jlshl y4 (8 : Int32))]) ⟨hx, hb, hml, hown, hts⟩ (c_M_byteAt l D ad ca N M M2 r3 j0 (x1 + y6.toInt64) eM2 hwf hj0 _) rfl (by show fg_nm y_M_byteAt 1; decide +kernel) u_2475 u_2477 u_172 u_192 u_2478 ⟨Nat.le_of_ble_eq_true rfl, Nat.le_of_ble_eq_true rfl⟩ hX hz hK hP hD hwf hS hA hj0 (by decide) rfl rfl rfl hl.1 (Nat.le_of_ble_eq_true rfl) d_M_read_66 ⟨Nat.le_of_ble_eq_true rfl, Nat.le_of_ble_eq_true rfl⟩) hP hD hK hS hA rfl rfl (fun H locs hw hP hD hS => ?_)
      obtain ⟨hwf, hk9⟩ := hw
      have hkp := hkp.tr hk9
      refine lv_i2l (v := r3.toInt64) hx hb d_M_read_69 rfl ?_
      refine lv_lor hx hb d_M_read_70 ?_
      obtain ⟨v4, ev4, h⟩ := st_ob h
      refine fg_topl (y := v4) ev4.symm ?_
      refine lv_lstore (lv' := [(4, .long v4), (0, .ref (ad 1 j0)), (1, .long x1), (6, .int y6)]) hx hb d_M_read_71 hl (by decide) rfl (fun ls hl => ?_)
      refine lv_iinc (v := y6 + (-1)) (lv' := [(6, .int (y6 + (-1))), (4, .long v4), (0, .ref (ad 1 j0)), (1, .long x1)]) hx hb d_M_read_73 hl (k := 3) rfl (by rfl) (by decide) rfl (fun ls hl => ?_)
      refine lv_goto (tgt := 50) hx hb d_M_read_76 (by decide) ?_
      exact ih M2 v4 (y6 + (-1)) _ _ _ h hwf hkp hP hD hS (lv_sub hl [2, 3, 1, 0] rfl)
  have b_18 : ∀ (M : me_M) (H : Heap) (locs : List Loc) (ls : Array Slot), f_M_read_b18 j0 x1 x3 M = (some (MZ, RZ)) → me_wf N M → me_kp M0 M → va_P D classes (me_W ad ca M) H → va_D A (me_W ad ca M) → va_S A s.heap H locs → lv_has ls 7 [(0, .ref (ad 1 j0)), (1, .long x1), (3, .int x3)] → W p l e rm_M_read s m [.ref (ad 1 j0), .long x1, .int x3].toArray below meth c H locs 0 0 (MQ below (q_M_read D ad ca N M0 MZ RZ A) [.ref (ad 1 j0), .long x1, .int x3].toArray s rm_M_read.cells rm_M_read.slots A) (F0 m 18 ls []) := by
    intro M H locs ls h hwf hkp hP hD hS hl
    unfold f_M_read_b18 at h
    have hkb := hkp
    refine lv_iload_n hx hb d_M_read_18 rfl (lv_at hl 2 rfl) ?_
    refine lv_bipush (v := 8) hx hb d_M_read_19 (by decide) ?_
    refine lv_icmp_ne (tgt := 42) hx hb d_M_read_21 (by decide) (fun c5 => ?_) (fun c5 => ?_)
    · have h := if_f c5 h
      refine lv_lconst (v := 0) hx hb d_M_read_42 (by decide) ?_
      refine lv_lstore (lv' := [(4, .long 0), (0, .ref (ad 1 j0)), (1, .long x1), (3, .int x3)]) hx hb d_M_read_43 hl (by decide) rfl (fun ls hl => ?_)
      refine lv_iload_n hx hb d_M_read_45 rfl (lv_at hl 3 rfl) ?_
      refine lv_iconst (v := 1) hx hb d_M_read_46 (by decide) ?_
      refine lv_isub hx hb d_M_read_47 ?_
      obtain ⟨v6, ev6, h⟩ := st_ob h
      refine fg_topi (y := v6) ev6.symm ?_
      refine lv_istore (lv' := [(6, .int v6), (4, .long 0), (0, .ref (ad 1 j0)), (1, .long x1), (3, .int x3)]) hx hb d_M_read_48 hl (by decide) rfl (fun ls hl => ?_)
      exact b_50 _ M (0 : Int64) v6 _ _ _ h hwf hkp hP hD hS (lv_sub hl [2, 3, 1, 0] rfl)
    have h := if_t c5 h
    refine lv_lload_n hx hb d_M_read_24 rfl (lv_at hl 1 rfl) ?_
    refine lv_ldc2 hx hb hown (hts _ u_2474) d_M_read_25 ?_
    refine W.lcmp hx hb d_M_read_28 ?_
    refine lv_if_ne (tgt := 42) hx hb d_M_read_29 (by decide) (fun c7 => ?_) (fun c7 => ?_)
    · have h := if_f (fun z => c7 ((lg_cmp_eq _ _).mpr z)) h
      refine lv_lconst (v := 0) hx hb d_M_read_42 (by decide) ?_
      refine lv_lstore (lv' := [(4, .long 0), (0, .ref (ad 1 j0)), (1, .long x1), (3, .int x3)]) hx hb d_M_read_43 hl (by decide) rfl (fun ls hl => ?_)
      refine lv_iload_n hx hb d_M_read_45 rfl (lv_at hl 3 rfl) ?_
      refine lv_iconst (v := 1) hx hb d_M_read_46 (by decide) ?_
      refine lv_isub hx hb d_M_read_47 ?_
      obtain ⟨v8, ev8, h⟩ := st_ob h
      refine fg_topi (y := v8) ev8.symm ?_
      refine lv_istore (lv' := [(6, .int v8), (4, .long 0), (0, .ref (ad 1 j0)), (1, .long x1), (3, .int x3)]) hx hb d_M_read_48 hl (by decide) rfl (fun ls hl => ?_)
      exact b_50 _ M (0 : Int64) v8 _ _ _ h hwf hkp hP hD hS (lv_sub hl [2, 3, 1, 0] rfl)
    have h := if_t ((lg_cmp_eq _ _).mp c7) h
    refine lv_ldc2 hx hb hown (hts _ u_2473) d_M_read_32 ?_
    refine lv_aload_n hx hb d_M_read_35 rfl (lv_at hl 0 rfl) ?_
    refine g_M_34 hx hb hts hown hK hP hwf hj0 (hts _ u_1775) d_M_read_36 ?_
    refine lv_i2l (v := (mI M 1 j0 34).toInt64) hx hb d_M_read_39 rfl ?_
    refine lv_ladd hx hb d_M_read_40 ?_
    exact me_retl (me_kp M0) h hx hb hr hlocks hwf hkp hP hK hD hS d_M_read_41
  refine lv_iload_n hx hb d_M_read_0 rfl (lv_at hl 2 rfl) ?_
  refine lv_bipush (v := 8) hx hb d_M_read_1 (by decide) ?_
  refine lv_icmp_ne (tgt := 18) hx hb d_M_read_3 (by decide) (fun c9 => ?_) (fun c9 => ?_)
  · have h := if_f c9 h
    exact b_18 M0 _ _ _ h hwf hkp hP hD hS (lv_sub hl [0, 1, 2] rfl)
  have h := if_t c9 h
  refine lv_lload_n hx hb d_M_read_6 rfl (lv_at hl 1 rfl) ?_
  refine lv_ldc2 hx hb hown (hts _ u_2463) d_M_read_7 ?_
  refine W.lcmp hx hb d_M_read_10 ?_
  refine lv_if_ne (tgt := 18) hx hb d_M_read_11 (by decide) (fun c10 => ?_) (fun c10 => ?_)
  · have h := if_f (fun z => c10 ((lg_cmp_eq _ _).mpr z)) h
    exact b_18 M0 _ _ _ h hwf hkp hP hD hS (lv_sub hl [0, 1, 2] rfl)
  have h := if_t ((lg_cmp_eq _ _).mp c10) h
  refine lv_ldc2 hx hb hown (hts _ u_2473) d_M_read_14 ?_
  exact me_retl (me_kp M0) h hx hb hr hlocks hwf hkp hP hK hD hS d_M_read_17
