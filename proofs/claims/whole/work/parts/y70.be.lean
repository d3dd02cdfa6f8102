theorem d_G_context_0 : decode prog_1_method_10_code 0 = .ok (.iload_n 1, 1) := by decide +kernel
theorem d_G_context_1 : decode prog_1_method_10_code 1 = .ok (.ifCond .lt 16, 3) := by decide +kernel
theorem d_G_context_17 : decode prog_1_method_10_code 17 = .ok (.iconst 0, 1) := by decide +kernel
theorem d_G_context_18 : decode prog_1_method_10_code 18 = .ok (.ireturn, 1) := by decide +kernel
theorem d_G_context_4 : decode prog_1_method_10_code 4 = .ok (.iload_n 1, 1) := by decide +kernel
theorem d_G_context_5 : decode prog_1_method_10_code 5 = .ok (.bipush 64, 2) := by decide +kernel
theorem d_G_context_7 : decode prog_1_method_10_code 7 = .ok (.if_icmp .ge 10, 3) := by decide +kernel
theorem d_G_context_10 : decode prog_1_method_10_code 10 = .ok (.iload_n 1, 1) := by decide +kernel
theorem d_G_context_11 : decode prog_1_method_10_code 11 = .ok (.bipush 8, 2) := by decide +kernel
theorem d_G_context_13 : decode prog_1_method_10_code 13 = .ok (.irem, 1) := by decide +kernel
theorem d_G_context_14 : decode prog_1_method_10_code 14 = .ok (.ifCond .eq 5, 3) := by decide +kernel
theorem d_G_context_19 : decode prog_1_method_10_code 19 = .ok (.aload_n 0, 1) := by decide +kernel
theorem d_G_context_20 : decode prog_1_method_10_code 20 = .ok (.getfield 50, 3) := by decide +kernel
theorem d_G_context_23 : decode prog_1_method_10_code 23 = .ok (.iload_n 1, 1) := by decide +kernel
theorem d_G_context_24 : decode prog_1_method_10_code 24 = .ok (.lload_n 2, 1) := by decide +kernel
theorem d_G_context_25 : decode prog_1_method_10_code 25 = .ok (.invokevirtual 169, 3) := by decide +kernel
theorem u_779 : Cond.methodLink "FilterGuard" 169 ⟨"FilterGuard$Machine", "writeContext", "(IJ)V"⟩ ∈ fg_g := fg_in (List.mem_of_getElem? (i := 779) (by decide +kernel)) rfl
theorem u_782 : Cond.code ⟨"FilterGuard$Machine", "writeContext", "(IJ)V"⟩ prog_7_method_3_code 4 none ∈ fg_g := fg_in (List.mem_of_getElem? (i := 782) (by decide +kernel)) rfl
theorem u_780 : Cond.instanceMethod ⟨"FilterGuard$Machine", "writeContext", "(IJ)V"⟩ ∈ fg_g := fg_in (List.mem_of_getElem? (i := 780) (by decide +kernel)) rfl
theorem u_781 : Cond.selects "FilterGuard$Machine" ⟨"FilterGuard$Machine", "writeContext", "(IJ)V"⟩ ⟨"FilterGuard$Machine", "writeContext", "(IJ)V"⟩ ∈ fg_g := fg_in (List.mem_of_getElem? (i := 781) (by decide +kernel)) rfl
theorem d_G_context_28 : decode prog_1_method_10_code 28 = .ok (.iconst 1, 1) := by decide +kernel
theorem d_G_context_29 : decode prog_1_method_10_code 29 = .ok (.ireturn, 1) := by decide +kernel
abbrev y_G_context : MethodName := ⟨"FilterGuard", "context", "(IJ)Z"⟩
def rm_G_context : Room := { frames := 3, cells := 0, slots := 0, locals := 67 }
abbrev q_G_context (D : va_G) (ad : Nat → Nat → Nat) (ca : Nat → ClassId) (N : Nat → Nat) (M0 MZ : me_M) (RZ : Int32) (A : Nat → Prop) : Array Value → Jvm.State → Outcome → Jvm.State → Prop := va_Qi (fun r (_ : Unit) => r = RZ ∧ me_wf N MZ ∧ me_kz M0 MZ ∧ (RZ = 1 ∨ RZ = 0)) (fg_B D A (fun _ => me_W ad ca MZ) (fun _ => [])) A
set_option maxHeartbeats 4000000 in
set_option maxRecDepth 100000 in
theorem c_G_context (l : Launch) (D : va_G) (ad : Nat → Nat → Nat) (ca : Nat → ClassId) (N : Nat → Nat) (M0 MZ : me_M) (RZ : Int32) (j0 : Nat) (x1 : Int32) (x2 : Int64) (h : f_G_context M0 j0 x1 x2 = (some (MZ, RZ))) (hwf : me_wf N M0) (hj0 : j0 < N 0) (sz : Nat) : Met l y_G_context (fg_w y_G_context prog_1_method_10_code 4 (some .boolean)) rm_G_context (va_Pc [.ref (ad 0 j0), .int x1, .long x2] (fz_P D (me_T ca) (me_W ad ca M0) sz)) (q_G_context D ad ca N M0 MZ RZ (va_A (me_W ad ca M0) sz)) rm_G_context.cells rm_G_context.slots (va_A (me_W ad ca M0) sz) := by
  refine fz_enter (fun A => q_G_context D ad ca N M0 MZ RZ A) (by decide +kernel) (Nat.le_of_ble_eq_true rfl) ?_
  intro p e s m below meth c ls A hx hb hml hown hts hr hlocks hin hP hK hD hS hA hX hl hz
  have hl : lv_has ls 4 [(0, .ref (ad 0 j0)), (1, .int x1), (2, .long x2)] := hl
  unfold f_G_context at h
  have hkp : me_kz M0 M0 := me_kz.rf
  have hkb := hkp
  refine lv_iload_n hx hb d_G_context_0 rfl (lv_at hl 1 rfl) ?_
  refine lv_if_lt (tgt := 17) hx hb d_G_context_1 (by decide) (fun c1 => ?_) (fun c1 => ?_)
  · have h := if_t c1 h
    refine lv_iconst (v := 0) hx hb d_G_context_17 (by decide) ?_
    exact me_retz (me_kz M0) h (by decide) hx hb hr hlocks hwf hkp hP hK hD hS d_G_context_18
  have h := if_f c1 h
  refine lv_iload_n hx hb d_G_context_4 rfl (lv_at hl 1 rfl) ?_
  refine lv_bipush (v := 64) hx hb d_G_context_5 (by decide) ?_
  refine lv_icmp_ge (tgt := 17) hx hb d_G_context_7 (by decide) (fun c2 => ?_) (fun c2 => ?_)
  · have h := if_t c2 h
    refine lv_iconst (v := 0) hx hb d_G_context_17 (by decide) ?_
    exact me_retz (me_kz M0) h (by decide) hx hb hr hlocks hwf hkp hP hK hD hS d_G_context_18
  have h := if_f c2 h
  refine lv_iload_n hx hb d_G_context_10 rfl (lv_at hl 1 rfl) ?_
  refine lv_bipush (v := 8) hx hb d_G_context_11 (by decide) ?_
  refine lv_irem hx hb d_G_context_13 (by decide) ?_
  refine fg_topi (y := jirem x1 8) rfl ?_
  refine lv_if_eq (tgt := 19) hx hb d_G_context_14 (by decide) (fun c3 => ?_) (fun c3 => ?_)
  · have h := if_t c3 h
    refine lv_aload_n hx hb d_G_context_19 rfl (lv_at hl 0 rfl) ?_
    refine g_G_8 hx hb hts hown hK hP hwf hj0 (hts _ u_701) d_G_context_20 ?_
    obtain ⟨j4, e5, h⟩ := bd_ob h
    have hj4 : j4 < N 5 := (hwf.2.1 0 j0 8 _ e5 (by decide) hj0)
    refine me_opt (j := j4) e5 ?_
    refine lv_iload_n hx hb d_G_context_23 rfl (lv_at hl 1 rfl) ?_
    refine lv_lload_n hx hb d_G_context_24 rfl (lv_at hl 2 rfl) ?_
    obtain ⟨M6, eM6, h⟩ := bd_ob h
    refine me_thenv0 (M1 := M6) (me_runV (C := "FilterGuard$Machine") (As := [.int x1, .long x2]) (rest := []) ⟨hx, hb, hml, hown, hts⟩ (c_Machine_writeContext l D ad ca N M0 M6 j4 x1 x2 eM6 hwf hj4 _) rfl (by show fg_nm y_Machine_writeContext 2; decide +kernel) u_779 u_780 u_781 u_190 u_782 ⟨Nat.le_of_ble_eq_true rfl, Nat.le_of_ble_eq_true rfl⟩ hX hz hK hP hD hwf hS hA hj4 (by decide) rfl rfl rfl hl.1 (Nat.le_of_ble_eq_true rfl) d_G_context_25 ⟨Nat.le_of_ble_eq_true rfl, Nat.le_of_ble_eq_true rfl⟩) hP hD hK hS hA rfl rfl (fun H locs hw hP hD hS => ?_)
    obtain ⟨hwf, hk9⟩ := hw
    have hkp := hkp.tr hk9
    refine lv_iconst (v := 1) hx hb d_G_context_28 (by decide) ?_
    exact me_retz (me_kz M0) h (by decide) hx hb hr hlocks hwf hkp hP hK hD hS d_G_context_29
  have h := if_f c3 h
  refine lv_iconst (v := 0) hx hb d_G_context_17 (by decide) ?_
  exact me_retz (me_kz M0) h (by decide) hx hb hr hlocks hwf hkp hP hK hD hS d_G_context_18
theorem d_Store_isKey_3 : decode prog_12_method_3_code 3 = .ok (.iload 4, 2) := by decide +kernel
theorem d_Store_isKey_5 : decode prog_12_method_3_code 5 = .ok (.aload_n 0, 1) := by decide +kernel
theorem d_Store_isKey_6 : decode prog_12_method_3_code 6 = .ok (.getfield 15, 3) := by decide +kernel
theorem d_Store_isKey_9 : decode prog_12_method_3_code 9 = .ok (.if_icmp .ge 34, 3) := by decide +kernel
theorem d_Store_isKey_43 : decode prog_12_method_3_code 43 = .ok (.iconst 1, 1) := by decide +kernel
theorem d_Store_isKey_44 : decode prog_12_method_3_code 44 = .ok (.ireturn, 1) := by decide +kernel
theorem d_Store_isKey_12 : decode prog_12_method_3_code 12 = .ok (.aload_n 0, 1) := by decide +kernel
theorem d_Store_isKey_13 : decode prog_12_method_3_code 13 = .ok (.getfield 25, 3) := by decide +kernel
theorem g_Store_4 {p : Program} {l : Launch} {e : Env} {R : Room} {s : Jvm.State} {m : MethodId} {args : Array Value} {below : List Frame} {meth : Method} {c : Code} {H : Heap} {locs : List Loc} {cells slots : Nat} {Q : Jvm.State → Prop} {cc : ByteArray} {pc : Nat} {ls : Array Slot} {rest : List Value} {D : va_G} {ad : Nat → Nat → Nat} {ca : Nat → ClassId} {M : me_M} {N : Nat → Nat} {own : String} {index j : Nat} (hexec : p.tables.exec = Jvm.exec) (hb : c.code = cc) (hts : ∀ w ∈ fg_g, w.before args s = true) (hown : s.vm.findClass own = some m.cls) (hK : va_K D classes (me_T ca) s) (hP : va_P D classes (me_W ad ca M) H) (hwf : me_wf N M) (hj : j < N 12) (hlink : (Cond.fieldLink own index "FilterGuard$Store" "keys" "[B").before args s = true) (hdg : decode cc pc = .ok (.getfield index, 3)) (kk : W p l e R s m args below meth c H locs cells slots Q (F0 m (pc + 3) ls (va_rf ((mR M 12 j 4).map (ad 14)) :: rest))) : W p l e R s m args below meth c H locs cells slots Q (F0 m pc ls (.ref (ad 12 j) :: rest)) := me_get (k := 12) (f := 4) (C := "FilterGuard$Store") (T := F_Store) (Nf := 7) hexec hb hts i_Store hown hK hP hwf hj (by decide) rfl (by decide) (by decide) hlink (fun _ h9 => h9) hdg kk
theorem d_Store_isKey_16 : decode prog_12_method_3_code 16 = .ok (.iload_n 1, 1) := by decide +kernel
theorem d_Store_isKey_17 : decode prog_12_method_3_code 17 = .ok (.aload_n 0, 1) := by decide +kernel
theorem d_Store_isKey_18 : decode prog_12_method_3_code 18 = .ok (.getfield 15, 3) := by decide +kernel
theorem d_Store_isKey_21 : decode prog_12_method_3_code 21 = .ok (.imul, 1) := by decide +kernel
theorem d_Store_isKey_22 : decode prog_12_method_3_code 22 = .ok (.iload 4, 2) := by decide +kernel
theorem d_Store_isKey_24 : decode prog_12_method_3_code 24 = .ok (.iadd, 1) := by decide +kernel
theorem d_Store_isKey_25 : decode prog_12_method_3_code 25 = .ok (.baload, 1) := by decide +kernel
theorem d_Store_isKey_26 : decode prog_12_method_3_code 26 = .ok (.aload_n 2, 1) := by decide +kernel
theorem d_Store_isKey_27 : decode prog_12_method_3_code 27 = .ok (.iload_n 3, 1) := by decide +kernel
theorem d_Store_isKey_28 : decode prog_12_method_3_code 28 = .ok (.iload 4, 2) := by decide +kernel
theorem d_Store_isKey_30 : decode prog_12_method_3_code 30 = .ok (.iadd, 1) := by decide +kernel
theorem d_Store_isKey_31 : decode prog_12_method_3_code 31 = .ok (.baload, 1) := by decide +kernel
theorem d_Store_isKey_32 : decode prog_12_method_3_code 32 = .ok (.if_icmp .eq 5, 3) := by decide +kernel
theorem d_Store_isKey_37 : decode prog_12_method_3_code 37 = .ok (.iinc 4 1, 3) := by decide +kernel
theorem d_Store_isKey_40 : decode prog_12_method_3_code 40 = .ok (.goto (-37), 3) := by decide +kernel
theorem d_Store_isKey_35 : decode prog_12_method_3_code 35 = .ok (.iconst 0, 1) := by decide +kernel
theorem d_Store_isKey_36 : decode prog_12_method_3_code 36 = .ok (.ireturn, 1) := by decide +kernel
theorem d_Store_isKey_0 : decode prog_12_method_3_code 0 = .ok (.iconst 0, 1) := by decide +kernel
theorem d_Store_isKey_1 : decode prog_12_method_3_code 1 = .ok (.istore 4, 2) := by decide +kernel
abbrev y_Store_isKey : MethodName := ⟨"FilterGuard$Store", "isKey", "(I[BI)Z"⟩
def rm_Store_isKey : Room := { frames := 1, cells := 0, slots := 0, locals := 20 }
abbrev q_Store_isKey (D : va_G) (ad : Nat → Nat → Nat) (ca : Nat → ClassId) (N : Nat → Nat) (M0 MZ : me_M) (RZ : Int32) (A : Nat → Prop) : Array Value → Jvm.State → Outcome → Jvm.State → Prop := va_Qi (fun r (_ : Unit) => r = RZ ∧ me_wf N MZ ∧ me_kp M0 MZ ∧ (RZ = 1 ∨ RZ = 0)) (fg_B D A (fun _ => me_W ad ca MZ) (fun _ => [])) A
set_option maxHeartbeats 4000000 in
set_option maxRecDepth 100000 in
theorem c_Store_isKey (l : Launch) (D : va_G) (ad : Nat → Nat → Nat) (ca : Nat → ClassId) (N : Nat → Nat) (M0 MZ : me_M) (RZ : Int32) (j0 : Nat) (x1 : Int32) (j2 : Nat) (x3 : Int32) (h : f_Store_isKey M0 j0 x1 j2 x3 = (some (MZ, RZ))) (hwf : me_wf N M0) (hj0 : j0 < N 12) (hj2 : j2 < N 14) (sz : Nat) : Met l y_Store_isKey (fg_w y_Store_isKey prog_12_method_3_code 5 (some .boolean)) rm_Store_isKey (va_Pc [.ref (ad 12 j0), .int x1, .ref (ad 14 j2), .int x3] (fz_P D (me_T ca) (me_W ad ca M0) sz)) (q_Store_isKey D ad ca N M0 MZ RZ (va_A (me_W ad ca M0) sz)) rm_Store_isKey.cells rm_Store_isKey.slots (va_A (me_W ad ca M0) sz) := by
  refine fz_enter (fun A => q_Store_isKey D ad ca N M0 MZ RZ A) (by decide +kernel) (Nat.le_of_ble_eq_true rfl) ?_
  intro p e s m below meth c ls A hx hb hml hown hts hr hlocks hin hP hK hD hS hA hX hl hz
  have hl : lv_has ls 5 [(0, .ref (ad 12 j0)), (1, .int x1), (2, .ref (ad 14 j2)), (3, .int x3)] := hl
  unfold f_Store_isKey at h
  have hkp : me_kp M0 M0 := me_kp.rf
  have hkb := hkp
  have b_3 : ∀ (fu : Nat), ∀ (M : me_M) (y4 : Int32) (H : Heap) (locs : List Loc) (ls : Array Slot), f_Store_isKey_l3 j0 x1 j2 x3 fu M y4 = (some (MZ, RZ)) → me_wf N M → me_kp M0 M → va_P D classes (me_W ad ca M) H → va_D A (me_W ad ca M) → va_S A s.heap H locs → lv_has ls 5 [(0, .ref (ad 12 j0)), (1, .int x1), (2, .ref (ad 14 j2)), (3, .int x3), (4, .int y4)] → W p l e rm_Store_isKey s m [.ref (ad 12 j0), .int x1, .ref (ad 14 j2), .int x3].toArray below meth c H locs 0 0 (MQ below (q_Store_isKey D ad ca N M0 MZ RZ A) [.ref (ad 12 j0), .int x1, .ref (ad 14 j2), .int x3].toArray s rm_Store_isKey.cells rm_Store_isKey.slots A) (F0 m 3 ls []) := by
    intro fu
    induction fu with
    | zero =>
      intro M y4 H locs ls h hwf hkp hP hD hS hl
      cases h
    | succ fu ih =>
      intro M y4 H locs ls h hwf hkp hP hD hS hl
      unfold f_Store_isKey_l3 at h
      have hkb := hkp
      refine lv_iload hx hb d_Store_isKey_3 (lv_at hl 4 rfl) ?_
      refine lv_aload_n hx hb d_Store_isKey_5 rfl (lv_at hl 0 rfl) ?_
      refine g_Store_1 hx hb hts hown hK hP hwf hj0 (hts _ u_901) d_Store_isKey_6 ?_
      refine lv_icmp_ge (tgt := 43) hx hb d_Store_isKey_9 (by decide) (fun c1 => ?_) (fun c1 => ?_)
      · have h := if_t c1 h
        refine lv_iconst (v := 1) hx hb d_Store_isKey_43 (by decide) ?_
        exact me_retz (me_kp M0) h (by decide) hx hb hr hlocks hwf hkp hP hK hD hS d_Store_isKey_44
      have h := if_f c1 h
      refine lv_aload_n hx hb d_Store_isKey_12 rfl (lv_at hl 0 rfl) ?_
      refine g_Store_4 hx hb hts hown hK hP hwf hj0 (hts _ u_914) d_Store_isKey_13 ?_
      obtain ⟨j3, e4, h⟩ := bd_ob h
      have hj3 : j3 < N 14 := (hwf.2.1 12 j0 4 _ e4 (by decide) hj0)
      refine me_opt (j := j3) e4 ?_
      refine lv_iload_n hx hb d_Store_isKey_16 rfl (lv_at hl 1 rfl) ?_
      refine lv_aload_n hx hb d_Store_isKey_17 rfl (lv_at hl 0 rfl) ?_
      refine g_Store_1 hx hb hts hown hK hP hwf hj0 (hts _ u_901) d_Store_isKey_18 ?_
      refine lv_imul hx hb d_Store_isKey_21 ?_
      refine lv_iload hx hb d_Store_isKey_22 (lv_at hl 4 rfl) ?_
      refine lv_iadd hx hb d_Store_isKey_24 ?_
      obtain ⟨g5, h⟩ := gd_ob h
      refine me_bald hx hb hK hP hwf hj3 g5 d_Store_isKey_25 ?_
      refine lv_aload_n hx hb d_Store_isKey_26 rfl (lv_at hl 2 rfl) ?_
      refine lv_iload_n hx hb d_Store_isKey_27 rfl (lv_at hl 3 rfl) ?_
      refine lv_iload hx hb d_Store_isKey_28 (lv_at hl 4 rfl) ?_
      refine lv_iadd hx hb d_Store_isKey_30 ?_
      obtain ⟨g6, h⟩ := gd_ob h
      refine me_bald hx hb hK hP hwf hj2 g6 d_Store_isKey_31 ?_
      refine lv_icmp_eq (tgt := 37) hx hb d_Store_isKey_32 (by decide) (fun c7 => ?_) (fun c7 => ?_)
      · have h := if_t c7 h
        refine lv_iinc (v := y4 + 1) (lv' := [(4, .int (y4 + 1)), (0, .ref (ad 12 j0)), (1, .int x1), (2, .ref (ad 14 j2)), (3, .int x3)]) hx hb d_Store_isKey_37 hl (k := 4) rfl (by rfl) (by decide) rfl (fun ls hl => ?_)
        refine lv_goto (tgt := 3) hx hb d_Store_isKey_40 (by decide) ?_
        exact ih M (y4 + 1) _ _ _ h hwf hkp hP hD hS (lv_sub hl [1, 2, 3, 4, 0] rfl)
      have h := if_f c7 h
      refine lv_iconst (v := 0) hx hb d_Store_isKey_35 (by decide) ?_
      exact me_retz (me_kp M0) h (by decide) hx hb hr hlocks hwf hkp hP hK hD hS d_Store_isKey_36
  refine lv_iconst (v := 0) hx hb d_Store_isKey_0 (by decide) ?_
  refine lv_istore (lv' := [(4, .int 0), (0, .ref (ad 12 j0)), (1, .int x1), (2, .ref (ad 14 j2)), (3, .int x3)]) hx hb d_Store_isKey_1 hl (by decide) rfl (fun ls hl => ?_)
  exact b_3 _ M0 (0 : Int32) _ _ _ h hwf hkp hP hD hS (lv_sub hl [1, 2, 3, 4, 0] rfl)
theorem d_Store_entryOf_59 : decode prog_12_method_2_code 59 = .ok (.iload_n 3, 1) := by decide +kernel
theorem d_Store_entryOf_60 : decode prog_12_method_2_code 60 = .ok (.aload_n 0, 1) := by decide +kernel
theorem d_Store_entryOf_61 : decode prog_12_method_2_code 61 = .ok (.getfield 22, 3) := by decide +kernel
theorem g_Store_3 {p : Program} {l : Launch} {e : Env} {R : Room} {s : Jvm.State} {m : MethodId} {args : Array Value} {below : List Frame} {meth : Method} {c : Code} {H : Heap} {locs : List Loc} {cells slots : Nat} {Q : Jvm.State → Prop} {cc : ByteArray} {pc : Nat} {ls : Array Slot} {rest : List Value} {D : va_G} {ad : Nat → Nat → Nat} {ca : Nat → ClassId} {M : me_M} {N : Nat → Nat} {own : String} {index j : Nat} (hexec : p.tables.exec = Jvm.exec) (hb : c.code = cc) (hts : ∀ w ∈ fg_g, w.before args s = true) (hown : s.vm.findClass own = some m.cls) (hK : va_K D classes (me_T ca) s) (hP : va_P D classes (me_W ad ca M) H) (hwf : me_wf N M) (hj : j < N 12) (hlink : (Cond.fieldLink own index "FilterGuard$Store" "entries" "I").before args s = true) (hdg : decode cc pc = .ok (.getfield index, 3)) (kk : W p l e R s m args below meth c H locs cells slots Q (F0 m (pc + 3) ls (.int (mI M 12 j 3) :: rest))) : W p l e R s m args below meth c H locs cells slots Q (F0 m pc ls (.ref (ad 12 j) :: rest)) := me_get (k := 12) (f := 3) (C := "FilterGuard$Store") (T := F_Store) (Nf := 7) hexec hb hts i_Store hown hK hP hwf hj (by decide) rfl (by decide) (by decide) hlink (fun _ h9 => h9) hdg kk
theorem d_Store_entryOf_64 : decode prog_12_method_2_code 64 = .ok (.if_icmp .ge 30, 3) := by decide +kernel
theorem d_Store_entryOf_94 : decode prog_12_method_2_code 94 = .ok (.iconst (-1), 1) := by decide +kernel
theorem d_Store_entryOf_95 : decode prog_12_method_2_code 95 = .ok (.ireturn, 1) := by decide +kernel
theorem d_Store_entryOf_67 : decode prog_12_method_2_code 67 = .ok (.aload_n 0, 1) := by decide +kernel
theorem d_Store_entryOf_68 : decode prog_12_method_2_code 68 = .ok (.getfield 32, 3) := by decide +kernel
theorem d_Store_entryOf_71 : decode prog_12_method_2_code 71 = .ok (.iload_n 3, 1) := by decide +kernel
theorem d_Store_entryOf_72 : decode prog_12_method_2_code 72 = .ok (.baload, 1) := by decide +kernel
theorem d_Store_entryOf_73 : decode prog_12_method_2_code 73 = .ok (.ifCond .eq 15, 3) := by decide +kernel
theorem d_Store_entryOf_88 : decode prog_12_method_2_code 88 = .ok (.iinc 3 1, 3) := by decide +kernel
theorem d_Store_entryOf_91 : decode prog_12_method_2_code 91 = .ok (.goto (-32), 3) := by decide +kernel
theorem d_Store_entryOf_76 : decode prog_12_method_2_code 76 = .ok (.aload_n 0, 1) := by decide +kernel
theorem d_Store_entryOf_77 : decode prog_12_method_2_code 77 = .ok (.iload_n 3, 1) := by decide +kernel
theorem d_Store_entryOf_78 : decode prog_12_method_2_code 78 = .ok (.aload_n 1, 1) := by decide +kernel
theorem d_Store_entryOf_79 : decode prog_12_method_2_code 79 = .ok (.iload_n 2, 1) := by decide +kernel
theorem d_Store_entryOf_80 : decode prog_12_method_2_code 80 = .ok (.invokevirtual 36, 3) := by decide +kernel
theorem u_1530 : Cond.methodLink "FilterGuard$Store" 36 ⟨"FilterGuard$Store", "isKey", "(I[BI)Z"⟩ ∈ fg_g := fg_in (List.mem_of_getElem? (i := 1530) (by decide +kernel)) rfl
theorem u_1533 : Cond.code ⟨"FilterGuard$Store", "isKey", "(I[BI)Z"⟩ prog_12_method_3_code 5 (some .boolean) ∈ fg_g := fg_in (List.mem_of_getElem? (i := 1533) (by decide +kernel)) rfl
theorem u_1532 : Cond.instanceMethod ⟨"FilterGuard$Store", "isKey", "(I[BI)Z"⟩ ∈ fg_g := fg_in (List.mem_of_getElem? (i := 1532) (by decide +kernel)) rfl
theorem u_61 : Cond.selects "FilterGuard$Store" ⟨"FilterGuard$Store", "isKey", "(I[BI)Z"⟩ ⟨"FilterGuard$Store", "isKey", "(I[BI)Z"⟩ ∈ fg_g := fg_in (List.mem_of_getElem? (i := 61) (by decide +kernel)) rfl
theorem d_Store_entryOf_83 : decode prog_12_method_2_code 83 = .ok (.ifCond .eq 5, 3) := by decide +kernel
theorem d_Store_entryOf_86 : decode prog_12_method_2_code 86 = .ok (.iload_n 3, 1) := by decide +kernel
theorem d_Store_entryOf_87 : decode prog_12_method_2_code 87 = .ok (.ireturn, 1) := by decide +kernel
theorem d_Store_entryOf_12 : decode prog_12_method_2_code 12 = .ok (.iload 5, 2) := by decide +kernel
theorem d_Store_entryOf_14 : decode prog_12_method_2_code 14 = .ok (.ifCond .lt 26, 3) := by decide +kernel
theorem d_Store_entryOf_40 : decode prog_12_method_2_code 40 = .ok (.lload_n 3, 1) := by decide +kernel
theorem d_Store_entryOf_41 : decode prog_12_method_2_code 41 = .ok (.aload_n 0, 1) := by decide +kernel
theorem d_Store_entryOf_42 : decode prog_12_method_2_code 42 = .ok (.getfield 22, 3) := by decide +kernel
theorem d_Store_entryOf_45 : decode prog_12_method_2_code 45 = .ok (.i2l, 1) := by decide +kernel
theorem d_Store_entryOf_46 : decode prog_12_method_2_code 46 = .ok (.lcmp, 1) := by decide +kernel
theorem d_Store_entryOf_47 : decode prog_12_method_2_code 47 = .ok (.ifCond .ge 8, 3) := by decide +kernel
theorem d_Store_entryOf_55 : decode prog_12_method_2_code 55 = .ok (.iconst (-1), 1) := by decide +kernel
theorem d_Store_entryOf_56 : decode prog_12_method_2_code 56 = .ok (.ireturn, 1) := by decide +kernel
theorem d_Store_entryOf_50 : decode prog_12_method_2_code 50 = .ok (.lload_n 3, 1) := by decide +kernel
theorem d_Store_entryOf_51 : decode prog_12_method_2_code 51 = .ok (.l2i, 1) := by decide +kernel
theorem d_Store_entryOf_52 : decode prog_12_method_2_code 52 = .ok (.goto 4, 3) := by decide +kernel
theorem d_Store_entryOf_17 : decode prog_12_method_2_code 17 = .ok (.lload_n 3, 1) := by decide +kernel
theorem d_Store_entryOf_18 : decode prog_12_method_2_code 18 = .ok (.bipush 8, 2) := by decide +kernel
theorem d_Store_entryOf_20 : decode prog_12_method_2_code 20 = .ok (.lshl, 1) := by decide +kernel
theorem d_Store_entryOf_21 : decode prog_12_method_2_code 21 = .ok (.aload_n 1, 1) := by decide +kernel
theorem d_Store_entryOf_22 : decode prog_12_method_2_code 22 = .ok (.iload_n 2, 1) := by decide +kernel
theorem d_Store_entryOf_23 : decode prog_12_method_2_code 23 = .ok (.iload 5, 2) := by decide +kernel
theorem d_Store_entryOf_25 : decode prog_12_method_2_code 25 = .ok (.iadd, 1) := by decide +kernel
theorem d_Store_entryOf_26 : decode prog_12_method_2_code 26 = .ok (.baload, 1) := by decide +kernel
theorem d_Store_entryOf_27 : decode prog_12_method_2_code 27 = .ok (.sipush 255, 3) := by decide +kernel
theorem d_Store_entryOf_30 : decode prog_12_method_2_code 30 = .ok (.iand, 1) := by decide +kernel
theorem d_Store_entryOf_31 : decode prog_12_method_2_code 31 = .ok (.i2l, 1) := by decide +kernel
theorem d_Store_entryOf_32 : decode prog_12_method_2_code 32 = .ok (.lor, 1) := by decide +kernel
theorem d_Store_entryOf_33 : decode prog_12_method_2_code 33 = .ok (.lstore_n 3, 1) := by decide +kernel
theorem d_Store_entryOf_34 : decode prog_12_method_2_code 34 = .ok (.iinc 5 (-1), 3) := by decide +kernel
theorem d_Store_entryOf_37 : decode prog_12_method_2_code 37 = .ok (.goto (-25), 3) := by decide +kernel
theorem d_Store_entryOf_0 : decode prog_12_method_2_code 0 = .ok (.aload_n 0, 1) := by decide +kernel
theorem d_Store_entryOf_1 : decode prog_12_method_2_code 1 = .ok (.getfield 11, 3) := by decide +kernel
theorem d_Store_entryOf_4 : decode prog_12_method_2_code 4 = .ok (.ifCond .ne 53, 3) := by decide +kernel
theorem d_Store_entryOf_57 : decode prog_12_method_2_code 57 = .ok (.iconst 0, 1) := by decide +kernel
theorem d_Store_entryOf_58 : decode prog_12_method_2_code 58 = .ok (.istore_n 3, 1) := by decide +kernel
theorem d_Store_entryOf_7 : decode prog_12_method_2_code 7 = .ok (.lconst 0, 1) := by decide +kernel
theorem d_Store_entryOf_8 : decode prog_12_method_2_code 8 = .ok (.lstore_n 3, 1) := by decide +kernel
theorem d_Store_entryOf_9 : decode prog_12_method_2_code 9 = .ok (.iconst 3, 1) := by decide +kernel
theorem d_Store_entryOf_10 : decode prog_12_method_2_code 10 = .ok (.istore 5, 2) := by decide +kernel
abbrev y_Store_entryOf : MethodName := ⟨"FilterGuard$Store", "entryOf", "([BI)I"⟩
def rm_Store_entryOf : Room := { frames := 2, cells := 0, slots := 0, locals := 44 }
abbrev q_Store_entryOf (D : va_G) (ad : Nat → Nat → Nat) (ca : Nat → ClassId) (N : Nat → Nat) (M0 MZ : me_M) (RZ : Int32) (A : Nat → Prop) : Array Value → Jvm.State → Outcome → Jvm.State → Prop := va_Qi (fun r (_ : Unit) => r = RZ ∧ me_wf N MZ ∧ me_kp M0 MZ) (fg_B D A (fun _ => me_W ad ca MZ) (fun _ => [])) A
set_option maxHeartbeats 4000000 in
set_option maxRecDepth 100000 in
theorem c_Store_entryOf (l : Launch) (D : va_G) (ad : Nat → Nat → Nat) (ca : Nat → ClassId) (N : Nat → Nat) (M0 MZ : me_M) (RZ : Int32) (j0 : Nat) (j1 : Nat) (x2 : Int32) (h : f_Store_entryOf M0 j0 j1 x2 = (some (MZ, RZ))) (hwf : me_wf N M0) (hj0 : j0 < N 12) (hj1 : j1 < N 14) (sz : Nat) : Met l y_Store_entryOf (fg_w y_Store_entryOf prog_12_method_2_code 6 (some .int)) rm_Store_entryOf (va_Pc [.ref (ad 12 j0), .ref (ad 14 j1), .int x2] (fz_P D (me_T ca) (me_W ad ca M0) sz)) (q_Store_entryOf D ad ca N M0 MZ RZ (va_A (me_W ad ca M0) sz)) rm_Store_entryOf.cells rm_Store_entryOf.slots (va_A (me_W ad ca M0) sz) := by
  refine fz_enter (fun A => q_Store_entryOf D ad ca N M0 MZ RZ A) (by decide +kernel) (Nat.le_of_ble_eq_true rfl) ?_
  intro p e s m below meth c ls A hx hb hml hown hts hr hlocks hin hP hK hD hS hA hX hl hz
  have hl : lv_has ls 6 [(0, .ref (ad 12 j0)), (1, .ref (ad 14 j1)), (2, .int x2)] := hl
  unfold f_Store_entryOf at h
  have hkp : me_kp M0 M0 := me_kp.rf
  have hkb := hkp
  have b_59 : ∀ (fu : Nat), ∀ (M : me_M) (y3 : Int32) (H : Heap) (locs : List Loc) (ls : Array Slot), f_Store_entryOf_l59 j0 j1 x2 fu M y3 = (some (MZ, RZ)) → me_wf N M → me_kp M0 M → va_P D classes (me_W ad ca M) H → va_D A (me_W ad ca M) → va_S A s.heap H locs → lv_has ls 6 [(0, .ref (ad 12 j0)), (1, .ref (ad 14 j1)), (2, .int x2), (3, .int y3)] → W p l e rm_Store_entryOf s m [.ref (ad 12 j0), .ref (ad 14 j1), .int x2].toArray below meth c H locs 0 0 (MQ below (q_Store_entryOf D ad ca N M0 MZ RZ A) [.ref (ad 12 j0), .ref (ad 14 j1), .int x2].toArray s rm_Store_entryOf.cells rm_Store_entryOf.slots A) (F0 m 59 ls []) := by
    intro fu
    induction fu with
    | zero =>
      intro M y3 H locs ls h hwf hkp hP hD hS hl
      cases h
    | succ fu ih =>
      intro M y3 H locs ls h hwf hkp hP hD hS hl
      unfold f_Store_entryOf_l59 at h
      have hkb := hkp
      refine lv_iload_n hx hb d_Store_entryOf_59 rfl (lv_at hl 3 rfl) ?_
      refine lv_aload_n hx hb d_Store_entryOf_60 rfl (lv_at hl 0 rfl) ?_
      refine g_Store_3 hx hb hts hown hK hP hwf hj0 (hts _ u_911) d_Store_entryOf_61 ?_
      refine lv_icmp_ge (tgt := 94) hx hb d_Store_entryOf_64 (by decide) (fun c1 => ?_) (fun c1 => ?_)
      · have h := if_t c1 h
        refine lv_iconst (v := (-1)) hx hb d_Store_entryOf_94 (by decide) ?_
        exact me_reti (me_kp M0) h hx hb hr hlocks hwf hkp hP hK hD hS d_Store_entryOf_95
      have h := if_f c1 h
      refine lv_aload_n hx hb d_Store_entryOf_67 rfl (lv_at hl 0 rfl) ?_
      refine g_Store_6 hx hb hts hown hK hP hwf hj0 (hts _ u_917) d_Store_entryOf_68 ?_
      obtain ⟨j2, e3, h⟩ := bd_ob h
      have hj2 : j2 < N 15 := (hwf.2.1 12 j0 6 _ e3 (by decide) hj0)
      refine me_opt (j := j2) e3 ?_
      refine lv_iload_n hx hb d_Store_entryOf_71 rfl (lv_at hl 3 rfl) ?_
      obtain ⟨g4, h⟩ := gd_ob h
      refine me_zald hx hb hK hP hwf hj2 g4 d_Store_entryOf_72 ?_
      have z5 := hwf.2.2.2 15 j2 y3.toNatClampNeg rfl
      refine lv_if_eq (tgt := 88) hx hb d_Store_entryOf_73 (by decide) (fun c6 => ?_) (fun c6 => ?_)
      · have h := if_t c6 h
        refine lv_iinc (v := y3 + 1) (lv' := [(3, .int (y3 + 1)), (0, .ref (ad 12 j0)), (1, .ref (ad 14 j1)), (2, .int x2)]) hx hb d_Store_entryOf_88 hl (k := 3) rfl (by rfl) (by decide) rfl (fun ls hl => ?_)
        refine lv_goto (tgt := 59) hx hb d_Store_entryOf_91 (by decide) ?_
        exact ih M (y3 + 1) _ _ _ h hwf hkp hP hD hS (lv_sub hl [1, 2, 3, 0] rfl)
      have h := if_f c6 h
      refine lv_aload_n hx hb d_Store_entryOf_76 rfl (lv_at hl 0 rfl) ?_
      refine lv_iload_n hx hb d_Store_entryOf_77 rfl (lv_at hl 3 rfl) ?_
      refine lv_aload_n hx hb d_Store_entryOf_78 rfl (lv_at hl 1 rfl) ?_
      refine lv_iload_n hx hb d_Store_entryOf_79 rfl (lv_at hl 2 rfl) ?_
      obtain ⟨M7, r8, eM7, h⟩ := b2_ob h
      refine me_theni0 (M1 := M7) (me_runV (C := "FilterGuard$Store") (As := [.int y3, .ref (ad 14 j1), .int x2]) (rest := []) ⟨hx, hb, hml, hown, hts⟩ (c_Store_isKey l D ad ca N M M7 r8 j0 y3 j1 x2 eM7 hwf hj0 hj1 _) rfl (by show fg_nm y_Store_isKey 3; decide +kernel) u_1530 u_1532 u_61 u_201 u_1533 ⟨Nat.le_of_ble_eq_true rfl, Nat.le_of_ble_eq_true rfl⟩ hX hz hK hP hD hwf hS hA hj0 (by decide) rfl rfl rfl hl.1 (Nat.le_of_ble_eq_true rfl) d_Store_entryOf_80 ⟨Nat.le_of_ble_eq_true rfl, Nat.le_of_ble_eq_true rfl⟩) hP hD hK hS hA rfl rfl (fun H locs hw hP hD hS => ?_)
      obtain ⟨hwf, hk9, zr8⟩ := hw
      have hkp := hkp.tr hk9
      refine lv_if_eq (tgt := 88) hx hb d_Store_entryOf_83 (by decide) (fun c9 => ?_) (fun c9 => ?_)
      · have h := if_t c9 h
        refine lv_iinc (v := y3 + 1) (lv' := [(3, .int (y3 + 1)), (0, .ref (ad 12 j0)), (1, .ref (ad 14 j1)), (2, .int x2)]) hx hb d_Store_entryOf_88 hl (k := 3) rfl (by rfl) (by decide) rfl (fun ls hl => ?_)
        refine lv_goto (tgt := 59) hx hb d_Store_entryOf_91 (by decide) ?_
        exact ih M7 (y3 + 1) _ _ _ h hwf hkp hP hD hS (lv_sub hl [1, 2, 3, 0] rfl)
      have h := if_f c9 h
      refine lv_iload_n hx hb d_Store_entryOf_86 rfl (lv_at hl 3 rfl) ?_
      exact me_reti (me_kp M0) h hx hb hr hlocks hwf hkp hP hK hD hS d_Store_entryOf_87
  have b_12 : ∀ (fu : Nat), ∀ (M : me_M) (y3 : Int64) (y5 : Int32) (H : Heap) (locs : List Loc) (ls : Array Slot), f_Store_entryOf_l12 j0 j1 x2 fu M y3 y5 = (some (MZ, RZ)) → me_wf N M → me_kp M0 M → va_P D classes (me_W ad ca M) H → va_D A (me_W ad ca M) → va_S A s.heap H locs → lv_has ls 6 [(0, .ref (ad 12 j0)), (1, .ref (ad 14 j1)), (2, .int x2), (3, .long y3), (5, .int y5)] → W p l e rm_Store_entryOf s m [.ref (ad 12 j0), .ref (ad 14 j1), .int x2].toArray below meth c H locs 0 0 (MQ below (q_Store_entryOf D ad ca N M0 MZ RZ A) [.ref (ad 12 j0), .ref (ad 14 j1), .int x2].toArray s rm_Store_entryOf.cells rm_Store_entryOf.slots A) (F0 m 12 ls []) := by
    intro fu
    induction fu with
    | zero =>
      intro M y3 y5 H locs ls h hwf hkp hP hD hS hl
      cases h
    | succ fu ih =>
      intro M y3 y5 H locs ls h hwf hkp hP hD hS hl
      unfold f_Store_entryOf_l12 at h
      have hkb := hkp
      refine lv_iload hx hb d_Store_entryOf_12 (lv_at hl 4 rfl) ?_
      refine lv_if_lt (tgt := 40) hx hb d_Store_entryOf_14 (by decide) (fun c10 => ?_) (fun c10 => ?_)
      · have h := if_t c10 h
        refine lv_lload_n hx hb d_Store_entryOf_40 rfl (lv_at hl 3 rfl) ?_
        refine lv_aload_n hx hb d_Store_entryOf_41 rfl (lv_at hl 0 rfl) ?_
        refine g_Store_3 hx hb hts hown hK hP hwf hj0 (hts _ u_911) d_Store_entryOf_42 ?_
        refine lv_i2l (v := (mI M 12 j0 3).toInt64) hx hb d_Store_entryOf_45 rfl ?_
        refine W.lcmp hx hb d_Store_entryOf_46 ?_
        refine lv_if_ge (tgt := 55) hx hb d_Store_entryOf_47 (by decide) (fun c11 => ?_) (fun c11 => ?_)
        · have h := if_f (Int64.not_lt.mpr ((lg_cmp_ge _ _).mp c11)) h
          refine lv_iconst (v := (-1)) hx hb d_Store_entryOf_55 (by decide) ?_
          exact me_reti (me_kp M0) h hx hb hr hlocks hwf hkp hP hK hD hS d_Store_entryOf_56
        have h := if_t (Int64.not_le.mp (fun z => c11 ((lg_cmp_ge _ _).mpr z))) h
        refine lv_lload_n hx hb d_Store_entryOf_50 rfl (lv_at hl 3 rfl) ?_
        refine lv_l2i (v := y3.toInt32) hx hb d_Store_entryOf_51 rfl ?_
        refine lv_goto (tgt := 56) hx hb d_Store_entryOf_52 (by decide) ?_
        exact me_reti (me_kp M0) h hx hb hr hlocks hwf hkp hP hK hD hS d_Store_entryOf_56
      have h := if_f c10 h
      refine lv_lload_n hx hb d_Store_entryOf_17 rfl (lv_at hl 3 rfl) ?_
      refine lv_bipush (v := 8) hx hb d_Store_entryOf_18 (by decide) ?_
      refine lv_lshl (v := jlshl y3 (8 : Int32)) hx hb d_Store_entryOf_20 rfl ?_
      refine lv_aload_n hx hb d_Store_entryOf_21 rfl (lv_at hl 1 rfl) ?_
      refine lv_iload_n hx hb d_Store_entryOf_22 rfl (lv_at hl 2 rfl) ?_
      refine lv_iload hx hb d_Store_entryOf_23 (lv_at hl 4 rfl) ?_
      refine lv_iadd hx hb d_Store_entryOf_25 ?_
      obtain ⟨g12, h⟩ := gd_ob h
      refine me_bald hx hb hK hP hwf hj1 g12 d_Store_entryOf_26 ?_
      refine lv_sipush (v := 255) hx hb d_Store_entryOf_27 (by decide) ?_
      refine lv_iand hx hb d_Store_entryOf_30 ?_
      refine lv_i2l (v := ((mI M 14 j1 (x2 + y5).toNatClampNeg) &&& 255).toInt64) hx hb d_Store_entryOf_31 rfl ?_
      refine lv_lor hx hb d_Store_entryOf_32 ?_
      obtain ⟨v13, ev13, h⟩ := st_ob h
      refine fg_topl (y := v13) ev13.symm ?_
      refine lv_lstore_n (lv' := [(3, .long v13), (0, .ref (ad 12 j0)), (1, .ref (ad 14 j1)), (2, .int x2), (5, .int y5)]) hx hb d_Store_entryOf_33 rfl hl (by decide) rfl (fun ls hl => ?_)
      refine lv_iinc (v := y5 + (-1)) (lv' := [(5, .int (y5 + (-1))), (3, .long v13), (0, .ref (ad 12 j0)), (1, .ref (ad 14 j1)), (2, .int x2)]) hx hb d_Store_entryOf_34 hl (k := 4) rfl (by rfl) (by decide) rfl (fun ls hl => ?_)
      refine lv_goto (tgt := 12) hx hb d_Store_entryOf_37 (by decide) ?_
      exact ih M v13 (y5 + (-1)) _ _ _ h hwf hkp hP hD hS (lv_sub hl [2, 3, 4, 1, 0] rfl)
  refine lv_aload_n hx hb d_Store_entryOf_0 rfl (lv_at hl 0 rfl) ?_
  refine g_Store_0 hx hb hts hown hK hP hwf hj0 (hts _ u_900) d_Store_entryOf_1 ?_
  have z14 := (hwf.2.2.2 12 j0 0 rfl)
  refine lv_if_ne (tgt := 57) hx hb d_Store_entryOf_4 (by decide) (fun c15 => ?_) (fun c15 => ?_)
  · have h := if_f c15 h
    refine lv_iconst (v := 0) hx hb d_Store_entryOf_57 (by decide) ?_
    refine lv_istore_n (lv' := [(3, .int 0), (0, .ref (ad 12 j0)), (1, .ref (ad 14 j1)), (2, .int x2)]) hx hb d_Store_entryOf_58 rfl hl (by decide) rfl (fun ls hl => ?_)
    exact b_59 _ M0 (0 : Int32) _ _ _ h hwf hkp hP hD hS (lv_sub hl [1, 2, 3, 0] rfl)
  have h := if_t c15 h
  refine lv_lconst (v := 0) hx hb d_Store_entryOf_7 (by decide) ?_
  refine lv_lstore_n (lv' := [(3, .long 0), (0, .ref (ad 12 j0)), (1, .ref (ad 14 j1)), (2, .int x2)]) hx hb d_Store_entryOf_8 rfl hl (by decide) rfl (fun ls hl => ?_)
  refine lv_iconst (v := 3) hx hb d_Store_entryOf_9 (by decide) ?_
  refine lv_istore (lv' := [(5, .int 3), (3, .long 0), (0, .ref (ad 12 j0)), (1, .ref (ad 14 j1)), (2, .int x2)]) hx hb d_Store_entryOf_10 hl (by decide) rfl (fun ls hl => ?_)
  exact b_12 _ M0 (0 : Int64) (3 : Int32) _ _ _ h hwf hkp hP hD hS (lv_sub hl [2, 3, 4, 1, 0] rfl)
theorem d_Store_leastFree_2 : decode prog_12_method_4_code 2 = .ok (.iload_n 1, 1) := by decide +kernel
theorem d_Store_leastFree_3 : decode prog_12_method_4_code 3 = .ok (.aload_n 0, 1) := by decide +kernel
theorem d_Store_leastFree_4 : decode prog_12_method_4_code 4 = .ok (.getfield 22, 3) := by decide +kernel
theorem d_Store_leastFree_7 : decode prog_12_method_4_code 7 = .ok (.if_icmp .ge 20, 3) := by decide +kernel
theorem d_Store_leastFree_27 : decode prog_12_method_4_code 27 = .ok (.iconst (-1), 1) := by decide +kernel
theorem d_Store_leastFree_28 : decode prog_12_method_4_code 28 = .ok (.ireturn, 1) := by decide +kernel
theorem d_Store_leastFree_10 : decode prog_12_method_4_code 10 = .ok (.aload_n 0, 1) := by decide +kernel
theorem d_Store_leastFree_11 : decode prog_12_method_4_code 11 = .ok (.getfield 32, 3) := by decide +kernel
theorem d_Store_leastFree_14 : decode prog_12_method_4_code 14 = .ok (.iload_n 1, 1) := by decide +kernel
theorem d_Store_leastFree_15 : decode prog_12_method_4_code 15 = .ok (.baload, 1) := by decide +kernel
theorem d_Store_leastFree_16 : decode prog_12_method_4_code 16 = .ok (.ifCond .ne 5, 3) := by decide +kernel
theorem d_Store_leastFree_21 : decode prog_12_method_4_code 21 = .ok (.iinc 1 1, 3) := by decide +kernel
theorem d_Store_leastFree_24 : decode prog_12_method_4_code 24 = .ok (.goto (-22), 3) := by decide +kernel
theorem d_Store_leastFree_19 : decode prog_12_method_4_code 19 = .ok (.iload_n 1, 1) := by decide +kernel
theorem d_Store_leastFree_20 : decode prog_12_method_4_code 20 = .ok (.ireturn, 1) := by decide +kernel
theorem d_Store_leastFree_0 : decode prog_12_method_4_code 0 = .ok (.iconst 0, 1) := by decide +kernel
theorem d_Store_leastFree_1 : decode prog_12_method_4_code 1 = .ok (.istore_n 1, 1) := by decide +kernel
abbrev y_Store_leastFree : MethodName := ⟨"FilterGuard$Store", "leastFree", "()I"⟩
def rm_Store_leastFree : Room := { frames := 1, cells := 0, slots := 0, locals := 20 }
abbrev q_Store_leastFree (D : va_G) (ad : Nat → Nat → Nat) (ca : Nat → ClassId) (N : Nat → Nat) (M0 MZ : me_M) (RZ : Int32) (A : Nat → Prop) : Array Value → Jvm.State → Outcome → Jvm.State → Prop := va_Qi (fun r (_ : Unit) => r = RZ ∧ me_wf N MZ ∧ me_kp M0 MZ) (fg_B D A (fun _ => me_W ad ca MZ) (fun _ => [])) A
set_option maxHeartbeats 4000000 in
set_option maxRecDepth 100000 in
theorem c_Store_leastFree (l : Launch) (D : va_G) (ad : Nat → Nat → Nat) (ca : Nat → ClassId) (N : Nat → Nat) (M0 MZ : me_M) (RZ : Int32) (j0 : Nat) (h : f_Store_leastFree M0 j0 = (some (MZ, RZ))) (hwf : me_wf N M0) (hj0 : j0 < N 12) (sz : Nat) : Met l y_Store_leastFree (fg_w y_Store_leastFree prog_12_method_4_code 2 (some .int)) rm_Store_leastFree (va_Pc [.ref (ad 12 j0)] (fz_P D (me_T ca) (me_W ad ca M0) sz)) (q_Store_leastFree D ad ca N M0 MZ RZ (va_A (me_W ad ca M0) sz)) rm_Store_leastFree.cells rm_Store_leastFree.slots (va_A (me_W ad ca M0) sz) := by
  refine fz_enter (fun A => q_Store_leastFree D ad ca N M0 MZ RZ A) (by decide +kernel) (Nat.le_of_ble_eq_true rfl) ?_
  intro p e s m below meth c ls A hx hb hml hown hts hr hlocks hin hP hK hD hS hA hX hl hz
  have hl : lv_has ls 2 [(0, .ref (ad 12 j0))] := hl
  unfold f_Store_leastFree at h
  have hkp : me_kp M0 M0 := me_kp.rf
  have hkb := hkp
  have b_2 : ∀ (fu : Nat), ∀ (M : me_M) (y1 : Int32) (H : Heap) (locs : List Loc) (ls : Array Slot), f_Store_leastFree_l2 j0 fu M y1 = (some (MZ, RZ)) → me_wf N M → me_kp M0 M → va_P D classes (me_W ad ca M) H → va_D A (me_W ad ca M) → va_S A s.heap H locs → lv_has ls 2 [(0, .ref (ad 12 j0)), (1, .int y1)] → W p l e rm_Store_leastFree s m [.ref (ad 12 j0)].toArray below meth c H locs 0 0 (MQ below (q_Store_leastFree D ad ca N M0 MZ RZ A) [.ref (ad 12 j0)].toArray s rm_Store_leastFree.cells rm_Store_leastFree.slots A) (F0 m 2 ls []) := by
    intro fu
    induction fu with
    | zero =>
      intro M y1 H locs ls h hwf hkp hP hD hS hl
      cases h
    | succ fu ih =>
      intro M y1 H locs ls h hwf hkp hP hD hS hl
      unfold f_Store_leastFree_l2 at h
      have hkb := hkp
      refine lv_iload_n hx hb d_Store_leastFree_2 rfl (lv_at hl 1 rfl) ?_
      refine lv_aload_n hx hb d_Store_leastFree_3 rfl (lv_at hl 0 rfl) ?_
      refine g_Store_3 hx hb hts hown hK hP hwf hj0 (hts _ u_911) d_Store_leastFree_4 ?_
      refine lv_icmp_ge (tgt := 27) hx hb d_Store_leastFree_7 (by decide) (fun c1 => ?_) (fun c1 => ?_)
      · have h := if_t c1 h
        refine lv_iconst (v := (-1)) hx hb d_Store_leastFree_27 (by decide) ?_
        exact me_reti (me_kp M0) h hx hb hr hlocks hwf hkp hP hK hD hS d_Store_leastFree_28
      have h := if_f c1 h
      refine lv_aload_n hx hb d_Store_leastFree_10 rfl (lv_at hl 0 rfl) ?_
      refine g_Store_6 hx hb hts hown hK hP hwf hj0 (hts _ u_917) d_Store_leastFree_11 ?_
      obtain ⟨j2, e3, h⟩ := bd_ob h
      have hj2 : j2 < N 15 := (hwf.2.1 12 j0 6 _ e3 (by decide) hj0)
      refine me_opt (j := j2) e3 ?_
      refine lv_iload_n hx hb d_Store_leastFree_14 rfl (lv_at hl 1 rfl) ?_
      obtain ⟨g4, h⟩ := gd_ob h
      refine me_zald hx hb hK hP hwf hj2 g4 d_Store_leastFree_15 ?_
      have z5 := hwf.2.2.2 15 j2 y1.toNatClampNeg rfl
      refine lv_if_ne (tgt := 21) hx hb d_Store_leastFree_16 (by decide) (fun c6 => ?_) (fun c6 => ?_)
      · have h := if_f c6 h
        refine lv_iinc (v := y1 + 1) (lv' := [(1, .int (y1 + 1)), (0, .ref (ad 12 j0))]) hx hb d_Store_leastFree_21 hl (k := 1) rfl (by rfl) (by decide) rfl (fun ls hl => ?_)
        refine lv_goto (tgt := 2) hx hb d_Store_leastFree_24 (by decide) ?_
        exact ih M (y1 + 1) _ _ _ h hwf hkp hP hD hS (lv_sub hl [1, 0] rfl)
      have h := if_t c6 h
      refine lv_iload_n hx hb d_Store_leastFree_19 rfl (lv_at hl 1 rfl) ?_
      exact me_reti (me_kp M0) h hx hb hr hlocks hwf hkp hP hK hD hS d_Store_leastFree_20
  refine lv_iconst (v := 0) hx hb d_Store_leastFree_0 (by decide) ?_
  refine lv_istore_n (lv' := [(1, .int 0), (0, .ref (ad 12 j0))]) hx hb d_Store_leastFree_1 rfl hl (by decide) rfl (fun ls hl => ?_)
  exact b_2 _ M0 (0 : Int32) _ _ _ h hwf hkp hP hD hS (lv_sub hl [1, 0] rfl)
theorem d_Store_update_61 : decode prog_12_method_5_code 61 = .ok (.iload 5, 2) := by decide +kernel
theorem d_Store_update_63 : decode prog_12_method_5_code 63 = .ok (.iconst (-1), 1) := by decide +kernel
theorem d_Store_update_64 : decode prog_12_method_5_code 64 = .ok (.if_icmp .ne 5, 3) := by decide +kernel
theorem d_Store_update_69 : decode prog_12_method_5_code 69 = .ok (.aload_n 3, 1) := by decide +kernel
theorem d_Store_update_70 : decode prog_12_method_5_code 70 = .ok (.iload 4, 2) := by decide +kernel
theorem d_Store_update_72 : decode prog_12_method_5_code 72 = .ok (.aload_n 0, 1) := by decide +kernel
theorem d_Store_update_73 : decode prog_12_method_5_code 73 = .ok (.getfield 29, 3) := by decide +kernel
theorem g_Store_5 {p : Program} {l : Launch} {e : Env} {R : Room} {s : Jvm.State} {m : MethodId} {args : Array Value} {below : List Frame} {meth : Method} {c : Code} {H : Heap} {locs : List Loc} {cells slots : Nat} {Q : Jvm.State → Prop} {cc : ByteArray} {pc : Nat} {ls : Array Slot} {rest : List Value} {D : va_G} {ad : Nat → Nat → Nat} {ca : Nat → ClassId} {M : me_M} {N : Nat → Nat} {own : String} {index j : Nat} (hexec : p.tables.exec = Jvm.exec) (hb : c.code = cc) (hts : ∀ w ∈ fg_g, w.before args s = true) (hown : s.vm.findClass own = some m.cls) (hK : va_K D classes (me_T ca) s) (hP : va_P D classes (me_W ad ca M) H) (hwf : me_wf N M) (hj : j < N 12) (hlink : (Cond.fieldLink own index "FilterGuard$Store" "values" "[B").before args s = true) (hdg : decode cc pc = .ok (.getfield index, 3)) (kk : W p l e R s m args below meth c H locs cells slots Q (F0 m (pc + 3) ls (va_rf ((mR M 12 j 5).map (ad 14)) :: rest))) : W p l e R s m args below meth c H locs cells slots Q (F0 m pc ls (.ref (ad 12 j) :: rest)) := me_get (k := 12) (f := 5) (C := "FilterGuard$Store") (T := F_Store) (Nf := 7) hexec hb hts i_Store hown hK hP hwf hj (by decide) rfl (by decide) (by decide) hlink (fun _ h9 => h9) hdg kk
theorem d_Store_update_76 : decode prog_12_method_5_code 76 = .ok (.iload 5, 2) := by decide +kernel
theorem d_Store_update_78 : decode prog_12_method_5_code 78 = .ok (.aload_n 0, 1) := by decide +kernel
theorem d_Store_update_79 : decode prog_12_method_5_code 79 = .ok (.getfield 19, 3) := by decide +kernel
theorem d_Store_update_82 : decode prog_12_method_5_code 82 = .ok (.imul, 1) := by decide +kernel
theorem d_Store_update_83 : decode prog_12_method_5_code 83 = .ok (.aload_n 0, 1) := by decide +kernel
theorem d_Store_update_84 : decode prog_12_method_5_code 84 = .ok (.getfield 19, 3) := by decide +kernel
theorem d_Store_update_87 : decode prog_12_method_5_code 87 = .ok (.invokestatic 48, 3) := by decide +kernel
theorem u_1538 : Cond.methodLink "FilterGuard$Store" 48 ⟨"java/lang/System", "arraycopy", "(Ljava/lang/Object;ILjava/lang/Object;II)V"⟩ ∈ fg_g := fg_in (List.mem_of_getElem? (i := 1538) (by decide +kernel)) rfl
theorem d_Store_update_90 : decode prog_12_method_5_code 90 = .ok (.iconst 0, 1) := by decide +kernel
theorem d_Store_update_91 : decode prog_12_method_5_code 91 = .ok (.ireturn, 1) := by decide +kernel
theorem d_Store_update_67 : decode prog_12_method_5_code 67 = .ok (.iconst (-1), 1) := by decide +kernel
theorem d_Store_update_68 : decode prog_12_method_5_code 68 = .ok (.ireturn, 1) := by decide +kernel
theorem d_Store_update_0 : decode prog_12_method_5_code 0 = .ok (.aload_n 0, 1) := by decide +kernel
theorem d_Store_update_1 : decode prog_12_method_5_code 1 = .ok (.aload_n 1, 1) := by decide +kernel
theorem d_Store_update_2 : decode prog_12_method_5_code 2 = .ok (.iload_n 2, 1) := by decide +kernel
theorem d_Store_update_3 : decode prog_12_method_5_code 3 = .ok (.invokevirtual 40, 3) := by decide +kernel
theorem u_1526 : Cond.methodLink "FilterGuard$Store" 40 ⟨"FilterGuard$Store", "entryOf", "([BI)I"⟩ ∈ fg_g := fg_in (List.mem_of_getElem? (i := 1526) (by decide +kernel)) rfl
theorem u_1529 : Cond.code ⟨"FilterGuard$Store", "entryOf", "([BI)I"⟩ prog_12_method_2_code 6 (some .int) ∈ fg_g := fg_in (List.mem_of_getElem? (i := 1529) (by decide +kernel)) rfl
theorem u_1527 : Cond.instanceMethod ⟨"FilterGuard$Store", "entryOf", "([BI)I"⟩ ∈ fg_g := fg_in (List.mem_of_getElem? (i := 1527) (by decide +kernel)) rfl
theorem u_1528 : Cond.selects "FilterGuard$Store" ⟨"FilterGuard$Store", "entryOf", "([BI)I"⟩ ⟨"FilterGuard$Store", "entryOf", "([BI)I"⟩ ∈ fg_g := fg_in (List.mem_of_getElem? (i := 1528) (by decide +kernel)) rfl
theorem d_Store_update_6 : decode prog_12_method_5_code 6 = .ok (.istore 5, 2) := by decide +kernel
theorem d_Store_update_8 : decode prog_12_method_5_code 8 = .ok (.iload 5, 2) := by decide +kernel
theorem d_Store_update_10 : decode prog_12_method_5_code 10 = .ok (.iconst (-1), 1) := by decide +kernel
theorem d_Store_update_11 : decode prog_12_method_5_code 11 = .ok (.if_icmp .ne 50, 3) := by decide +kernel
theorem d_Store_update_14 : decode prog_12_method_5_code 14 = .ok (.aload_n 0, 1) := by decide +kernel
theorem d_Store_update_15 : decode prog_12_method_5_code 15 = .ok (.getfield 11, 3) := by decide +kernel
theorem d_Store_update_18 : decode prog_12_method_5_code 18 = .ok (.ifCond .eq 43, 3) := by decide +kernel
theorem d_Store_update_21 : decode prog_12_method_5_code 21 = .ok (.aload_n 0, 1) := by decide +kernel
theorem d_Store_update_22 : decode prog_12_method_5_code 22 = .ok (.invokevirtual 44, 3) := by decide +kernel
theorem u_1534 : Cond.methodLink "FilterGuard$Store" 44 ⟨"FilterGuard$Store", "leastFree", "()I"⟩ ∈ fg_g := fg_in (List.mem_of_getElem? (i := 1534) (by decide +kernel)) rfl
theorem u_1537 : Cond.code ⟨"FilterGuard$Store", "leastFree", "()I"⟩ prog_12_method_4_code 2 (some .int) ∈ fg_g := fg_in (List.mem_of_getElem? (i := 1537) (by decide +kernel)) rfl
theorem u_1536 : Cond.instanceMethod ⟨"FilterGuard$Store", "leastFree", "()I"⟩ ∈ fg_g := fg_in (List.mem_of_getElem? (i := 1536) (by decide +kernel)) rfl
theorem u_62 : Cond.selects "FilterGuard$Store" ⟨"FilterGuard$Store", "leastFree", "()I"⟩ ⟨"FilterGuard$Store", "leastFree", "()I"⟩ ∈ fg_g := fg_in (List.mem_of_getElem? (i := 62) (by decide +kernel)) rfl
theorem d_Store_update_25 : decode prog_12_method_5_code 25 = .ok (.istore 5, 2) := by decide +kernel
theorem d_Store_update_27 : decode prog_12_method_5_code 27 = .ok (.iload 5, 2) := by decide +kernel
theorem d_Store_update_29 : decode prog_12_method_5_code 29 = .ok (.iconst (-1), 1) := by decide +kernel
theorem d_Store_update_30 : decode prog_12_method_5_code 30 = .ok (.if_icmp .eq 31, 3) := by decide +kernel
theorem d_Store_update_33 : decode prog_12_method_5_code 33 = .ok (.aload_n 0, 1) := by decide +kernel
theorem d_Store_update_34 : decode prog_12_method_5_code 34 = .ok (.getfield 32, 3) := by decide +kernel
theorem d_Store_update_37 : decode prog_12_method_5_code 37 = .ok (.iload 5, 2) := by decide +kernel
theorem d_Store_update_39 : decode prog_12_method_5_code 39 = .ok (.iconst 1, 1) := by decide +kernel
theorem d_Store_update_40 : decode prog_12_method_5_code 40 = .ok (.bastore, 1) := by decide +kernel
theorem d_Store_update_41 : decode prog_12_method_5_code 41 = .ok (.aload_n 1, 1) := by decide +kernel
theorem d_Store_update_42 : decode prog_12_method_5_code 42 = .ok (.iload_n 2, 1) := by decide +kernel
theorem d_Store_update_43 : decode prog_12_method_5_code 43 = .ok (.aload_n 0, 1) := by decide +kernel
theorem d_Store_update_44 : decode prog_12_method_5_code 44 = .ok (.getfield 25, 3) := by decide +kernel
theorem d_Store_update_47 : decode prog_12_method_5_code 47 = .ok (.iload 5, 2) := by decide +kernel
theorem d_Store_update_49 : decode prog_12_method_5_code 49 = .ok (.aload_n 0, 1) := by decide +kernel
theorem d_Store_update_50 : decode prog_12_method_5_code 50 = .ok (.getfield 15, 3) := by decide +kernel
theorem d_Store_update_53 : decode prog_12_method_5_code 53 = .ok (.imul, 1) := by decide +kernel
theorem d_Store_update_54 : decode prog_12_method_5_code 54 = .ok (.aload_n 0, 1) := by decide +kernel
theorem d_Store_update_55 : decode prog_12_method_5_code 55 = .ok (.getfield 15, 3) := by decide +kernel
theorem d_Store_update_58 : decode prog_12_method_5_code 58 = .ok (.invokestatic 48, 3) := by decide +kernel
abbrev y_Store_update : MethodName := ⟨"FilterGuard$Store", "update", "([BI[BI)I"⟩
def rm_Store_update : Room := { frames := 3, cells := 0, slots := 0, locals := 69 }
abbrev q_Store_update (D : va_G) (ad : Nat → Nat → Nat) (ca : Nat → ClassId) (N : Nat → Nat) (M0 MZ : me_M) (RZ : Int32) (A : Nat → Prop) : Array Value → Jvm.State → Outcome → Jvm.State → Prop := va_Qi (fun r (_ : Unit) => r = RZ ∧ me_wf N MZ ∧ me_kp M0 MZ) (fg_B D A (fun _ => me_W ad ca MZ) (fun _ => [])) A
set_option maxHeartbeats 4000000 in
set_option maxRecDepth 100000 in
theorem c_Store_update (l : Launch) (D : va_G) (ad : Nat → Nat → Nat) (ca : Nat → ClassId) (N : Nat → Nat) (M0 MZ : me_M) (RZ : Int32) (j0 : Nat) (j1 : Nat) (x2 : Int32) (j3 : Nat) (x4 : Int32) (h : f_Store_update M0 j0 j1 x2 j3 x4 = (some (MZ, RZ))) (hwf : me_wf N M0) (hj0 : j0 < N 12) (hj1 : j1 < N 14) (hj3 : j3 < N 14) (sz : Nat) : Met l y_Store_update (fg_w y_Store_update prog_12_method_5_code 6 (some .int)) rm_Store_update (va_Pc [.ref (ad 12 j0), .ref (ad 14 j1), .int x2, .ref (ad 14 j3), .int x4] (fz_P D (me_T ca) (me_W ad ca M0) sz)) (q_Store_update D ad ca N M0 MZ RZ (va_A (me_W ad ca M0) sz)) rm_Store_update.cells rm_Store_update.slots (va_A (me_W ad ca M0) sz) := by
  refine fz_enter (fun A => q_Store_update D ad ca N M0 MZ RZ A) (by decide +kernel) (Nat.le_of_ble_eq_true rfl) ?_
  intro p e s m below meth c ls A hx hb hml hown hts hr hlocks hin hP hK hD hS hA hX hl hz
  have hl : lv_has ls 6 [(0, .ref (ad 12 j0)), (1, .ref (ad 14 j1)), (2, .int x2), (3, .ref (ad 14 j3)), (4, .int x4)] := hl
  unfold f_Store_update at h
  have hkp : me_kp M0 M0 := me_kp.rf
  have hkb := hkp
  have b_61 : ∀ (M : me_M) (y5 : Int32) (H : Heap) (locs : List Loc) (ls : Array Slot), f_Store_update_b61 j0 j3 x4 M y5 = (some (MZ, RZ)) → me_wf N M → me_kp M0 M → va_P D classes (me_W ad ca M) H → va_D A (me_W ad ca M) → va_S A s.heap H locs → lv_has ls 6 [(0, .ref (ad 12 j0)), (3, .ref (ad 14 j3)), (4, .int x4), (5, .int y5)] → W p l e rm_Store_update s m [.ref (ad 12 j0), .ref (ad 14 j1), .int x2, .ref (ad 14 j3), .int x4].toArray below meth c H locs 0 0 (MQ below (q_Store_update D ad ca N M0 MZ RZ A) [.ref (ad 12 j0), .ref (ad 14 j1), .int x2, .ref (ad 14 j3), .int x4].toArray s rm_Store_update.cells rm_Store_update.slots A) (F0 m 61 ls []) := by
    intro M y5 H locs ls h hwf hkp hP hD hS hl
    unfold f_Store_update_b61 at h
    have hkb := hkp
    refine lv_iload hx hb d_Store_update_61 (lv_at hl 3 rfl) ?_
    refine lv_iconst (v := (-1)) hx hb d_Store_update_63 (by decide) ?_
    refine lv_icmp_ne (tgt := 69) hx hb d_Store_update_64 (by decide) (fun c1 => ?_) (fun c1 => ?_)
    · have h := if_f c1 h
      refine lv_aload_n hx hb d_Store_update_69 rfl (lv_at hl 1 rfl) ?_
      refine lv_iload hx hb d_Store_update_70 (lv_at hl 2 rfl) ?_
      refine lv_aload_n hx hb d_Store_update_72 rfl (lv_at hl 0 rfl) ?_
      refine g_Store_5 hx hb hts hown hK hP hwf hj0 (hts _ u_915) d_Store_update_73 ?_
      obtain ⟨j2, e3, h⟩ := bd_ob h
      have hj2 : j2 < N 14 := (hwf.2.1 12 j0 5 _ e3 (by decide) hj0)
      refine me_opt (j := j2) e3 ?_
      refine lv_iload hx hb d_Store_update_76 (lv_at hl 3 rfl) ?_
      refine lv_aload_n hx hb d_Store_update_78 rfl (lv_at hl 0 rfl) ?_
      refine g_Store_2 hx hb hts hown hK hP hwf hj0 (hts _ u_906) d_Store_update_79 ?_
      refine lv_imul hx hb d_Store_update_82 ?_
      refine lv_aload_n hx hb d_Store_update_83 rfl (lv_at hl 0 rfl) ?_
      refine g_Store_2 hx hb hts hown hK hP hwf hj0 (hts _ u_906) d_Store_update_84 ?_
      obtain ⟨g4, h⟩ := gd_ob h
      obtain ⟨M5, eM5, h⟩ := st_ob h
      refine me_copyb eM5 hx hb (hml.trans hl.1.symm) hown (hts _ u_1538) (hts _ u_757) (hts _ u_756) (hts _ u_195) hK hP hD hwf hS hj3 hj2 g4 (Nat.le_of_ble_eq_true rfl) (Nat.le_of_ble_eq_true rfl) d_Store_update_87 (fun H locs hP hD hwf hS => ?_)
      have hkp := kp_A eM5 hkp
      refine lv_iconst (v := 0) hx hb d_Store_update_90 (by decide) ?_
      exact me_reti (me_kp M0) h hx hb hr hlocks hwf hkp hP hK hD hS d_Store_update_91
    have h := if_t c1 h
    refine lv_iconst (v := (-1)) hx hb d_Store_update_67 (by decide) ?_
    exact me_reti (me_kp M0) h hx hb hr hlocks hwf hkp hP hK hD hS d_Store_update_68
  refine lv_aload_n hx hb d_Store_update_0 rfl (lv_at hl 0 rfl) ?_
  refine lv_aload_n hx hb d_Store_update_1 rfl (lv_at hl 1 rfl) ?_
  refine lv_iload_n hx hb d_Store_update_2 rfl (lv_at hl 2 rfl) ?_
  obtain ⟨M6, r7, eM6, h⟩ := b2_ob h
  refine me_theni0 (M1 := M6) (me_runV (C := "FilterGuard$Store") (As := [.ref (ad 14 j1), .int x2]) (rest := []) ⟨hx, hb, hml, hown, hts⟩ (c_Store_entryOf l D ad ca N M0 M6 r7 j0 j1 x2 eM6 hwf hj0 hj1 _) rfl (by show fg_nm y_Store_entryOf 2; decide +kernel) u_1526 u_1527 u_1528 u_201 u_1529 ⟨Nat.le_of_ble_eq_true rfl, Nat.le_of_ble_eq_true rfl⟩ hX hz hK hP hD hwf hS hA hj0 (by decide) rfl rfl rfl hl.1 (Nat.le_of_ble_eq_true rfl) d_Store_update_3 ⟨Nat.le_of_ble_eq_true rfl, Nat.le_of_ble_eq_true rfl⟩) hP hD hK hS hA rfl rfl (fun H locs hw hP hD hS => ?_)
  obtain ⟨hwf, hk9⟩ := hw
  have hkp := hkp.tr hk9
  refine lv_istore (lv' := [(5, .int r7), (0, .ref (ad 12 j0)), (1, .ref (ad 14 j1)), (2, .int x2), (3, .ref (ad 14 j3)), (4, .int x4)]) hx hb d_Store_update_6 hl (by decide) rfl (fun ls hl => ?_)
  refine lv_iload hx hb d_Store_update_8 (lv_at hl 0 rfl) ?_
  refine lv_iconst (v := (-1)) hx hb d_Store_update_10 (by decide) ?_
  refine lv_icmp_ne (tgt := 61) hx hb d_Store_update_11 (by decide) (fun c8 => ?_) (fun c8 => ?_)
  · have h := if_f c8 h
    exact b_61 M6 r7 _ _ _ h hwf hkp hP hD hS (lv_sub hl [1, 4, 5, 0] rfl)
  have h := if_t c8 h
  refine lv_aload_n hx hb d_Store_update_14 rfl (lv_at hl 1 rfl) ?_
  refine g_Store_0 hx hb hts hown hK hP hwf hj0 (hts _ u_900) d_Store_update_15 ?_
  have z9 := (hwf.2.2.2 12 j0 0 rfl)
  refine lv_if_eq (tgt := 61) hx hb d_Store_update_18 (by decide) (fun c10 => ?_) (fun c10 => ?_)
  · have h := if_t c10 h
    exact b_61 M6 r7 _ _ _ h hwf hkp hP hD hS (lv_sub hl [1, 4, 5, 0] rfl)
  have h := if_f c10 h
  refine lv_aload_n hx hb d_Store_update_21 rfl (lv_at hl 1 rfl) ?_
  obtain ⟨M11, r12, eM11, h⟩ := b2_ob h
  refine me_theni0 (M1 := M11) (me_runV (C := "FilterGuard$Store") (As := []) (rest := []) ⟨hx, hb, hml, hown, hts⟩ (c_Store_leastFree l D ad ca N M6 M11 r12 j0 eM11 hwf hj0 _) rfl (by show fg_nm y_Store_leastFree 0; decide +kernel) u_1534 u_1536 u_62 u_201 u_1537 ⟨Nat.le_of_ble_eq_true rfl, Nat.le_of_ble_eq_true rfl⟩ hX hz hK hP hD hwf hS hA hj0 (by decide) rfl rfl rfl hl.1 (Nat.le_of_ble_eq_true rfl) d_Store_update_22 ⟨Nat.le_of_ble_eq_true rfl, Nat.le_of_ble_eq_true rfl⟩) hP hD hK hS hA rfl rfl (fun H locs hw hP hD hS => ?_)
  obtain ⟨hwf, hk9⟩ := hw
  have hkp := hkp.tr hk9
  refine lv_istore (lv' := [(5, .int r12), (0, .ref (ad 12 j0)), (1, .ref (ad 14 j1)), (2, .int x2), (3, .ref (ad 14 j3)), (4, .int x4)]) hx hb d_Store_update_25 hl (by decide) rfl (fun ls hl => ?_)
  refine lv_iload hx hb d_Store_update_27 (lv_at hl 0 rfl) ?_
  refine lv_iconst (v := (-1)) hx hb d_Store_update_29 (by decide) ?_
  refine lv_icmp_eq (tgt := 61) hx hb d_Store_update_30 (by decide) (fun c13 => ?_) (fun c13 => ?_)
  · have h := if_t c13 h
    exact b_61 M11 r12 _ _ _ h hwf hkp hP hD hS (lv_sub hl [1, 4, 5, 0] rfl)
  have h := if_f c13 h
  refine lv_aload_n hx hb d_Store_update_33 rfl (lv_at hl 1 rfl) ?_
  refine g_Store_6 hx hb hts hown hK hP hwf hj0 (hts _ u_917) d_Store_update_34 ?_
  obtain ⟨j14, e15, h⟩ := bd_ob h
  have hj14 : j14 < N 15 := (hwf.2.1 12 j0 6 _ (kp_r hkb hkp e15) (by decide) hj0)
  refine me_opt (j := j14) (kp_r hkb hkp e15) ?_
  refine lv_iload hx hb d_Store_update_37 (lv_at hl 0 rfl) ?_
  refine lv_iconst (v := 1) hx hb d_Store_update_39 (by decide) ?_
  obtain ⟨g16, h⟩ := gd_ob h
  obtain ⟨M17, eM17, h⟩ := st_ob h
  refine me_zast eM17 hx hb hK hP hD hwf hS hj14 (kp_z hkb.z hkp.z g16) d_Store_update_40 (fun H locs hP hD hwf hS => ?_)
  have hkp := kp_I eM17 hkp
  refine lv_aload_n hx hb d_Store_update_41 rfl (lv_at hl 2 rfl) ?_
  refine lv_iload_n hx hb d_Store_update_42 rfl (lv_at hl 3 rfl) ?_
  refine lv_aload_n hx hb d_Store_update_43 rfl (lv_at hl 1 rfl) ?_
  refine g_Store_4 hx hb hts hown hK hP hwf hj0 (hts _ u_914) d_Store_update_44 ?_
  obtain ⟨j18, e19, h⟩ := bd_ob h
  have hj18 : j18 < N 14 := (hwf.2.1 12 j0 4 _ (kp_r hkb hkp e19) (by decide) hj0)
  refine me_opt (j := j18) (kp_r hkb hkp e19) ?_
  refine lv_iload hx hb d_Store_update_47 (lv_at hl 0 rfl) ?_
  refine lv_aload_n hx hb d_Store_update_49 rfl (lv_at hl 1 rfl) ?_
  refine g_Store_1 hx hb hts hown hK hP hwf hj0 (hts _ u_901) d_Store_update_50 ?_
  refine lv_imul hx hb d_Store_update_53 ?_
  refine lv_aload_n hx hb d_Store_update_54 rfl (lv_at hl 1 rfl) ?_
  refine g_Store_1 hx hb hts hown hK hP hwf hj0 (hts _ u_901) d_Store_update_55 ?_
  obtain ⟨g20, h⟩ := gd_ob h
  obtain ⟨M21, eM21, h⟩ := st_ob h
  refine me_copyb eM21 hx hb (hml.trans hl.1.symm) hown (hts _ u_1538) (hts _ u_757) (hts _ u_756) (hts _ u_195) hK hP hD hwf hS hj1 hj18 g20 (Nat.le_of_ble_eq_true rfl) (Nat.le_of_ble_eq_true rfl) d_Store_update_58 (fun H locs hP hD hwf hS => ?_)
  have hkp := kp_A eM21 hkp
  exact b_61 M21 r12 _ _ _ h hwf hkp hP hD hS (lv_sub hl [1, 4, 5, 0] rfl)
theorem d_G_put_0 : decode prog_1_method_11_code 0 = .ok (.aload_n 0, 1) := by decide +kernel
theorem d_G_put_1 : decode prog_1_method_11_code 1 = .ok (.getfield 58, 3) := by decide +kernel
theorem d_G_put_4 : decode prog_1_method_11_code 4 = .ok (.istore_n 2, 1) := by decide +kernel
theorem d_G_put_5 : decode prog_1_method_11_code 5 = .ok (.aload_n 0, 1) := by decide +kernel
theorem d_G_put_6 : decode prog_1_method_11_code 6 = .ok (.iconst 0, 1) := by decide +kernel
theorem d_G_put_7 : decode prog_1_method_11_code 7 = .ok (.putfield 58, 3) := by decide +kernel
theorem d_G_put_10 : decode prog_1_method_11_code 10 = .ok (.iload_n 1, 1) := by decide +kernel
theorem d_G_put_11 : decode prog_1_method_11_code 11 = .ok (.ifCond .lt 34, 3) := by decide +kernel
theorem d_G_put_45 : decode prog_1_method_11_code 45 = .ok (.new 78, 3) := by decide +kernel
theorem d_G_put_14 : decode prog_1_method_11_code 14 = .ok (.iload_n 1, 1) := by decide +kernel
theorem d_G_put_15 : decode prog_1_method_11_code 15 = .ok (.aload_n 0, 1) := by decide +kernel
theorem d_G_put_16 : decode prog_1_method_11_code 16 = .ok (.getfield 85, 3) := by decide +kernel
theorem d_G_put_19 : decode prog_1_method_11_code 19 = .ok (.if_icmp .ge 26, 3) := by decide +kernel
theorem d_G_put_22 : decode prog_1_method_11_code 22 = .ok (.aload_n 0, 1) := by decide +kernel
theorem d_G_put_23 : decode prog_1_method_11_code 23 = .ok (.getfield 15, 3) := by decide +kernel
theorem d_G_put_26 : decode prog_1_method_11_code 26 = .ok (.iload_n 1, 1) := by decide +kernel
theorem d_G_put_27 : decode prog_1_method_11_code 27 = .ok (.aaload, 1) := by decide +kernel
theorem d_G_put_28 : decode prog_1_method_11_code 28 = .ok (.getfield 173, 3) := by decide +kernel
theorem u_902 : Cond.fieldLink "FilterGuard" 173 "FilterGuard$Store" "keyBytes" "I" ∈ fg_g := fg_in (List.mem_of_getElem? (i := 902) (by decide +kernel)) rfl
theorem d_G_put_31 : decode prog_1_method_11_code 31 = .ok (.aload_n 0, 1) := by decide +kernel
theorem d_G_put_32 : decode prog_1_method_11_code 32 = .ok (.getfield 15, 3) := by decide +kernel
theorem d_G_put_35 : decode prog_1_method_11_code 35 = .ok (.iload_n 1, 1) := by decide +kernel
theorem d_G_put_36 : decode prog_1_method_11_code 36 = .ok (.aaload, 1) := by decide +kernel
theorem d_G_put_37 : decode prog_1_method_11_code 37 = .ok (.getfield 176, 3) := by decide +kernel
theorem u_907 : Cond.fieldLink "FilterGuard" 176 "FilterGuard$Store" "valueBytes" "I" ∈ fg_g := fg_in (List.mem_of_getElem? (i := 907) (by decide +kernel)) rfl
theorem d_G_put_40 : decode prog_1_method_11_code 40 = .ok (.iadd, 1) := by decide +kernel
theorem d_G_put_41 : decode prog_1_method_11_code 41 = .ok (.iload_n 2, 1) := by decide +kernel
theorem d_G_put_42 : decode prog_1_method_11_code 42 = .ok (.if_icmp .le 13, 3) := by decide +kernel
theorem d_G_put_55 : decode prog_1_method_11_code 55 = .ok (.aload_n 0, 1) := by decide +kernel
theorem d_G_put_56 : decode prog_1_method_11_code 56 = .ok (.getfield 15, 3) := by decide +kernel
theorem d_G_put_59 : decode prog_1_method_11_code 59 = .ok (.iload_n 1, 1) := by decide +kernel
theorem d_G_put_60 : decode prog_1_method_11_code 60 = .ok (.aaload, 1) := by decide +kernel
theorem d_G_put_61 : decode prog_1_method_11_code 61 = .ok (.aload_n 0, 1) := by decide +kernel
theorem d_G_put_62 : decode prog_1_method_11_code 62 = .ok (.getfield 9, 3) := by decide +kernel
theorem d_G_put_65 : decode prog_1_method_11_code 65 = .ok (.iconst 0, 1) := by decide +kernel
theorem d_G_put_66 : decode prog_1_method_11_code 66 = .ok (.aload_n 0, 1) := by decide +kernel
theorem d_G_put_67 : decode prog_1_method_11_code 67 = .ok (.getfield 9, 3) := by decide +kernel
theorem d_G_put_70 : decode prog_1_method_11_code 70 = .ok (.aload_n 0, 1) := by decide +kernel
theorem d_G_put_71 : decode prog_1_method_11_code 71 = .ok (.getfield 15, 3) := by decide +kernel
theorem d_G_put_74 : decode prog_1_method_11_code 74 = .ok (.iload_n 1, 1) := by decide +kernel
theorem d_G_put_75 : decode prog_1_method_11_code 75 = .ok (.aaload, 1) := by decide +kernel
theorem d_G_put_76 : decode prog_1_method_11_code 76 = .ok (.getfield 173, 3) := by decide +kernel
theorem d_G_put_79 : decode prog_1_method_11_code 79 = .ok (.invokevirtual 181, 3) := by decide +kernel
theorem u_1522 : Cond.methodLink "FilterGuard" 181 ⟨"FilterGuard$Store", "update", "([BI[BI)I"⟩ ∈ fg_g := fg_in (List.mem_of_getElem? (i := 1522) (by decide +kernel)) rfl
theorem u_1525 : Cond.code ⟨"FilterGuard$Store", "update", "([BI[BI)I"⟩ prog_12_method_5_code 6 (some .int) ∈ fg_g := fg_in (List.mem_of_getElem? (i := 1525) (by decide +kernel)) rfl
theorem u_1523 : Cond.instanceMethod ⟨"FilterGuard$Store", "update", "([BI[BI)I"⟩ ∈ fg_g := fg_in (List.mem_of_getElem? (i := 1523) (by decide +kernel)) rfl
theorem u_1524 : Cond.selects "FilterGuard$Store" ⟨"FilterGuard$Store", "update", "([BI[BI)I"⟩ ⟨"FilterGuard$Store", "update", "([BI[BI)I"⟩ ∈ fg_g := fg_in (List.mem_of_getElem? (i := 1524) (by decide +kernel)) rfl
theorem d_G_put_82 : decode prog_1_method_11_code 82 = .ok (.ireturn, 1) := by decide +kernel
abbrev y_G_put : MethodName := ⟨"FilterGuard", "put", "(I)I"⟩
theorem o_1521 : Cond.stringRef "FilterGuard" 179 "no such map, or too few bytes" ∈ lw_tbl := List.mem_of_getElem? (i := 1521) (by decide +kernel)
theorem d_G_put_48 : decode prog_1_method_11_code 48 = .ok (.dup, 1) := by decide +kernel
theorem d_G_put_49 : decode prog_1_method_11_code 49 = .ok (.ldc 179, 2) := by decide +kernel
theorem d_G_put_51 : decode prog_1_method_11_code 51 = .ok (.invokespecial 82, 3) := by decide +kernel
theorem d_G_put_54 : decode prog_1_method_11_code 54 = .ok (.athrow, 1) := by decide +kernel
def rm_G_put : Room := { frames := 4, cells := 0, slots := 0, locals := 94 }
abbrev q_G_put (D : va_G) (ad : Nat → Nat → Nat) (ca : Nat → ClassId) (N : Nat → Nat) (M0 MZ : me_M) (RZ : Int32) (A : Nat → Prop) : Array Value → Jvm.State → Outcome → Jvm.State → Prop := va_Qi (fun r (_ : Unit) => r = RZ ∧ me_wf N MZ ∧ me_kp M0 MZ) (fg_B D A (fun _ => me_W ad ca MZ) (fun _ => [])) A
set_option maxHeartbeats 4000000 in
set_option maxRecDepth 100000 in
theorem c_G_put (l : Launch) (D : va_G) (ad : Nat → Nat → Nat) (ca : Nat → ClassId) (N : Nat → Nat) (M0 MZ : me_M) (RZ : Int32) (j0 : Nat) (x1 : Int32) (h : f_G_put M0 j0 x1 = (some (MZ, RZ))) (hwf : me_wf N M0) (hj0 : j0 < N 0) (sz : Nat) : Met l y_G_put (fg_w y_G_put prog_1_method_11_code 3 (some .int)) rm_G_put (va_Pc [.ref (ad 0 j0), .int x1] (fz_P D (me_T ca) (me_W ad ca M0) sz)) (q_G_put D ad ca N M0 MZ RZ (va_A (me_W ad ca M0) sz)) rm_G_put.cells rm_G_put.slots (va_A (me_W ad ca M0) sz) := by
  refine fz_enter (fun A => q_G_put D ad ca N M0 MZ RZ A) (by decide +kernel) (Nat.le_of_ble_eq_true rfl) ?_
  intro p e s m below meth c ls A hx hb hml hown hts hr hlocks hin hP hK hD hS hA hX hl hz
  have hl : lv_has ls 3 [(0, .ref (ad 0 j0)), (1, .int x1)] := hl
  unfold f_G_put at h
  have hkp : me_kp M0 M0 := me_kp.rf
  have hkb := hkp
  refine lv_aload_n hx hb d_G_put_0 rfl (lv_at hl 0 rfl) ?_
  refine g_G_1 hx hb hts hown hK hP hwf hj0 (hts _ u_694) d_G_put_1 ?_
  obtain ⟨v1, ev1, h⟩ := st_ob h
  refine fg_topi (y := v1) ev1.symm ?_
  refine lv_istore_n (lv' := [(2, .int v1), (0, .ref (ad 0 j0)), (1, .int x1)]) hx hb d_G_put_4 rfl hl (by decide) rfl (fun ls hl => ?_)
  refine lv_aload_n hx hb d_G_put_5 rfl (lv_at hl 1 rfl) ?_
  refine lv_iconst (v := 0) hx hb d_G_put_6 (by decide) ?_
  obtain ⟨M2, eM2, h⟩ := st_ob h
  refine p_G_1 eM2 hx hb hts hown hK hP hD hwf hS hj0 (hts _ u_694) d_G_put_7 (fun H locs hP hD hwf hS => ?_)
  have hkp := kp_I eM2 hkp
  refine lv_iload_n hx hb d_G_put_10 rfl (lv_at hl 2 rfl) ?_
  refine lv_if_lt (tgt := 45) hx hb d_G_put_11 (by decide) (fun c3 => ?_) (fun c3 => ?_)
  · have h := if_t c3 h
    exact absurd h (by simp)
  have h := if_f c3 h
  refine lv_iload_n hx hb d_G_put_14 rfl (lv_at hl 2 rfl) ?_
  refine lv_aload_n hx hb d_G_put_15 rfl (lv_at hl 1 rfl) ?_
  refine g_G_3 hx hb hts hown hK hP hwf hj0 (hts _ u_696) d_G_put_16 ?_
  refine lv_icmp_ge (tgt := 45) hx hb d_G_put_19 (by decide) (fun c4 => ?_) (fun c4 => ?_)
  · have h := if_t c4 h
    exact absurd h (by simp)
  have h := if_f c4 h
  refine lv_aload_n hx hb d_G_put_22 rfl (lv_at hl 1 rfl) ?_
  refine g_G_2 hx hb hts hown hK hP hwf hj0 (hts _ u_695) d_G_put_23 ?_
  obtain ⟨j5, e6, h⟩ := bd_ob h
  have hj5 : j5 < N 19 := (hwf.2.1 0 j0 2 _ (kp_r hkb hkp e6) (by decide) hj0)
  refine me_opt (j := j5) (kp_r hkb hkp e6) ?_
  refine lv_iload_n hx hb d_G_put_26 rfl (lv_at hl 2 rfl) ?_
  obtain ⟨g7, h⟩ := gd_ob h
  refine me_aald (k := 19) (t := 12) hx hb hK hP hwf hj5 (by decide) (by decide) rfl (fun _ => rfl) (kp_z hkb.z hkp.z g7) d_G_put_27 ?_
  obtain ⟨j8, e9, h⟩ := bd_ob h
  have hj8 : j8 < N 12 := (hwf.2.1 19 j5 x1.toNatClampNeg _ (kp_r hkb hkp e9) (by decide) hj5)
  refine me_opt (j := j8) (kp_r hkb hkp e9) ?_
  refine g_Store_1 hx hb hts hown hK hP hwf hj8 (hts _ u_902) d_G_put_28 ?_
  refine lv_aload_n hx hb d_G_put_31 rfl (lv_at hl 1 rfl) ?_
  refine g_G_2 hx hb hts hown hK hP hwf hj0 (hts _ u_695) d_G_put_32 ?_
  refine me_opt (j := j5) (kp_r hkb hkp e6) ?_
  refine lv_iload_n hx hb d_G_put_35 rfl (lv_at hl 2 rfl) ?_
  refine me_aald (k := 19) (t := 12) hx hb hK hP hwf hj5 (by decide) (by decide) rfl (fun _ => rfl) (kp_z hkb.z hkp.z g7) d_G_put_36 ?_
  refine me_opt (j := j8) (kp_r hkb hkp e9) ?_
  refine g_Store_2 hx hb hts hown hK hP hwf hj8 (hts _ u_907) d_G_put_37 ?_
  refine lv_iadd hx hb d_G_put_40 ?_
  refine lv_iload_n hx hb d_G_put_41 rfl (lv_at hl 0 rfl) ?_
  refine lv_icmp_le (tgt := 55) hx hb d_G_put_42 (by decide) (fun c10 => ?_) (fun c10 => ?_)
  · have h := if_t c10 h
    refine lv_aload_n hx hb d_G_put_55 rfl (lv_at hl 1 rfl) ?_
    refine g_G_2 hx hb hts hown hK hP hwf hj0 (hts _ u_695) d_G_put_56 ?_
    refine me_opt (j := j5) (kp_r hkb hkp e6) ?_
    refine lv_iload_n hx hb d_G_put_59 rfl (lv_at hl 2 rfl) ?_
    refine me_aald (k := 19) (t := 12) hx hb hK hP hwf hj5 (by decide) (by decide) rfl (fun _ => rfl) (kp_z hkb.z hkp.z g7) d_G_put_60 ?_
    refine me_opt (j := j8) (kp_r hkb hkp e9) ?_
    refine lv_aload_n hx hb d_G_put_61 rfl (lv_at hl 1 rfl) ?_
    refine g_G_0 hx hb hts hown hK hP hwf hj0 (hts _ u_693) d_G_put_62 ?_
    obtain ⟨j11, e12, h⟩ := bd_ob h
    have hj11 : j11 < N 14 := (hwf.2.1 0 j0 0 _ (kp_r hkb hkp e12) (by decide) hj0)
    refine me_opt (j := j11) (kp_r hkb hkp e12) ?_
    refine lv_iconst (v := 0) hx hb d_G_put_65 (by decide) ?_
    refine lv_aload_n hx hb d_G_put_66 rfl (lv_at hl 1 rfl) ?_
    refine g_G_0 hx hb hts hown hK hP hwf hj0 (hts _ u_693) d_G_put_67 ?_
    refine me_opt (j := j11) (kp_r hkb hkp e12) ?_
    refine lv_aload_n hx hb d_G_put_70 rfl (lv_at hl 1 rfl) ?_
    refine g_G_2 hx hb hts hown hK hP hwf hj0 (hts _ u_695) d_G_put_71 ?_
    refine me_opt (j := j5) (kp_r hkb hkp e6) ?_
    refine lv_iload_n hx hb d_G_put_74 rfl (lv_at hl 2 rfl) ?_
    refine me_aald (k := 19) (t := 12) hx hb hK hP hwf hj5 (by decide) (by decide) rfl (fun _ => rfl) (kp_z hkb.z hkp.z g7) d_G_put_75 ?_
    refine me_opt (j := j8) (kp_r hkb hkp e9) ?_
    refine g_Store_1 hx hb hts hown hK hP hwf hj8 (hts _ u_902) d_G_put_76 ?_
    obtain ⟨M13, r14, eM13, h⟩ := b2_ob h
    refine me_theni0 (M1 := M13) (me_runV (C := "FilterGuard$Store") (As := [.ref (ad 14 j11), .int 0, .ref (ad 14 j11), .int (mI M2 12 j8 1)]) (rest := []) ⟨hx, hb, hml, hown, hts⟩ (c_Store_update l D ad ca N M2 M13 r14 j8 j11 (0 : Int32) j11 (mI M2 12 j8 1) eM13 hwf hj8 hj11 hj11 _) rfl (by show fg_nm y_Store_update 4; decide +kernel) u_1522 u_1523 u_1524 u_201 u_1525 ⟨Nat.le_of_ble_eq_true rfl, Nat.le_of_ble_eq_true rfl⟩ hX hz hK hP hD hwf hS hA hj8 (by decide) rfl rfl rfl hl.1 (Nat.le_of_ble_eq_true rfl) d_G_put_79 ⟨Nat.le_of_ble_eq_true rfl, Nat.le_of_ble_eq_true rfl⟩) hP hD hK hS hA rfl rfl (fun H locs hw hP hD hS => ?_)
    obtain ⟨hwf, hk9⟩ := hw
    have hkp := hkp.tr hk9
    exact me_reti (me_kp M0) h hx hb hr hlocks hwf hkp hP hK hD hS d_G_put_82
  have h := if_f c10 h
  exact absurd h (by simp)
def rmT1_G_put : Room := { frames := 6, cells := 1, slots := 6, locals := 100 }
abbrev qT1_G_put (D : va_G) (ad : Nat → Nat → Nat) (ca : Nat → ClassId) (N : Nat → Nat) (M0 MZ : me_M) (A : Nat → Prop) : Array Value → Jvm.State → Outcome → Jvm.State → Prop := fg_Qt "java/lang/IllegalArgumentException" (fun (_ : Unit) => me_wf N MZ ∧ me_kp M0 MZ) (fg_B D A (fun _ => me_W ad ca MZ) (fun _ => [])) A
set_option maxHeartbeats 4000000 in
set_option maxRecDepth 100000 in
theorem cT1_G_put (l : Launch) (hl9 : l.stackTraces = false) (D : va_G) (ad : Nat → Nat → Nat) (ca : Nat → ClassId) (N : Nat → Nat) (M0 MZ : me_M) (j0 : Nat) (x1 : Int32) (h : fT1_G_put M0 j0 x1 = (some MZ)) (hwf : me_wf N M0) (hj0 : j0 < N 0) (sz : Nat) : fg_MetT l y_G_put (fg_w y_G_put prog_1_method_11_code 3 (some .int)) rmT1_G_put (va_Pc [.ref (ad 0 j0), .int x1] (fg_PZ D (me_T ca) (me_W ad ca M0) sz)) (qT1_G_put D ad ca N M0 MZ (va_A (me_W ad ca M0) sz)) rmT1_G_put.cells rmT1_G_put.slots (va_A (me_W ad ca M0) sz) := by
  refine fg_enterT (fun A => qT1_G_put D ad ca N M0 MZ A) (by decide +kernel) (Nat.le_of_ble_eq_true rfl) ?_
  intro p e s m below meth c ls A hx hb hml hown hts hr hlocks hin hP hK hD hS hA hX hl hno hz hy
  have hz0 := hz.1
  have hz := hz.2
  have hl : lv_has ls 3 [(0, .ref (ad 0 j0)), (1, .int x1)] := hl
  unfold fT1_G_put at h
  have hkp : me_kp M0 M0 := me_kp.rf
  have hkb := hkp
  refine lv_aload_n hx hb d_G_put_0 rfl (lv_at hl 0 rfl) ?_
  refine g_G_1 hx hb hts hown hK hP hwf hj0 (hts _ u_694) d_G_put_1 ?_
  obtain ⟨v1, ev1, h⟩ := st_ob h
  refine fg_topi (y := v1) ev1.symm ?_
  refine lv_istore_n (lv' := [(2, .int v1), (0, .ref (ad 0 j0)), (1, .int x1)]) hx hb d_G_put_4 rfl hl (by decide) rfl (fun ls hl => ?_)
  refine lv_aload_n hx hb d_G_put_5 rfl (lv_at hl 1 rfl) ?_
  refine lv_iconst (v := 0) hx hb d_G_put_6 (by decide) ?_
  obtain ⟨M2, eM2, h⟩ := st_ob h
  refine p_G_1 eM2 hx hb hts hown hK hP hD hwf hS hj0 (hts _ u_694) d_G_put_7 (fun H locs hP hD hwf hS => ?_)
  have hkp := kp_I eM2 hkp
  refine lv_iload_n hx hb d_G_put_10 rfl (lv_at hl 2 rfl) ?_
  refine lv_if_lt (tgt := 45) hx hb d_G_put_11 (by decide) (fun c3 => ?_) (fun c3 => ?_)
  · have h := if_t c3 h
    obtain ⟨hwf, hkp, hP, hD⟩ := me_sub1 (me_kp M0) h hwf hkp hP hD
    obtain ⟨qs4, hqs4⟩ := hy.1 _ _ _ o_1521
    exact fg_throw (X := "java/lang/IllegalArgumentException") (names := fg_up) () hl9 hx hb hno hlocks hown hts hX hz0 hqs4 (by decide +kernel) (by decide +kernel) a_G_82 u_812 u_199 ⟨hwf, hkp⟩ hP (hK.sub (tys' := []) [] rfl) hD hS (hl.1.trans hml.symm) (Nat.lt_of_lt_of_le (Nat.lt_succ_self 5) (Nat.le_of_ble_eq_true rfl)) (Nat.le_of_ble_eq_true rfl) (Nat.le_of_ble_eq_true rfl) (Nat.le_of_ble_eq_true rfl) (Nat.le_of_ble_eq_true rfl) (Nat.le_of_ble_eq_true rfl) d_G_put_45 d_G_put_48 d_G_put_49 d_G_put_51 d_G_put_54
  have h := if_f c3 h
  refine lv_iload_n hx hb d_G_put_14 rfl (lv_at hl 2 rfl) ?_
  refine lv_aload_n hx hb d_G_put_15 rfl (lv_at hl 1 rfl) ?_
  refine g_G_3 hx hb hts hown hK hP hwf hj0 (hts _ u_696) d_G_put_16 ?_
  refine lv_icmp_ge (tgt := 45) hx hb d_G_put_19 (by decide) (fun c5 => ?_) (fun c5 => ?_)
  · have h := if_t c5 h
    obtain ⟨hwf, hkp, hP, hD⟩ := me_sub1 (me_kp M0) h hwf hkp hP hD
    obtain ⟨qs6, hqs6⟩ := hy.1 _ _ _ o_1521
    exact fg_throw (X := "java/lang/IllegalArgumentException") (names := fg_up) () hl9 hx hb hno hlocks hown hts hX hz0 hqs6 (by decide +kernel) (by decide +kernel) a_G_82 u_812 u_199 ⟨hwf, hkp⟩ hP (hK.sub (tys' := []) [] rfl) hD hS (hl.1.trans hml.symm) (Nat.lt_of_lt_of_le (Nat.lt_succ_self 5) (Nat.le_of_ble_eq_true rfl)) (Nat.le_of_ble_eq_true rfl) (Nat.le_of_ble_eq_true rfl) (Nat.le_of_ble_eq_true rfl) (Nat.le_of_ble_eq_true rfl) (Nat.le_of_ble_eq_true rfl) d_G_put_45 d_G_put_48 d_G_put_49 d_G_put_51 d_G_put_54
  have h := if_f c5 h
  refine lv_aload_n hx hb d_G_put_22 rfl (lv_at hl 1 rfl) ?_
  refine g_G_2 hx hb hts hown hK hP hwf hj0 (hts _ u_695) d_G_put_23 ?_
  obtain ⟨j7, e8, h⟩ := bd_ob h
  have hj7 : j7 < N 19 := (hwf.2.1 0 j0 2 _ (kp_r hkb hkp e8) (by decide) hj0)
  refine me_opt (j := j7) (kp_r hkb hkp e8) ?_
  refine lv_iload_n hx hb d_G_put_26 rfl (lv_at hl 2 rfl) ?_
  obtain ⟨g9, h⟩ := gd_ob h
  refine me_aald (k := 19) (t := 12) hx hb hK hP hwf hj7 (by decide) (by decide) rfl (fun _ => rfl) (kp_z hkb.z hkp.z g9) d_G_put_27 ?_
  obtain ⟨j10, e11, h⟩ := bd_ob h
  have hj10 : j10 < N 12 := (hwf.2.1 19 j7 x1.toNatClampNeg _ (kp_r hkb hkp e11) (by decide) hj7)
  refine me_opt (j := j10) (kp_r hkb hkp e11) ?_
  refine g_Store_1 hx hb hts hown hK hP hwf hj10 (hts _ u_902) d_G_put_28 ?_
  refine lv_aload_n hx hb d_G_put_31 rfl (lv_at hl 1 rfl) ?_
  refine g_G_2 hx hb hts hown hK hP hwf hj0 (hts _ u_695) d_G_put_32 ?_
  refine me_opt (j := j7) (kp_r hkb hkp e8) ?_
  refine lv_iload_n hx hb d_G_put_35 rfl (lv_at hl 2 rfl) ?_
  refine me_aald (k := 19) (t := 12) hx hb hK hP hwf hj7 (by decide) (by decide) rfl (fun _ => rfl) (kp_z hkb.z hkp.z g9) d_G_put_36 ?_
  refine me_opt (j := j10) (kp_r hkb hkp e11) ?_
  refine g_Store_2 hx hb hts hown hK hP hwf hj10 (hts _ u_907) d_G_put_37 ?_
  refine lv_iadd hx hb d_G_put_40 ?_
  refine lv_iload_n hx hb d_G_put_41 rfl (lv_at hl 0 rfl) ?_
  refine lv_icmp_le (tgt := 55) hx hb d_G_put_42 (by decide) (fun c12 => ?_) (fun c12 => ?_)
  · have h := if_t c12 h
    refine lv_aload_n hx hb d_G_put_55 rfl (lv_at hl 1 rfl) ?_
    refine g_G_2 hx hb hts hown hK hP hwf hj0 (hts _ u_695) d_G_put_56 ?_
    refine me_opt (j := j7) (kp_r hkb hkp e8) ?_
    refine lv_iload_n hx hb d_G_put_59 rfl (lv_at hl 2 rfl) ?_
    refine me_aald (k := 19) (t := 12) hx hb hK hP hwf hj7 (by decide) (by decide) rfl (fun _ => rfl) (kp_z hkb.z hkp.z g9) d_G_put_60 ?_
    refine me_opt (j := j10) (kp_r hkb hkp e11) ?_
    refine lv_aload_n hx hb d_G_put_61 rfl (lv_at hl 1 rfl) ?_
    refine g_G_0 hx hb hts hown hK hP hwf hj0 (hts _ u_693) d_G_put_62 ?_
    obtain ⟨j13, e14, h⟩ := bd_ob h
    have hj13 : j13 < N 14 := (hwf.2.1 0 j0 0 _ (kp_r hkb hkp e14) (by decide) hj0)
    refine me_opt (j := j13) (kp_r hkb hkp e14) ?_
    refine lv_iconst (v := 0) hx hb d_G_put_65 (by decide) ?_
    refine lv_aload_n hx hb d_G_put_66 rfl (lv_at hl 1 rfl) ?_
    refine g_G_0 hx hb hts hown hK hP hwf hj0 (hts _ u_693) d_G_put_67 ?_
    refine me_opt (j := j13) (kp_r hkb hkp e14) ?_
    refine lv_aload_n hx hb d_G_put_70 rfl (lv_at hl 1 rfl) ?_
    refine g_G_2 hx hb hts hown hK hP hwf hj0 (hts _ u_695) d_G_put_71 ?_
    refine me_opt (j := j7) (kp_r hkb hkp e8) ?_
    refine lv_iload_n hx hb d_G_put_74 rfl (lv_at hl 2 rfl) ?_
    refine me_aald (k := 19) (t := 12) hx hb hK hP hwf hj7 (by decide) (by decide) rfl (fun _ => rfl) (kp_z hkb.z hkp.z g9) d_G_put_75 ?_
    refine me_opt (j := j10) (kp_r hkb hkp e11) ?_
    refine g_Store_1 hx hb hts hown hK hP hwf hj10 (hts _ u_902) d_G_put_76 ?_
    obtain ⟨M15, r16, eM15, h⟩ := b2_ob h
    refine me_theni0 (M1 := M15) (me_runV (C := "FilterGuard$Store") (As := [.ref (ad 14 j13), .int 0, .ref (ad 14 j13), .int (mI M2 12 j10 1)]) (rest := []) ⟨hx, hb, hml, hown, hts⟩ (c_Store_update l D ad ca N M2 M15 r16 j10 j13 (0 : Int32) j13 (mI M2 12 j10 1) eM15 hwf hj10 hj13 hj13 _) rfl (by show fg_nm y_Store_update 4; decide +kernel) u_1522 u_1523 u_1524 u_201 u_1525 ⟨Nat.le_of_ble_eq_true rfl, Nat.le_of_ble_eq_true rfl⟩ hX hz hK hP hD hwf hS hA hj10 (by decide) rfl rfl rfl hl.1 (Nat.le_of_ble_eq_true rfl) d_G_put_79 ⟨Nat.le_of_ble_eq_true rfl, Nat.le_of_ble_eq_true rfl⟩) hP hD hK hS hA rfl rfl (fun H locs hw hP hD hS => ?_)
    obtain ⟨hwf, hk9⟩ := hw
    have hkp := hkp.tr hk9
    exact absurd h (by simp)
  have h := if_f c12 h
  obtain ⟨hwf, hkp, hP, hD⟩ := me_sub1 (me_kp M0) h hwf hkp hP hD
  obtain ⟨qs17, hqs17⟩ := hy.1 _ _ _ o_1521
  exact fg_throw (X := "java/lang/IllegalArgumentException") (names := fg_up) () hl9 hx hb hno hlocks hown hts hX hz0 hqs17 (by decide +kernel) (by decide +kernel) a_G_82 u_812 u_199 ⟨hwf, hkp⟩ hP (hK.sub (tys' := []) [] rfl) hD hS (hl.1.trans hml.symm) (Nat.lt_of_lt_of_le (Nat.lt_succ_self 5) (Nat.le_of_ble_eq_true rfl)) (Nat.le_of_ble_eq_true rfl) (Nat.le_of_ble_eq_true rfl) (Nat.le_of_ble_eq_true rfl) (Nat.le_of_ble_eq_true rfl) (Nat.le_of_ble_eq_true rfl) d_G_put_45 d_G_put_48 d_G_put_49 d_G_put_51 d_G_put_54
