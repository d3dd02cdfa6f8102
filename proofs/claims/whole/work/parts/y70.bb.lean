theorem d_Facts_leaveOutJumps_84 : decode prog_6_method_9_code 84 = .ok (.aload_n 0, 1) := by decide +kernel
theorem d_Facts_leaveOutJumps_85 : decode prog_6_method_9_code 85 = .ok (.getfield 29, 3) := by decide +kernel
theorem g_Facts_5 {p : Program} {l : Launch} {e : Env} {R : Room} {s : Jvm.State} {m : MethodId} {args : Array Value} {below : List Frame} {meth : Method} {c : Code} {H : Heap} {locs : List Loc} {cells slots : Nat} {Q : Jvm.State → Prop} {cc : ByteArray} {pc : Nat} {ls : Array Slot} {rest : List Value} {D : va_G} {ad : Nat → Nat → Nat} {ca : Nat → ClassId} {M : me_M} {N : Nat → Nat} {own : String} {index j : Nat} (hexec : p.tables.exec = Jvm.exec) (hb : c.code = cc) (hts : ∀ w ∈ fg_g, w.before args s = true) (hown : s.vm.findClass own = some m.cls) (hK : va_K D classes (me_T ca) s) (hP : va_P D classes (me_W ad ca M) H) (hwf : me_wf N M) (hj : j < N 3) (hlink : (Cond.fieldLink own index "FilterGuard$Facts" "stays" "[Z").before args s = true) (hdg : decode cc pc = .ok (.getfield index, 3)) (kk : W p l e R s m args below meth c H locs cells slots Q (F0 m (pc + 3) ls (va_rf ((mR M 3 j 5).map (ad 15)) :: rest))) : W p l e R s m args below meth c H locs cells slots Q (F0 m pc ls (.ref (ad 3 j) :: rest)) := me_get (k := 3) (f := 5) (C := "FilterGuard$Facts") (T := F_Facts) (Nf := 7) hexec hb hts i_Facts hown hK hP hwf hj (by decide) rfl (by decide) (by decide) hlink (fun _ h9 => h9) hdg kk
theorem d_Facts_leaveOutJumps_88 : decode prog_6_method_9_code 88 = .ok (.iload 4, 2) := by decide +kernel
theorem d_Facts_leaveOutJumps_90 : decode prog_6_method_9_code 90 = .ok (.baload, 1) := by decide +kernel
theorem d_Facts_leaveOutJumps_91 : decode prog_6_method_9_code 91 = .ok (.ifCond .eq 6, 3) := by decide +kernel
theorem d_Facts_leaveOutJumps_97 : decode prog_6_method_9_code 97 = .ok (.iinc 4 (-1), 3) := by decide +kernel
theorem d_Facts_leaveOutJumps_100 : decode prog_6_method_9_code 100 = .ok (.goto (-87), 3) := by decide +kernel
theorem d_Facts_leaveOutJumps_94 : decode prog_6_method_9_code 94 = .ok (.iload 4, 2) := by decide +kernel
theorem d_Facts_leaveOutJumps_96 : decode prog_6_method_9_code 96 = .ok (.istore_n 3, 1) := by decide +kernel
theorem d_Facts_leaveOutJumps_48 : decode prog_6_method_9_code 48 = .ok (.istore 5, 2) := by decide +kernel
theorem d_Facts_leaveOutJumps_50 : decode prog_6_method_9_code 50 = .ok (.aload_n 1, 1) := by decide +kernel
theorem d_Facts_leaveOutJumps_51 : decode prog_6_method_9_code 51 = .ok (.iload 4, 2) := by decide +kernel
theorem d_Facts_leaveOutJumps_53 : decode prog_6_method_9_code 53 = .ok (.invokevirtual 99, 3) := by decide +kernel
theorem u_1467 : Cond.methodLink "FilterGuard$Facts" 99 ⟨"FilterGuard$Code", "target", "(I)I"⟩ ∈ fg_g := fg_in (List.mem_of_getElem? (i := 1467) (by decide +kernel)) rfl
theorem d_Facts_leaveOutJumps_56 : decode prog_6_method_9_code 56 = .ok (.istore 6, 2) := by decide +kernel
theorem d_Facts_leaveOutJumps_58 : decode prog_6_method_9_code 58 = .ok (.iload 5, 2) := by decide +kernel
theorem d_Facts_leaveOutJumps_60 : decode prog_6_method_9_code 60 = .ok (.ifCond .eq 24, 3) := by decide +kernel
theorem d_Facts_leaveOutJumps_63 : decode prog_6_method_9_code 63 = .ok (.iload 6, 2) := by decide +kernel
theorem d_Facts_leaveOutJumps_65 : decode prog_6_method_9_code 65 = .ok (.iload 4, 2) := by decide +kernel
theorem d_Facts_leaveOutJumps_67 : decode prog_6_method_9_code 67 = .ok (.if_icmp .le 17, 3) := by decide +kernel
theorem d_Facts_leaveOutJumps_70 : decode prog_6_method_9_code 70 = .ok (.iload_n 3, 1) := by decide +kernel
theorem d_Facts_leaveOutJumps_71 : decode prog_6_method_9_code 71 = .ok (.iload 6, 2) := by decide +kernel
theorem d_Facts_leaveOutJumps_73 : decode prog_6_method_9_code 73 = .ok (.if_icmp .lt 11, 3) := by decide +kernel
theorem d_Facts_leaveOutJumps_76 : decode prog_6_method_9_code 76 = .ok (.aload_n 0, 1) := by decide +kernel
theorem d_Facts_leaveOutJumps_77 : decode prog_6_method_9_code 77 = .ok (.getfield 29, 3) := by decide +kernel
theorem d_Facts_leaveOutJumps_80 : decode prog_6_method_9_code 80 = .ok (.iload 4, 2) := by decide +kernel
theorem d_Facts_leaveOutJumps_82 : decode prog_6_method_9_code 82 = .ok (.iconst 0, 1) := by decide +kernel
theorem d_Facts_leaveOutJumps_83 : decode prog_6_method_9_code 83 = .ok (.bastore, 1) := by decide +kernel
theorem d_Facts_leaveOutJumps_47 : decode prog_6_method_9_code 47 = .ok (.iconst 0, 1) := by decide +kernel
theorem d_Facts_leaveOutJumps_13 : decode prog_6_method_9_code 13 = .ok (.iload 4, 2) := by decide +kernel
theorem d_Facts_leaveOutJumps_15 : decode prog_6_method_9_code 15 = .ok (.ifCond .lt 88, 3) := by decide +kernel
theorem d_Facts_leaveOutJumps_103 : decode prog_6_method_9_code 103 = .ok (.return_, 1) := by decide +kernel
theorem d_Facts_leaveOutJumps_18 : decode prog_6_method_9_code 18 = .ok (.aload_n 1, 1) := by decide +kernel
theorem d_Facts_leaveOutJumps_19 : decode prog_6_method_9_code 19 = .ok (.iload 4, 2) := by decide +kernel
theorem d_Facts_leaveOutJumps_21 : decode prog_6_method_9_code 21 = .ok (.invokevirtual 63, 3) := by decide +kernel
theorem u_1455 : Cond.methodLink "FilterGuard$Facts" 63 ⟨"FilterGuard$Code", "look", "(I)V"⟩ ∈ fg_g := fg_in (List.mem_of_getElem? (i := 1455) (by decide +kernel)) rfl
theorem d_Facts_leaveOutJumps_24 : decode prog_6_method_9_code 24 = .ok (.aload_n 2, 1) := by decide +kernel
theorem d_Facts_leaveOutJumps_25 : decode prog_6_method_9_code 25 = .ok (.getfield 60, 3) := by decide +kernel
theorem u_224 : Cond.fieldLink "FilterGuard$Facts" 60 "FilterGuard$Code" "isSecond" "[Z" ∈ fg_g := fg_in (List.mem_of_getElem? (i := 224) (by decide +kernel)) rfl
theorem d_Facts_leaveOutJumps_28 : decode prog_6_method_9_code 28 = .ok (.iload 4, 2) := by decide +kernel
theorem d_Facts_leaveOutJumps_30 : decode prog_6_method_9_code 30 = .ok (.baload, 1) := by decide +kernel
theorem d_Facts_leaveOutJumps_31 : decode prog_6_method_9_code 31 = .ok (.ifCond .ne 16, 3) := by decide +kernel
theorem d_Facts_leaveOutJumps_34 : decode prog_6_method_9_code 34 = .ok (.aload_n 1, 1) := by decide +kernel
theorem d_Facts_leaveOutJumps_35 : decode prog_6_method_9_code 35 = .ok (.getfield 67, 3) := by decide +kernel
theorem d_Facts_leaveOutJumps_38 : decode prog_6_method_9_code 38 = .ok (.bipush 7, 2) := by decide +kernel
theorem d_Facts_leaveOutJumps_40 : decode prog_6_method_9_code 40 = .ok (.if_icmp .ne 7, 3) := by decide +kernel
theorem d_Facts_leaveOutJumps_43 : decode prog_6_method_9_code 43 = .ok (.iconst 1, 1) := by decide +kernel
theorem d_Facts_leaveOutJumps_44 : decode prog_6_method_9_code 44 = .ok (.goto 4, 3) := by decide +kernel
theorem d_Facts_leaveOutJumps_0 : decode prog_6_method_9_code 0 = .ok (.aload_n 2, 1) := by decide +kernel
theorem d_Facts_leaveOutJumps_1 : decode prog_6_method_9_code 1 = .ok (.getfield 55, 3) := by decide +kernel
theorem u_228 : Cond.fieldLink "FilterGuard$Facts" 55 "FilterGuard$Code" "size" "I" ∈ fg_g := fg_in (List.mem_of_getElem? (i := 228) (by decide +kernel)) rfl
theorem d_Facts_leaveOutJumps_4 : decode prog_6_method_9_code 4 = .ok (.istore_n 3, 1) := by decide +kernel
theorem d_Facts_leaveOutJumps_5 : decode prog_6_method_9_code 5 = .ok (.aload_n 2, 1) := by decide +kernel
theorem d_Facts_leaveOutJumps_6 : decode prog_6_method_9_code 6 = .ok (.getfield 55, 3) := by decide +kernel
theorem d_Facts_leaveOutJumps_9 : decode prog_6_method_9_code 9 = .ok (.iconst 1, 1) := by decide +kernel
theorem d_Facts_leaveOutJumps_10 : decode prog_6_method_9_code 10 = .ok (.isub, 1) := by decide +kernel
theorem d_Facts_leaveOutJumps_11 : decode prog_6_method_9_code 11 = .ok (.istore 4, 2) := by decide +kernel
abbrev y_Facts_leaveOutJumps : MethodName := ⟨"FilterGuard$Facts", "leaveOutJumps", "(LFilterGuard$Code;LFilterGuard$Code;)V"⟩
def rm_Facts_leaveOutJumps : Room := { frames := 3, cells := 0, slots := 0, locals := 66 }
abbrev q_Facts_leaveOutJumps (D : va_G) (ad : Nat → Nat → Nat) (ca : Nat → ClassId) (N : Nat → Nat) (M0 MZ : me_M) (A : Nat → Prop) : Array Value → Jvm.State → Outcome → Jvm.State → Prop := va_Qv (fun (_ : Unit) => me_wf N MZ ∧ me_kp M0 MZ) (fg_B D A (fun _ => me_W ad ca MZ) (fun _ => [])) A
set_option maxHeartbeats 4000000 in
set_option maxRecDepth 100000 in
theorem c_Facts_leaveOutJumps (l : Launch) (D : va_G) (ad : Nat → Nat → Nat) (ca : Nat → ClassId) (N : Nat → Nat) (M0 MZ : me_M) (j0 : Nat) (j1 : Nat) (j2 : Nat) (h : f_Facts_leaveOutJumps M0 j0 j1 j2 = (some MZ)) (hwf : me_wf N M0) (hj0 : j0 < N 3) (hj1 : j1 < N 2) (hj2 : j2 < N 2) (sz : Nat) : Met l y_Facts_leaveOutJumps (fg_w y_Facts_leaveOutJumps prog_6_method_9_code 7 none) rm_Facts_leaveOutJumps (va_Pc [.ref (ad 3 j0), .ref (ad 2 j1), .ref (ad 2 j2)] (fz_P D (me_T ca) (me_W ad ca M0) sz)) (q_Facts_leaveOutJumps D ad ca N M0 MZ (va_A (me_W ad ca M0) sz)) rm_Facts_leaveOutJumps.cells rm_Facts_leaveOutJumps.slots (va_A (me_W ad ca M0) sz) := by
  refine fz_enter (fun A => q_Facts_leaveOutJumps D ad ca N M0 MZ A) (by decide +kernel) (Nat.le_of_ble_eq_true rfl) ?_
  intro p e s m below meth c ls A hx hb hml hown hts hr hlocks hin hP hK hD hS hA hX hl hz
  have hl : lv_has ls 7 [(0, .ref (ad 3 j0)), (1, .ref (ad 2 j1)), (2, .ref (ad 2 j2))] := hl
  unfold f_Facts_leaveOutJumps at h
  have hkp : me_kp M0 M0 := me_kp.rf
  have hkb := hkp
  have b_84 : ∀ (k13 : me_M → Int32 → Int32 → Option me_M) (hk13 : ∀ (M : me_M) (y3 : Int32) (y4 : Int32) (H : Heap) (locs : List Loc) (ls : Array Slot), k13 M y3 y4 = (some MZ) → me_wf N M → me_kp M0 M → va_P D classes (me_W ad ca M) H → va_D A (me_W ad ca M) → va_S A s.heap H locs → lv_has ls 7 [(0, .ref (ad 3 j0)), (1, .ref (ad 2 j1)), (2, .ref (ad 2 j2)), (3, .int y3), (4, .int y4)] → W p l e rm_Facts_leaveOutJumps s m [.ref (ad 3 j0), .ref (ad 2 j1), .ref (ad 2 j2)].toArray below meth c H locs 0 0 (MQ below (q_Facts_leaveOutJumps D ad ca N M0 MZ A) [.ref (ad 3 j0), .ref (ad 2 j1), .ref (ad 2 j2)].toArray s rm_Facts_leaveOutJumps.cells rm_Facts_leaveOutJumps.slots A) (F0 m 13 ls [])), ∀ (M : me_M) (y3 : Int32) (y4 : Int32) (H : Heap) (locs : List Loc) (ls : Array Slot), f_Facts_leaveOutJumps_b84 k13 j0 j1 j2 M y3 y4 = (some MZ) → me_wf N M → me_kp M0 M → va_P D classes (me_W ad ca M) H → va_D A (me_W ad ca M) → va_S A s.heap H locs → lv_has ls 7 [(0, .ref (ad 3 j0)), (1, .ref (ad 2 j1)), (2, .ref (ad 2 j2)), (3, .int y3), (4, .int y4)] → W p l e rm_Facts_leaveOutJumps s m [.ref (ad 3 j0), .ref (ad 2 j1), .ref (ad 2 j2)].toArray below meth c H locs 0 0 (MQ below (q_Facts_leaveOutJumps D ad ca N M0 MZ A) [.ref (ad 3 j0), .ref (ad 2 j1), .ref (ad 2 j2)].toArray s rm_Facts_leaveOutJumps.cells rm_Facts_leaveOutJumps.slots A) (F0 m 84 ls []) := by
    intro k13 hk13 M y3 y4 H locs ls h hwf hkp hP hD hS hl
    unfold f_Facts_leaveOutJumps_b84 at h
    have hkb := hkp
    refine lv_aload_n hx hb d_Facts_leaveOutJumps_84 rfl (lv_at hl 0 rfl) ?_
    refine g_Facts_5 hx hb hts hown hK hP hwf hj0 (hts _ u_323) d_Facts_leaveOutJumps_85 ?_
    obtain ⟨j3, e4, h⟩ := bd_ob h
    have hj3 : j3 < N 15 := (hwf.2.1 3 j0 5 _ e4 (by decide) hj0)
    refine me_opt (j := j3) e4 ?_
    refine lv_iload hx hb d_Facts_leaveOutJumps_88 (lv_at hl 4 rfl) ?_
    obtain ⟨g5, h⟩ := gd_ob h
    refine me_zald hx hb hK hP hwf hj3 g5 d_Facts_leaveOutJumps_90 ?_
    have z6 := hwf.2.2.2 15 j3 y4.toNatClampNeg rfl
    refine lv_if_eq (tgt := 97) hx hb d_Facts_leaveOutJumps_91 (by decide) (fun c7 => ?_) (fun c7 => ?_)
    · have h := if_t c7 h
      refine lv_iinc (v := y4 + (-1)) (lv' := [(4, .int (y4 + (-1))), (0, .ref (ad 3 j0)), (1, .ref (ad 2 j1)), (2, .ref (ad 2 j2)), (3, .int y3)]) hx hb d_Facts_leaveOutJumps_97 hl (k := 4) rfl (by rfl) (by decide) rfl (fun ls hl => ?_)
      refine lv_goto (tgt := 13) hx hb d_Facts_leaveOutJumps_100 (by decide) ?_
      exact hk13 M y3 (y4 + (-1)) _ _ _ h hwf hkp hP hD hS (lv_sub hl [1, 2, 3, 4, 0] rfl)
    have h := if_f c7 h
    refine lv_iload hx hb d_Facts_leaveOutJumps_94 (lv_at hl 4 rfl) ?_
    refine lv_istore_n (lv' := [(3, .int y4), (0, .ref (ad 3 j0)), (1, .ref (ad 2 j1)), (2, .ref (ad 2 j2)), (4, .int y4)]) hx hb d_Facts_leaveOutJumps_96 rfl hl (by decide) rfl (fun ls hl => ?_)
    refine lv_iinc (v := y4 + (-1)) (lv' := [(4, .int (y4 + (-1))), (3, .int y4), (0, .ref (ad 3 j0)), (1, .ref (ad 2 j1)), (2, .ref (ad 2 j2))]) hx hb d_Facts_leaveOutJumps_97 hl (k := 4) rfl (by rfl) (by decide) rfl (fun ls hl => ?_)
    refine lv_goto (tgt := 13) hx hb d_Facts_leaveOutJumps_100 (by decide) ?_
    exact hk13 M y4 (y4 + (-1)) _ _ _ h hwf hkp hP hD hS (lv_sub hl [2, 3, 4, 1, 0] rfl)
  have b_48 : ∀ (k13 : me_M → Int32 → Int32 → Option me_M) (hk13 : ∀ (M : me_M) (y3 : Int32) (y4 : Int32) (H : Heap) (locs : List Loc) (ls : Array Slot), k13 M y3 y4 = (some MZ) → me_wf N M → me_kp M0 M → va_P D classes (me_W ad ca M) H → va_D A (me_W ad ca M) → va_S A s.heap H locs → lv_has ls 7 [(0, .ref (ad 3 j0)), (1, .ref (ad 2 j1)), (2, .ref (ad 2 j2)), (3, .int y3), (4, .int y4)] → W p l e rm_Facts_leaveOutJumps s m [.ref (ad 3 j0), .ref (ad 2 j1), .ref (ad 2 j2)].toArray below meth c H locs 0 0 (MQ below (q_Facts_leaveOutJumps D ad ca N M0 MZ A) [.ref (ad 3 j0), .ref (ad 2 j1), .ref (ad 2 j2)].toArray s rm_Facts_leaveOutJumps.cells rm_Facts_leaveOutJumps.slots A) (F0 m 13 ls [])), ∀ (M : me_M) (y3 : Int32) (y4 : Int32) (s0 : Int32) (H : Heap) (locs : List Loc) (ls : Array Slot), f_Facts_leaveOutJumps_b48 k13 j0 j1 j2 M y3 y4 s0 = (some MZ) → (s0 = 1 ∨ s0 = 0) → me_wf N M → me_kp M0 M → va_P D classes (me_W ad ca M) H → va_D A (me_W ad ca M) → va_S A s.heap H locs → lv_has ls 7 [(0, .ref (ad 3 j0)), (1, .ref (ad 2 j1)), (2, .ref (ad 2 j2)), (3, .int y3), (4, .int y4)] → W p l e rm_Facts_leaveOutJumps s m [.ref (ad 3 j0), .ref (ad 2 j1), .ref (ad 2 j2)].toArray below meth c H locs 0 0 (MQ below (q_Facts_leaveOutJumps D ad ca N M0 MZ A) [.ref (ad 3 j0), .ref (ad 2 j1), .ref (ad 2 j2)].toArray s rm_Facts_leaveOutJumps.cells rm_Facts_leaveOutJumps.slots A) (F0 m 48 ls [.int s0]) := by
    intro k13 hk13 M y3 y4 s0 H locs ls h zs0 hwf hkp hP hD hS hl
    unfold f_Facts_leaveOutJumps_b48 at h
    have hkb := hkp
    refine lv_istore (lv' := [(5, .int s0), (0, .ref (ad 3 j0)), (1, .ref (ad 2 j1)), (2, .ref (ad 2 j2)), (3, .int y3), (4, .int y4)]) hx hb d_Facts_leaveOutJumps_48 hl (by decide) rfl (fun ls hl => ?_)
    refine lv_aload_n hx hb d_Facts_leaveOutJumps_50 rfl (lv_at hl 2 rfl) ?_
    refine lv_iload hx hb d_Facts_leaveOutJumps_51 (lv_at hl 5 rfl) ?_
    obtain ⟨M8, r9, eM8, h⟩ := b2_ob h
    refine me_theni0 (M1 := M8) (me_runV (C := "FilterGuard$Code") (As := [.int y4]) (rest := []) ⟨hx, hb, hml, hown, hts⟩ (c_Code_target l D ad ca N M M8 r9 j1 y4 eM8 hwf hj1 _) rfl (by show fg_nm y_Code_target 1; decide +kernel) u_1467 u_1005 u_1006 u_182 u_1007 ⟨Nat.le_of_ble_eq_true rfl, Nat.le_of_ble_eq_true rfl⟩ hX hz hK hP hD hwf hS hA hj1 (by decide) rfl rfl rfl hl.1 (Nat.le_of_ble_eq_true rfl) d_Facts_leaveOutJumps_53 ⟨Nat.le_of_ble_eq_true rfl, Nat.le_of_ble_eq_true rfl⟩) hP hD hK hS hA rfl rfl (fun H locs hw hP hD hS => ?_)
    obtain ⟨hwf, hk9⟩ := hw
    have hkp := hkp.tr hk9
    refine lv_istore (lv' := [(6, .int r9), (5, .int s0), (0, .ref (ad 3 j0)), (1, .ref (ad 2 j1)), (2, .ref (ad 2 j2)), (3, .int y3), (4, .int y4)]) hx hb d_Facts_leaveOutJumps_56 hl (by decide) rfl (fun ls hl => ?_)
    refine lv_iload hx hb d_Facts_leaveOutJumps_58 (lv_at hl 1 rfl) ?_
    refine lv_if_eq (tgt := 84) hx hb d_Facts_leaveOutJumps_60 (by decide) (fun c10 => ?_) (fun c10 => ?_)
    · have h := if_t c10 h
      exact b_84 _ hk13 M8 y3 y4 _ _ _ h hwf hkp hP hD hS (lv_sub hl [2, 3, 4, 5, 6] rfl)
    have h := if_f c10 h
    refine lv_iload hx hb d_Facts_leaveOutJumps_63 (lv_at hl 0 rfl) ?_
    refine lv_iload hx hb d_Facts_leaveOutJumps_65 (lv_at hl 6 rfl) ?_
    refine lv_icmp_le (tgt := 84) hx hb d_Facts_leaveOutJumps_67 (by decide) (fun c11 => ?_) (fun c11 => ?_)
    · have h := if_t c11 h
      exact b_84 _ hk13 M8 y3 y4 _ _ _ h hwf hkp hP hD hS (lv_sub hl [2, 3, 4, 5, 6] rfl)
    have h := if_f c11 h
    refine lv_iload_n hx hb d_Facts_leaveOutJumps_70 rfl (lv_at hl 5 rfl) ?_
    refine lv_iload hx hb d_Facts_leaveOutJumps_71 (lv_at hl 0 rfl) ?_
    refine lv_icmp_lt (tgt := 84) hx hb d_Facts_leaveOutJumps_73 (by decide) (fun c12 => ?_) (fun c12 => ?_)
    · have h := if_t c12 h
      exact b_84 _ hk13 M8 y3 y4 _ _ _ h hwf hkp hP hD hS (lv_sub hl [2, 3, 4, 5, 6] rfl)
    have h := if_f c12 h
    refine lv_aload_n hx hb d_Facts_leaveOutJumps_76 rfl (lv_at hl 2 rfl) ?_
    refine g_Facts_5 hx hb hts hown hK hP hwf hj0 (hts _ u_323) d_Facts_leaveOutJumps_77 ?_
    obtain ⟨j13, e14, h⟩ := bd_ob h
    have hj13 : j13 < N 15 := (hwf.2.1 3 j0 5 _ (kp_r hkb hkp e14) (by decide) hj0)
    refine me_opt (j := j13) (kp_r hkb hkp e14) ?_
    refine lv_iload hx hb d_Facts_leaveOutJumps_80 (lv_at hl 6 rfl) ?_
    refine lv_iconst (v := 0) hx hb d_Facts_leaveOutJumps_82 (by decide) ?_
    obtain ⟨g15, h⟩ := gd_ob h
    obtain ⟨M16, eM16, h⟩ := st_ob h
    refine me_zast eM16 hx hb hK hP hD hwf hS hj13 (kp_z hkb.z hkp.z g15) d_Facts_leaveOutJumps_83 (fun H locs hP hD hwf hS => ?_)
    have hkp := kp_I eM16 hkp
    exact b_84 _ hk13 M16 y3 y4 _ _ _ h hwf hkp hP hD hS (lv_sub hl [2, 3, 4, 5, 6] rfl)
  have b_47 : ∀ (k13 : me_M → Int32 → Int32 → Option me_M) (hk13 : ∀ (M : me_M) (y3 : Int32) (y4 : Int32) (H : Heap) (locs : List Loc) (ls : Array Slot), k13 M y3 y4 = (some MZ) → me_wf N M → me_kp M0 M → va_P D classes (me_W ad ca M) H → va_D A (me_W ad ca M) → va_S A s.heap H locs → lv_has ls 7 [(0, .ref (ad 3 j0)), (1, .ref (ad 2 j1)), (2, .ref (ad 2 j2)), (3, .int y3), (4, .int y4)] → W p l e rm_Facts_leaveOutJumps s m [.ref (ad 3 j0), .ref (ad 2 j1), .ref (ad 2 j2)].toArray below meth c H locs 0 0 (MQ below (q_Facts_leaveOutJumps D ad ca N M0 MZ A) [.ref (ad 3 j0), .ref (ad 2 j1), .ref (ad 2 j2)].toArray s rm_Facts_leaveOutJumps.cells rm_Facts_leaveOutJumps.slots A) (F0 m 13 ls [])), ∀ (M : me_M) (y3 : Int32) (y4 : Int32) (H : Heap) (locs : List Loc) (ls : Array Slot), f_Facts_leaveOutJumps_b47 k13 j0 j1 j2 M y3 y4 = (some MZ) → me_wf N M → me_kp M0 M → va_P D classes (me_W ad ca M) H → va_D A (me_W ad ca M) → va_S A s.heap H locs → lv_has ls 7 [(0, .ref (ad 3 j0)), (1, .ref (ad 2 j1)), (2, .ref (ad 2 j2)), (3, .int y3), (4, .int y4)] → W p l e rm_Facts_leaveOutJumps s m [.ref (ad 3 j0), .ref (ad 2 j1), .ref (ad 2 j2)].toArray below meth c H locs 0 0 (MQ below (q_Facts_leaveOutJumps D ad ca N M0 MZ A) [.ref (ad 3 j0), .ref (ad 2 j1), .ref (ad 2 j2)].toArray s rm_Facts_leaveOutJumps.cells rm_Facts_leaveOutJumps.slots A) (F0 m 47 ls []) := by
    intro k13 hk13 M y3 y4 H locs ls h hwf hkp hP hD hS hl
    unfold f_Facts_leaveOutJumps_b47 at h
    have hkb := hkp
    refine lv_iconst (v := 0) hx hb d_Facts_leaveOutJumps_47 (by decide) ?_
    exact b_48 _ hk13 M y3 y4 (0 : Int32) _ _ _ h (by decide) hwf hkp hP hD hS (lv_sub hl [0, 1, 2, 3, 4] rfl)
  have b_13 : ∀ (fu : Nat), ∀ (M : me_M) (y3 : Int32) (y4 : Int32) (H : Heap) (locs : List Loc) (ls : Array Slot), f_Facts_leaveOutJumps_l13 j0 j1 j2 fu M y3 y4 = (some MZ) → me_wf N M → me_kp M0 M → va_P D classes (me_W ad ca M) H → va_D A (me_W ad ca M) → va_S A s.heap H locs → lv_has ls 7 [(0, .ref (ad 3 j0)), (1, .ref (ad 2 j1)), (2, .ref (ad 2 j2)), (3, .int y3), (4, .int y4)] → W p l e rm_Facts_leaveOutJumps s m [.ref (ad 3 j0), .ref (ad 2 j1), .ref (ad 2 j2)].toArray below meth c H locs 0 0 (MQ below (q_Facts_leaveOutJumps D ad ca N M0 MZ A) [.ref (ad 3 j0), .ref (ad 2 j1), .ref (ad 2 j2)].toArray s rm_Facts_leaveOutJumps.cells rm_Facts_leaveOutJumps.slots A) (F0 m 13 ls []) := by
    intro fu
    induction fu with
    | zero =>
      intro M y3 y4 H locs ls h hwf hkp hP hD hS hl
      cases h
    | succ fu ih =>
      intro M y3 y4 H locs ls h hwf hkp hP hD hS hl
      unfold f_Facts_leaveOutJumps_l13 at h
      have hkb := hkp
      refine lv_iload hx hb d_Facts_leaveOutJumps_13 (lv_at hl 4 rfl) ?_
      refine lv_if_lt (tgt := 103) hx hb d_Facts_leaveOutJumps_15 (by decide) (fun c17 => ?_) (fun c17 => ?_)
      · have h := if_t c17 h
        exact me_retv (me_kp M0) h hx hb hr hlocks hwf hkp hP hK hD hS d_Facts_leaveOutJumps_103
      have h := if_f c17 h
      refine lv_aload_n hx hb d_Facts_leaveOutJumps_18 rfl (lv_at hl 1 rfl) ?_
      refine lv_iload hx hb d_Facts_leaveOutJumps_19 (lv_at hl 4 rfl) ?_
      obtain ⟨M18, eM18, h⟩ := bd_ob h
      refine me_thenv0 (M1 := M18) (me_runV (C := "FilterGuard$Code") (As := [.int y4]) (rest := []) ⟨hx, hb, hml, hown, hts⟩ (c_Code_look l D ad ca N M M18 j1 y4 eM18 hwf hj1 _) rfl (by show fg_nm y_Code_look 1; decide +kernel) u_1455 u_958 u_959 u_182 u_960 ⟨Nat.le_of_ble_eq_true rfl, Nat.le_of_ble_eq_true rfl⟩ hX hz hK hP hD hwf hS hA hj1 (by decide) rfl rfl rfl hl.1 (Nat.le_of_ble_eq_true rfl) d_Facts_leaveOutJumps_21 ⟨Nat.le_of_ble_eq_true rfl, Nat.le_of_ble_eq_true rfl⟩) hP hD hK hS hA rfl rfl (fun H locs hw hP hD hS => ?_)
      obtain ⟨hwf, hk9⟩ := hw
      have hkp := hkp.tr hk9
      refine lv_aload_n hx hb d_Facts_leaveOutJumps_24 rfl (lv_at hl 2 rfl) ?_
      refine g_Code_1 hx hb hts hown hK hP hwf hj2 (hts _ u_224) d_Facts_leaveOutJumps_25 ?_
      obtain ⟨j19, e20, h⟩ := bd_ob h
      have hj19 : j19 < N 15 := (hwf.2.1 2 j2 1 _ (kp_r hkb hkp e20) (by decide) hj2)
      refine me_opt (j := j19) (kp_r hkb hkp e20) ?_
      refine lv_iload hx hb d_Facts_leaveOutJumps_28 (lv_at hl 4 rfl) ?_
      obtain ⟨g21, h⟩ := gd_ob h
      refine me_zald hx hb hK hP hwf hj19 (kp_z hkb.z hkp.z g21) d_Facts_leaveOutJumps_30 ?_
      have z22 := hwf.2.2.2 15 j19 y4.toNatClampNeg rfl
      refine lv_if_ne (tgt := 47) hx hb d_Facts_leaveOutJumps_31 (by decide) (fun c23 => ?_) (fun c23 => ?_)
      · have h := if_f c23 h
        exact b_47 _ ih M18 y3 y4 _ _ _ h hwf hkp hP hD hS (lv_sub hl [0, 1, 2, 3, 4] rfl)
      have h := if_t c23 h
      refine lv_aload_n hx hb d_Facts_leaveOutJumps_34 rfl (lv_at hl 1 rfl) ?_
      refine g_Code_10 hx hb hts hown hK hP hwf hj1 (hts _ u_255) d_Facts_leaveOutJumps_35 ?_
      refine lv_bipush (v := 7) hx hb d_Facts_leaveOutJumps_38 (by decide) ?_
      refine lv_icmp_ne (tgt := 47) hx hb d_Facts_leaveOutJumps_40 (by decide) (fun c24 => ?_) (fun c24 => ?_)
      · have h := if_f c24 h
        exact b_47 _ ih M18 y3 y4 _ _ _ h hwf hkp hP hD hS (lv_sub hl [0, 1, 2, 3, 4] rfl)
      have h := if_t c24 h
      refine lv_iconst (v := 1) hx hb d_Facts_leaveOutJumps_43 (by decide) ?_
      refine lv_goto (tgt := 48) hx hb d_Facts_leaveOutJumps_44 (by decide) ?_
      exact b_48 _ ih M18 y3 y4 (1 : Int32) _ _ _ h (by decide) hwf hkp hP hD hS (lv_sub hl [0, 1, 2, 3, 4] rfl)
  refine lv_aload_n hx hb d_Facts_leaveOutJumps_0 rfl (lv_at hl 2 rfl) ?_
  refine g_Code_3 hx hb hts hown hK hP hwf hj2 (hts _ u_228) d_Facts_leaveOutJumps_1 ?_
  obtain ⟨v25, ev25, h⟩ := st_ob h
  refine fg_topi (y := v25) ev25.symm ?_
  refine lv_istore_n (lv' := [(3, .int v25), (0, .ref (ad 3 j0)), (1, .ref (ad 2 j1)), (2, .ref (ad 2 j2))]) hx hb d_Facts_leaveOutJumps_4 rfl hl (by decide) rfl (fun ls hl => ?_)
  refine lv_aload_n hx hb d_Facts_leaveOutJumps_5 rfl (lv_at hl 3 rfl) ?_
  refine g_Code_3 hx hb hts hown hK hP hwf hj2 (hts _ u_228) d_Facts_leaveOutJumps_6 ?_
  refine lv_iconst (v := 1) hx hb d_Facts_leaveOutJumps_9 (by decide) ?_
  refine lv_isub hx hb d_Facts_leaveOutJumps_10 ?_
  obtain ⟨v26, ev26, h⟩ := st_ob h
  refine fg_topi (y := v26) ev26.symm ?_
  refine lv_istore (lv' := [(4, .int v26), (3, .int v25), (0, .ref (ad 3 j0)), (1, .ref (ad 2 j1)), (2, .ref (ad 2 j2))]) hx hb d_Facts_leaveOutJumps_11 hl (by decide) rfl (fun ls hl => ?_)
  exact b_13 _ M0 v25 v26 _ _ _ h hwf hkp hP hD hS (lv_sub hl [2, 3, 4, 1, 0] rfl)
theorem d_Facts_numberPlaces_4 : decode prog_6_method_10_code 4 = .ok (.iload_n 3, 1) := by decide +kernel
theorem d_Facts_numberPlaces_5 : decode prog_6_method_10_code 5 = .ok (.iload_n 1, 1) := by decide +kernel
theorem d_Facts_numberPlaces_6 : decode prog_6_method_10_code 6 = .ok (.if_icmp .ge 33, 3) := by decide +kernel
theorem d_Facts_numberPlaces_39 : decode prog_6_method_10_code 39 = .ok (.aload_n 0, 1) := by decide +kernel
theorem d_Facts_numberPlaces_40 : decode prog_6_method_10_code 40 = .ok (.getfield 32, 3) := by decide +kernel
theorem g_Facts_6 {p : Program} {l : Launch} {e : Env} {R : Room} {s : Jvm.State} {m : MethodId} {args : Array Value} {below : List Frame} {meth : Method} {c : Code} {H : Heap} {locs : List Loc} {cells slots : Nat} {Q : Jvm.State → Prop} {cc : ByteArray} {pc : Nat} {ls : Array Slot} {rest : List Value} {D : va_G} {ad : Nat → Nat → Nat} {ca : Nat → ClassId} {M : me_M} {N : Nat → Nat} {own : String} {index j : Nat} (hexec : p.tables.exec = Jvm.exec) (hb : c.code = cc) (hts : ∀ w ∈ fg_g, w.before args s = true) (hown : s.vm.findClass own = some m.cls) (hK : va_K D classes (me_T ca) s) (hP : va_P D classes (me_W ad ca M) H) (hwf : me_wf N M) (hj : j < N 3) (hlink : (Cond.fieldLink own index "FilterGuard$Facts" "newPlace" "[I").before args s = true) (hdg : decode cc pc = .ok (.getfield index, 3)) (kk : W p l e R s m args below meth c H locs cells slots Q (F0 m (pc + 3) ls (va_rf ((mR M 3 j 6).map (ad 13)) :: rest))) : W p l e R s m args below meth c H locs cells slots Q (F0 m pc ls (.ref (ad 3 j) :: rest)) := me_get (k := 3) (f := 6) (C := "FilterGuard$Facts") (T := F_Facts) (Nf := 7) hexec hb hts i_Facts hown hK hP hwf hj (by decide) rfl (by decide) (by decide) hlink (fun _ h9 => h9) hdg kk
theorem d_Facts_numberPlaces_43 : decode prog_6_method_10_code 43 = .ok (.iload_n 1, 1) := by decide +kernel
theorem d_Facts_numberPlaces_44 : decode prog_6_method_10_code 44 = .ok (.iload_n 2, 1) := by decide +kernel
theorem d_Facts_numberPlaces_45 : decode prog_6_method_10_code 45 = .ok (.iastore, 1) := by decide +kernel
theorem d_Facts_numberPlaces_46 : decode prog_6_method_10_code 46 = .ok (.return_, 1) := by decide +kernel
theorem d_Facts_numberPlaces_9 : decode prog_6_method_10_code 9 = .ok (.aload_n 0, 1) := by decide +kernel
theorem d_Facts_numberPlaces_10 : decode prog_6_method_10_code 10 = .ok (.getfield 32, 3) := by decide +kernel
theorem d_Facts_numberPlaces_13 : decode prog_6_method_10_code 13 = .ok (.iload_n 3, 1) := by decide +kernel
theorem d_Facts_numberPlaces_14 : decode prog_6_method_10_code 14 = .ok (.iload_n 2, 1) := by decide +kernel
theorem d_Facts_numberPlaces_15 : decode prog_6_method_10_code 15 = .ok (.iastore, 1) := by decide +kernel
theorem d_Facts_numberPlaces_16 : decode prog_6_method_10_code 16 = .ok (.iload_n 2, 1) := by decide +kernel
theorem d_Facts_numberPlaces_17 : decode prog_6_method_10_code 17 = .ok (.aload_n 0, 1) := by decide +kernel
theorem d_Facts_numberPlaces_18 : decode prog_6_method_10_code 18 = .ok (.getfield 29, 3) := by decide +kernel
theorem d_Facts_numberPlaces_21 : decode prog_6_method_10_code 21 = .ok (.iload_n 3, 1) := by decide +kernel
theorem d_Facts_numberPlaces_22 : decode prog_6_method_10_code 22 = .ok (.baload, 1) := by decide +kernel
theorem d_Facts_numberPlaces_23 : decode prog_6_method_10_code 23 = .ok (.ifCond .eq 7, 3) := by decide +kernel
theorem d_Facts_numberPlaces_30 : decode prog_6_method_10_code 30 = .ok (.iconst 0, 1) := by decide +kernel
theorem d_Facts_numberPlaces_31 : decode prog_6_method_10_code 31 = .ok (.iadd, 1) := by decide +kernel
theorem d_Facts_numberPlaces_32 : decode prog_6_method_10_code 32 = .ok (.istore_n 2, 1) := by decide +kernel
theorem d_Facts_numberPlaces_33 : decode prog_6_method_10_code 33 = .ok (.iinc 3 1, 3) := by decide +kernel
theorem d_Facts_numberPlaces_36 : decode prog_6_method_10_code 36 = .ok (.goto (-32), 3) := by decide +kernel
theorem d_Facts_numberPlaces_26 : decode prog_6_method_10_code 26 = .ok (.iconst 1, 1) := by decide +kernel
theorem d_Facts_numberPlaces_27 : decode prog_6_method_10_code 27 = .ok (.goto 4, 3) := by decide +kernel
theorem d_Facts_numberPlaces_0 : decode prog_6_method_10_code 0 = .ok (.iconst 0, 1) := by decide +kernel
theorem d_Facts_numberPlaces_1 : decode prog_6_method_10_code 1 = .ok (.istore_n 2, 1) := by decide +kernel
theorem d_Facts_numberPlaces_2 : decode prog_6_method_10_code 2 = .ok (.iconst 0, 1) := by decide +kernel
theorem d_Facts_numberPlaces_3 : decode prog_6_method_10_code 3 = .ok (.istore_n 3, 1) := by decide +kernel
abbrev y_Facts_numberPlaces : MethodName := ⟨"FilterGuard$Facts", "numberPlaces", "(I)V"⟩
def rm_Facts_numberPlaces : Room := { frames := 1, cells := 0, slots := 0, locals := 20 }
abbrev q_Facts_numberPlaces (D : va_G) (ad : Nat → Nat → Nat) (ca : Nat → ClassId) (N : Nat → Nat) (M0 MZ : me_M) (A : Nat → Prop) : Array Value → Jvm.State → Outcome → Jvm.State → Prop := va_Qv (fun (_ : Unit) => me_wf N MZ ∧ me_kp M0 MZ) (fg_B D A (fun _ => me_W ad ca MZ) (fun _ => [])) A
set_option maxHeartbeats 4000000 in
set_option maxRecDepth 100000 in
theorem c_Facts_numberPlaces (l : Launch) (D : va_G) (ad : Nat → Nat → Nat) (ca : Nat → ClassId) (N : Nat → Nat) (M0 MZ : me_M) (j0 : Nat) (x1 : Int32) (h : f_Facts_numberPlaces M0 j0 x1 = (some MZ)) (hwf : me_wf N M0) (hj0 : j0 < N 3) (sz : Nat) : Met l y_Facts_numberPlaces (fg_w y_Facts_numberPlaces prog_6_method_10_code 4 none) rm_Facts_numberPlaces (va_Pc [.ref (ad 3 j0), .int x1] (fz_P D (me_T ca) (me_W ad ca M0) sz)) (q_Facts_numberPlaces D ad ca N M0 MZ (va_A (me_W ad ca M0) sz)) rm_Facts_numberPlaces.cells rm_Facts_numberPlaces.slots (va_A (me_W ad ca M0) sz) := by
  refine fz_enter (fun A => q_Facts_numberPlaces D ad ca N M0 MZ A) (by decide +kernel) (Nat.le_of_ble_eq_true rfl) ?_
  intro p e s m below meth c ls A hx hb hml hown hts hr hlocks hin hP hK hD hS hA hX hl hz
  have hl : lv_has ls 4 [(0, .ref (ad 3 j0)), (1, .int x1)] := hl
  unfold f_Facts_numberPlaces at h
  have hkp : me_kp M0 M0 := me_kp.rf
  have hkb := hkp
  have b_4 : ∀ (fu : Nat), ∀ (M : me_M) (y2 : Int32) (y3 : Int32) (H : Heap) (locs : List Loc) (ls : Array Slot), f_Facts_numberPlaces_l4 j0 x1 fu M y2 y3 = (some MZ) → me_wf N M → me_kp M0 M → va_P D classes (me_W ad ca M) H → va_D A (me_W ad ca M) → va_S A s.heap H locs → lv_has ls 4 [(0, .ref (ad 3 j0)), (1, .int x1), (2, .int y2), (3, .int y3)] → W p l e rm_Facts_numberPlaces s m [.ref (ad 3 j0), .int x1].toArray below meth c H locs 0 0 (MQ below (q_Facts_numberPlaces D ad ca N M0 MZ A) [.ref (ad 3 j0), .int x1].toArray s rm_Facts_numberPlaces.cells rm_Facts_numberPlaces.slots A) (F0 m 4 ls []) := by
    intro fu
    induction fu with
    | zero =>
      intro M y2 y3 H locs ls h hwf hkp hP hD hS hl
      cases h
    | succ fu ih =>
      intro M y2 y3 H locs ls h hwf hkp hP hD hS hl
      unfold f_Facts_numberPlaces_l4 at h
      have hkb := hkp
      refine lv_iload_n hx hb d_Facts_numberPlaces_4 rfl (lv_at hl 3 rfl) ?_
      refine lv_iload_n hx hb d_Facts_numberPlaces_5 rfl (lv_at hl 1 rfl) ?_
      refine lv_icmp_ge (tgt := 39) hx hb d_Facts_numberPlaces_6 (by decide) (fun c1 => ?_) (fun c1 => ?_)
      · have h := if_t c1 h
        refine lv_aload_n hx hb d_Facts_numberPlaces_39 rfl (lv_at hl 0 rfl) ?_
        refine g_Facts_6 hx hb hts hown hK hP hwf hj0 (hts _ u_324) d_Facts_numberPlaces_40 ?_
        obtain ⟨j2, e3, h⟩ := bd_ob h
        have hj2 : j2 < N 13 := (hwf.2.1 3 j0 6 _ e3 (by decide) hj0)
        refine me_opt (j := j2) e3 ?_
        refine lv_iload_n hx hb d_Facts_numberPlaces_43 rfl (lv_at hl 1 rfl) ?_
        refine lv_iload_n hx hb d_Facts_numberPlaces_44 rfl (lv_at hl 2 rfl) ?_
        obtain ⟨g4, h⟩ := gd_ob h
        obtain ⟨M5, eM5, h⟩ := st_ob h
        refine me_iast eM5 hx hb hK hP hD hwf hS hj2 g4 d_Facts_numberPlaces_45 (fun H locs hP hD hwf hS => ?_)
        have hkp := kp_I eM5 hkp
        exact me_retv (me_kp M0) h hx hb hr hlocks hwf hkp hP hK hD hS d_Facts_numberPlaces_46
      have h := if_f c1 h
      refine lv_aload_n hx hb d_Facts_numberPlaces_9 rfl (lv_at hl 0 rfl) ?_
      refine g_Facts_6 hx hb hts hown hK hP hwf hj0 (hts _ u_324) d_Facts_numberPlaces_10 ?_
      obtain ⟨j6, e7, h⟩ := bd_ob h
      have hj6 : j6 < N 13 := (hwf.2.1 3 j0 6 _ e7 (by decide) hj0)
      refine me_opt (j := j6) e7 ?_
      refine lv_iload_n hx hb d_Facts_numberPlaces_13 rfl (lv_at hl 3 rfl) ?_
      refine lv_iload_n hx hb d_Facts_numberPlaces_14 rfl (lv_at hl 2 rfl) ?_
      obtain ⟨g8, h⟩ := gd_ob h
      obtain ⟨M9, eM9, h⟩ := st_ob h
      refine me_iast eM9 hx hb hK hP hD hwf hS hj6 g8 d_Facts_numberPlaces_15 (fun H locs hP hD hwf hS => ?_)
      have hkp := kp_I eM9 hkp
      refine lv_iload_n hx hb d_Facts_numberPlaces_16 rfl (lv_at hl 2 rfl) ?_
      refine lv_aload_n hx hb d_Facts_numberPlaces_17 rfl (lv_at hl 0 rfl) ?_
      refine g_Facts_5 hx hb hts hown hK hP hwf hj0 (hts _ u_323) d_Facts_numberPlaces_18 ?_
      obtain ⟨j10, e11, h⟩ := bd_ob h
      have hj10 : j10 < N 15 := (hwf.2.1 3 j0 5 _ (kp_r hkb hkp e11) (by decide) hj0)
      refine me_opt (j := j10) (kp_r hkb hkp e11) ?_
      refine lv_iload_n hx hb d_Facts_numberPlaces_21 rfl (lv_at hl 3 rfl) ?_
      obtain ⟨g12, h⟩ := gd_ob h
      refine me_zald hx hb hK hP hwf hj10 (kp_z hkb.z hkp.z g12) d_Facts_numberPlaces_22 ?_
      have z13 := hwf.2.2.2 15 j10 y3.toNatClampNeg rfl
      refine lv_if_eq (tgt := 30) hx hb d_Facts_numberPlaces_23 (by decide) (fun c14 => ?_) (fun c14 => ?_)
      · have h := if_t c14 h
        refine lv_iconst (v := 0) hx hb d_Facts_numberPlaces_30 (by decide) ?_
        refine lv_iadd hx hb d_Facts_numberPlaces_31 ?_
        obtain ⟨v15, ev15, h⟩ := st_ob h
        refine fg_topi (y := v15) ev15.symm ?_
        refine lv_istore_n (lv' := [(2, .int v15), (0, .ref (ad 3 j0)), (1, .int x1), (3, .int y3)]) hx hb d_Facts_numberPlaces_32 rfl hl (by decide) rfl (fun ls hl => ?_)
        refine lv_iinc (v := y3 + 1) (lv' := [(3, .int (y3 + 1)), (2, .int v15), (0, .ref (ad 3 j0)), (1, .int x1)]) hx hb d_Facts_numberPlaces_33 hl (k := 3) rfl (by rfl) (by decide) rfl (fun ls hl => ?_)
        refine lv_goto (tgt := 4) hx hb d_Facts_numberPlaces_36 (by decide) ?_
        exact ih M9 v15 (y3 + 1) _ _ _ h hwf hkp hP hD hS (lv_sub hl [2, 3, 1, 0] rfl)
      have h := if_f c14 h
      refine lv_iconst (v := 1) hx hb d_Facts_numberPlaces_26 (by decide) ?_
      refine lv_goto (tgt := 31) hx hb d_Facts_numberPlaces_27 (by decide) ?_
      refine lv_iadd hx hb d_Facts_numberPlaces_31 ?_
      obtain ⟨v16, ev16, h⟩ := st_ob h
      refine fg_topi (y := v16) ev16.symm ?_
      refine lv_istore_n (lv' := [(2, .int v16), (0, .ref (ad 3 j0)), (1, .int x1), (3, .int y3)]) hx hb d_Facts_numberPlaces_32 rfl hl (by decide) rfl (fun ls hl => ?_)
      refine lv_iinc (v := y3 + 1) (lv' := [(3, .int (y3 + 1)), (2, .int v16), (0, .ref (ad 3 j0)), (1, .int x1)]) hx hb d_Facts_numberPlaces_33 hl (k := 3) rfl (by rfl) (by decide) rfl (fun ls hl => ?_)
      refine lv_goto (tgt := 4) hx hb d_Facts_numberPlaces_36 (by decide) ?_
      exact ih M9 v16 (y3 + 1) _ _ _ h hwf hkp hP hD hS (lv_sub hl [2, 3, 1, 0] rfl)
  refine lv_iconst (v := 0) hx hb d_Facts_numberPlaces_0 (by decide) ?_
  refine lv_istore_n (lv' := [(2, .int 0), (0, .ref (ad 3 j0)), (1, .int x1)]) hx hb d_Facts_numberPlaces_1 rfl hl (by decide) rfl (fun ls hl => ?_)
  refine lv_iconst (v := 0) hx hb d_Facts_numberPlaces_2 (by decide) ?_
  refine lv_istore_n (lv' := [(3, .int 0), (2, .int 0), (0, .ref (ad 3 j0)), (1, .int x1)]) hx hb d_Facts_numberPlaces_3 rfl hl (by decide) rfl (fun ls hl => ?_)
  exact b_4 _ M0 (0 : Int32) (0 : Int32) _ _ _ h hwf hkp hP hD hS (lv_sub hl [2, 3, 1, 0] rfl)
theorem d_Facts_pack_106 : decode prog_6_method_11_code 106 = .ok (.aload_n 0, 1) := by decide +kernel
theorem d_Facts_pack_107 : decode prog_6_method_11_code 107 = .ok (.getfield 29, 3) := by decide +kernel
theorem d_Facts_pack_110 : decode prog_6_method_11_code 110 = .ok (.iload_n 3, 1) := by decide +kernel
theorem d_Facts_pack_111 : decode prog_6_method_11_code 111 = .ok (.baload, 1) := by decide +kernel
theorem d_Facts_pack_112 : decode prog_6_method_11_code 112 = .ok (.ifCond .eq 16, 3) := by decide +kernel
theorem d_Facts_pack_128 : decode prog_6_method_11_code 128 = .ok (.iinc 3 1, 3) := by decide +kernel
theorem d_Facts_pack_131 : decode prog_6_method_11_code 131 = .ok (.goto (-129), 3) := by decide +kernel
theorem d_Facts_pack_115 : decode prog_6_method_11_code 115 = .ok (.aload_n 1, 1) := by decide +kernel
theorem d_Facts_pack_116 : decode prog_6_method_11_code 116 = .ok (.getfield 70, 3) := by decide +kernel
theorem d_Facts_pack_119 : decode prog_6_method_11_code 119 = .ok (.aload_n 0, 1) := by decide +kernel
theorem d_Facts_pack_120 : decode prog_6_method_11_code 120 = .ok (.getfield 32, 3) := by decide +kernel
theorem d_Facts_pack_123 : decode prog_6_method_11_code 123 = .ok (.iload_n 3, 1) := by decide +kernel
theorem d_Facts_pack_124 : decode prog_6_method_11_code 124 = .ok (.iaload, 1) := by decide +kernel
theorem d_Facts_pack_125 : decode prog_6_method_11_code 125 = .ok (.lload 4, 2) := by decide +kernel
theorem d_Facts_pack_127 : decode prog_6_method_11_code 127 = .ok (.lastore, 1) := by decide +kernel
theorem d_Facts_pack_2 : decode prog_6_method_11_code 2 = .ok (.iload_n 3, 1) := by decide +kernel
theorem d_Facts_pack_3 : decode prog_6_method_11_code 3 = .ok (.aload_n 2, 1) := by decide +kernel
theorem d_Facts_pack_4 : decode prog_6_method_11_code 4 = .ok (.getfield 55, 3) := by decide +kernel
theorem d_Facts_pack_7 : decode prog_6_method_11_code 7 = .ok (.if_icmp .ge 127, 3) := by decide +kernel
theorem d_Facts_pack_134 : decode prog_6_method_11_code 134 = .ok (.aload_n 1, 1) := by decide +kernel
theorem d_Facts_pack_135 : decode prog_6_method_11_code 135 = .ok (.aload_n 0, 1) := by decide +kernel
theorem d_Facts_pack_136 : decode prog_6_method_11_code 136 = .ok (.getfield 32, 3) := by decide +kernel
theorem d_Facts_pack_139 : decode prog_6_method_11_code 139 = .ok (.aload_n 2, 1) := by decide +kernel
theorem d_Facts_pack_140 : decode prog_6_method_11_code 140 = .ok (.getfield 55, 3) := by decide +kernel
theorem d_Facts_pack_143 : decode prog_6_method_11_code 143 = .ok (.iaload, 1) := by decide +kernel
theorem d_Facts_pack_144 : decode prog_6_method_11_code 144 = .ok (.putfield 55, 3) := by decide +kernel
theorem d_Facts_pack_147 : decode prog_6_method_11_code 147 = .ok (.return_, 1) := by decide +kernel
theorem d_Facts_pack_10 : decode prog_6_method_11_code 10 = .ok (.aload_n 1, 1) := by decide +kernel
theorem d_Facts_pack_11 : decode prog_6_method_11_code 11 = .ok (.iload_n 3, 1) := by decide +kernel
theorem d_Facts_pack_12 : decode prog_6_method_11_code 12 = .ok (.invokevirtual 63, 3) := by decide +kernel
theorem d_Facts_pack_15 : decode prog_6_method_11_code 15 = .ok (.aload_n 1, 1) := by decide +kernel
theorem d_Facts_pack_16 : decode prog_6_method_11_code 16 = .ok (.getfield 70, 3) := by decide +kernel
theorem d_Facts_pack_19 : decode prog_6_method_11_code 19 = .ok (.iload_n 3, 1) := by decide +kernel
theorem d_Facts_pack_20 : decode prog_6_method_11_code 20 = .ok (.laload, 1) := by decide +kernel
theorem d_Facts_pack_21 : decode prog_6_method_11_code 21 = .ok (.lstore 4, 2) := by decide +kernel
theorem d_Facts_pack_23 : decode prog_6_method_11_code 23 = .ok (.aload_n 1, 1) := by decide +kernel
theorem d_Facts_pack_24 : decode prog_6_method_11_code 24 = .ok (.iload_n 3, 1) := by decide +kernel
theorem d_Facts_pack_25 : decode prog_6_method_11_code 25 = .ok (.invokevirtual 99, 3) := by decide +kernel
theorem d_Facts_pack_28 : decode prog_6_method_11_code 28 = .ok (.istore 6, 2) := by decide +kernel
theorem d_Facts_pack_30 : decode prog_6_method_11_code 30 = .ok (.aload_n 0, 1) := by decide +kernel
theorem d_Facts_pack_31 : decode prog_6_method_11_code 31 = .ok (.getfield 29, 3) := by decide +kernel
theorem d_Facts_pack_34 : decode prog_6_method_11_code 34 = .ok (.iload_n 3, 1) := by decide +kernel
theorem d_Facts_pack_35 : decode prog_6_method_11_code 35 = .ok (.baload, 1) := by decide +kernel
theorem d_Facts_pack_36 : decode prog_6_method_11_code 36 = .ok (.ifCond .eq 70, 3) := by decide +kernel
theorem d_Facts_pack_39 : decode prog_6_method_11_code 39 = .ok (.aload_n 2, 1) := by decide +kernel
theorem d_Facts_pack_40 : decode prog_6_method_11_code 40 = .ok (.getfield 60, 3) := by decide +kernel
theorem d_Facts_pack_43 : decode prog_6_method_11_code 43 = .ok (.iload_n 3, 1) := by decide +kernel
theorem d_Facts_pack_44 : decode prog_6_method_11_code 44 = .ok (.baload, 1) := by decide +kernel
theorem d_Facts_pack_45 : decode prog_6_method_11_code 45 = .ok (.ifCond .ne 61, 3) := by decide +kernel
theorem d_Facts_pack_48 : decode prog_6_method_11_code 48 = .ok (.aload_n 1, 1) := by decide +kernel
theorem d_Facts_pack_49 : decode prog_6_method_11_code 49 = .ok (.invokevirtual 103, 3) := by decide +kernel
theorem u_1476 : Cond.methodLink "FilterGuard$Facts" 103 ⟨"FilterGuard$Code", "isJump", "()Z"⟩ ∈ fg_g := fg_in (List.mem_of_getElem? (i := 1476) (by decide +kernel)) rfl
theorem d_Facts_pack_52 : decode prog_6_method_11_code 52 = .ok (.ifCond .eq 54, 3) := by decide +kernel
theorem d_Facts_pack_55 : decode prog_6_method_11_code 55 = .ok (.iload 6, 2) := by decide +kernel
theorem d_Facts_pack_57 : decode prog_6_method_11_code 57 = .ok (.ifCond .lt 49, 3) := by decide +kernel
theorem d_Facts_pack_60 : decode prog_6_method_11_code 60 = .ok (.iload 6, 2) := by decide +kernel
theorem d_Facts_pack_62 : decode prog_6_method_11_code 62 = .ok (.aload_n 2, 1) := by decide +kernel
theorem d_Facts_pack_63 : decode prog_6_method_11_code 63 = .ok (.getfield 55, 3) := by decide +kernel
theorem d_Facts_pack_66 : decode prog_6_method_11_code 66 = .ok (.if_icmp .gt 40, 3) := by decide +kernel
theorem d_Facts_pack_69 : decode prog_6_method_11_code 69 = .ok (.aload_n 0, 1) := by decide +kernel
theorem d_Facts_pack_70 : decode prog_6_method_11_code 70 = .ok (.getfield 32, 3) := by decide +kernel
theorem d_Facts_pack_73 : decode prog_6_method_11_code 73 = .ok (.iload 6, 2) := by decide +kernel
theorem d_Facts_pack_75 : decode prog_6_method_11_code 75 = .ok (.iaload, 1) := by decide +kernel
theorem d_Facts_pack_76 : decode prog_6_method_11_code 76 = .ok (.aload_n 0, 1) := by decide +kernel
theorem d_Facts_pack_77 : decode prog_6_method_11_code 77 = .ok (.getfield 32, 3) := by decide +kernel
theorem d_Facts_pack_80 : decode prog_6_method_11_code 80 = .ok (.iload_n 3, 1) := by decide +kernel
theorem d_Facts_pack_81 : decode prog_6_method_11_code 81 = .ok (.iaload, 1) := by decide +kernel
theorem d_Facts_pack_82 : decode prog_6_method_11_code 82 = .ok (.isub, 1) := by decide +kernel
theorem d_Facts_pack_83 : decode prog_6_method_11_code 83 = .ok (.iconst 1, 1) := by decide +kernel
theorem d_Facts_pack_84 : decode prog_6_method_11_code 84 = .ok (.isub, 1) := by decide +kernel
theorem d_Facts_pack_85 : decode prog_6_method_11_code 85 = .ok (.i2l, 1) := by decide +kernel
theorem d_Facts_pack_86 : decode prog_6_method_11_code 86 = .ok (.lstore 7, 2) := by decide +kernel
theorem d_Facts_pack_88 : decode prog_6_method_11_code 88 = .ok (.lload 4, 2) := by decide +kernel
theorem d_Facts_pack_90 : decode prog_6_method_11_code 90 = .ok (.ldc2_w 106, 3) := by decide +kernel
theorem u_1477 : Cond.constantLong "FilterGuard$Facts" 106 (-4294901761) ∈ fg_g := fg_in (List.mem_of_getElem? (i := 1477) (by decide +kernel)) rfl
theorem d_Facts_pack_93 : decode prog_6_method_11_code 93 = .ok (.land, 1) := by decide +kernel
theorem d_Facts_pack_94 : decode prog_6_method_11_code 94 = .ok (.lload 7, 2) := by decide +kernel
theorem d_Facts_pack_96 : decode prog_6_method_11_code 96 = .ok (.ldc2_w 92, 3) := by decide +kernel
theorem d_Facts_pack_99 : decode prog_6_method_11_code 99 = .ok (.land, 1) := by decide +kernel
theorem d_Facts_pack_100 : decode prog_6_method_11_code 100 = .ok (.bipush 16, 2) := by decide +kernel
theorem d_Facts_pack_102 : decode prog_6_method_11_code 102 = .ok (.lshl, 1) := by decide +kernel
theorem d_Facts_pack_103 : decode prog_6_method_11_code 103 = .ok (.lor, 1) := by decide +kernel
theorem d_Facts_pack_104 : decode prog_6_method_11_code 104 = .ok (.lstore 4, 2) := by decide +kernel
theorem d_Facts_pack_0 : decode prog_6_method_11_code 0 = .ok (.iconst 0, 1) := by decide +kernel
theorem d_Facts_pack_1 : decode prog_6_method_11_code 1 = .ok (.istore_n 3, 1) := by decide +kernel
abbrev y_Facts_pack : MethodName := ⟨"FilterGuard$Facts", "pack", "(LFilterGuard$Code;LFilterGuard$Code;)V"⟩
def rm_Facts_pack : Room := { frames := 3, cells := 0, slots := 0, locals := 66 }
abbrev q_Facts_pack (D : va_G) (ad : Nat → Nat → Nat) (ca : Nat → ClassId) (N : Nat → Nat) (M0 MZ : me_M) (A : Nat → Prop) : Array Value → Jvm.State → Outcome → Jvm.State → Prop := va_Qv (fun (_ : Unit) => me_wf N MZ ∧ me_kp M0 MZ) (fg_B D A (fun _ => me_W ad ca MZ) (fun _ => [])) A
set_option maxHeartbeats 4000000 in
set_option maxRecDepth 100000 in
theorem c_Facts_pack (l : Launch) (D : va_G) (ad : Nat → Nat → Nat) (ca : Nat → ClassId) (N : Nat → Nat) (M0 MZ : me_M) (j0 : Nat) (j1 : Nat) (j2 : Nat) (h : f_Facts_pack M0 j0 j1 j2 = (some MZ)) (hwf : me_wf N M0) (hj0 : j0 < N 3) (hj1 : j1 < N 2) (hj2 : j2 < N 2) (sz : Nat) : Met l y_Facts_pack (fg_w y_Facts_pack prog_6_method_11_code 9 none) rm_Facts_pack (va_Pc [.ref (ad 3 j0), .ref (ad 2 j1), .ref (ad 2 j2)] (fz_P D (me_T ca) (me_W ad ca M0) sz)) (q_Facts_pack D ad ca N M0 MZ (va_A (me_W ad ca M0) sz)) rm_Facts_pack.cells rm_Facts_pack.slots (va_A (me_W ad ca M0) sz) := by
  refine fz_enter (fun A => q_Facts_pack D ad ca N M0 MZ A) (by decide +kernel) (Nat.le_of_ble_eq_true rfl) ?_
  intro p e s m below meth c ls A hx hb hml hown hts hr hlocks hin hP hK hD hS hA hX hl hz
  have hl : lv_has ls 9 [(0, .ref (ad 3 j0)), (1, .ref (ad 2 j1)), (2, .ref (ad 2 j2))] := hl
  unfold f_Facts_pack at h
  have hkp : me_kp M0 M0 := me_kp.rf
  have hkb := hkp
  have b_106 : ∀ (k2 : me_M → Int32 → Option me_M) (hk2 : ∀ (M : me_M) (y3 : Int32) (H : Heap) (locs : List Loc) (ls : Array Slot), k2 M y3 = (some MZ) → me_wf N M → me_kp M0 M → va_P D classes (me_W ad ca M) H → va_D A (me_W ad ca M) → va_S A s.heap H locs → lv_has ls 9 [(0, .ref (ad 3 j0)), (1, .ref (ad 2 j1)), (2, .ref (ad 2 j2)), (3, .int y3)] → W p l e rm_Facts_pack s m [.ref (ad 3 j0), .ref (ad 2 j1), .ref (ad 2 j2)].toArray below meth c H locs 0 0 (MQ below (q_Facts_pack D ad ca N M0 MZ A) [.ref (ad 3 j0), .ref (ad 2 j1), .ref (ad 2 j2)].toArray s rm_Facts_pack.cells rm_Facts_pack.slots A) (F0 m 2 ls [])), ∀ (M : me_M) (y3 : Int32) (y4 : Int64) (H : Heap) (locs : List Loc) (ls : Array Slot), f_Facts_pack_b106 k2 j0 j1 j2 M y3 y4 = (some MZ) → me_wf N M → me_kp M0 M → va_P D classes (me_W ad ca M) H → va_D A (me_W ad ca M) → va_S A s.heap H locs → lv_has ls 9 [(0, .ref (ad 3 j0)), (1, .ref (ad 2 j1)), (2, .ref (ad 2 j2)), (3, .int y3), (4, .long y4)] → W p l e rm_Facts_pack s m [.ref (ad 3 j0), .ref (ad 2 j1), .ref (ad 2 j2)].toArray below meth c H locs 0 0 (MQ below (q_Facts_pack D ad ca N M0 MZ A) [.ref (ad 3 j0), .ref (ad 2 j1), .ref (ad 2 j2)].toArray s rm_Facts_pack.cells rm_Facts_pack.slots A) (F0 m 106 ls []) := by
    intro k2 hk2 M y3 y4 H locs ls h hwf hkp hP hD hS hl
    unfold f_Facts_pack_b106 at h
    have hkb := hkp
    refine lv_aload_n hx hb d_Facts_pack_106 rfl (lv_at hl 0 rfl) ?_
    refine g_Facts_5 hx hb hts hown hK hP hwf hj0 (hts _ u_323) d_Facts_pack_107 ?_
    obtain ⟨j3, e4, h⟩ := bd_ob h
    have hj3 : j3 < N 15 := (hwf.2.1 3 j0 5 _ e4 (by decide) hj0)
    refine me_opt (j := j3) e4 ?_
    refine lv_iload_n hx hb d_Facts_pack_110 rfl (lv_at hl 3 rfl) ?_
    obtain ⟨g5, h⟩ := gd_ob h
    refine me_zald hx hb hK hP hwf hj3 g5 d_Facts_pack_111 ?_
    have z6 := hwf.2.2.2 15 j3 y3.toNatClampNeg rfl
    refine lv_if_eq (tgt := 128) hx hb d_Facts_pack_112 (by decide) (fun c7 => ?_) (fun c7 => ?_)
    · have h := if_t c7 h
      refine lv_iinc (v := y3 + 1) (lv' := [(3, .int (y3 + 1)), (0, .ref (ad 3 j0)), (1, .ref (ad 2 j1)), (2, .ref (ad 2 j2)), (4, .long y4)]) hx hb d_Facts_pack_128 hl (k := 3) rfl (by rfl) (by decide) rfl (fun ls hl => ?_)
      refine lv_goto (tgt := 2) hx hb d_Facts_pack_131 (by decide) ?_
      exact hk2 M (y3 + 1) _ _ _ h hwf hkp hP hD hS (lv_sub hl [1, 2, 3, 0] rfl)
    have h := if_f c7 h
    refine lv_aload_n hx hb d_Facts_pack_115 rfl (lv_at hl 1 rfl) ?_
    refine g_Code_0 hx hb hts hown hK hP hwf hj1 (hts _ u_221) d_Facts_pack_116 ?_
    obtain ⟨j8, e9, h⟩ := bd_ob h
    have hj8 : j8 < N 16 := (hwf.2.1 2 j1 0 _ e9 (by decide) hj1)
    refine me_opt (j := j8) e9 ?_
    refine lv_aload_n hx hb d_Facts_pack_119 rfl (lv_at hl 0 rfl) ?_
    refine g_Facts_6 hx hb hts hown hK hP hwf hj0 (hts _ u_324) d_Facts_pack_120 ?_
    obtain ⟨j10, e11, h⟩ := bd_ob h
    have hj10 : j10 < N 13 := (hwf.2.1 3 j0 6 _ e11 (by decide) hj0)
    refine me_opt (j := j10) e11 ?_
    refine lv_iload_n hx hb d_Facts_pack_123 rfl (lv_at hl 3 rfl) ?_
    obtain ⟨g12, h⟩ := gd_ob h
    refine me_iald hx hb hK hP hwf hj10 g12 d_Facts_pack_124 ?_
    refine lv_lload hx hb d_Facts_pack_125 (lv_at hl 4 rfl) ?_
    obtain ⟨g13, h⟩ := gd_ob h
    obtain ⟨M14, eM14, h⟩ := st_ob h
    refine me_last eM14 hx hb hK hP hD hwf hS hj8 g13 d_Facts_pack_127 (fun H locs hP hD hwf hS => ?_)
    have hkp := kp_L eM14 hkp
    refine lv_iinc (v := y3 + 1) (lv' := [(3, .int (y3 + 1)), (0, .ref (ad 3 j0)), (1, .ref (ad 2 j1)), (2, .ref (ad 2 j2)), (4, .long y4)]) hx hb d_Facts_pack_128 hl (k := 3) rfl (by rfl) (by decide) rfl (fun ls hl => ?_)
    refine lv_goto (tgt := 2) hx hb d_Facts_pack_131 (by decide) ?_
    exact hk2 M14 (y3 + 1) _ _ _ h hwf hkp hP hD hS (lv_sub hl [1, 2, 3, 0] rfl)
  have b_2 : ∀ (fu : Nat), ∀ (M : me_M) (y3 : Int32) (H : Heap) (locs : List Loc) (ls : Array Slot), f_Facts_pack_l2 j0 j1 j2 fu M y3 = (some MZ) → me_wf N M → me_kp M0 M → va_P D classes (me_W ad ca M) H → va_D A (me_W ad ca M) → va_S A s.heap H locs → lv_has ls 9 [(0, .ref (ad 3 j0)), (1, .ref (ad 2 j1)), (2, .ref (ad 2 j2)), (3, .int y3)] → W p l e rm_Facts_pack s m [.ref (ad 3 j0), .ref (ad 2 j1), .ref (ad 2 j2)].toArray below meth c H locs 0 0 (MQ below (q_Facts_pack D ad ca N M0 MZ A) [.ref (ad 3 j0), .ref (ad 2 j1), .ref (ad 2 j2)].toArray s rm_Facts_pack.cells rm_Facts_pack.slots A) (F0 m 2 ls []) := by
    intro fu
    induction fu with
    | zero =>
      intro M y3 H locs ls h hwf hkp hP hD hS hl
      cases h
    | succ fu ih =>
      intro M y3 H locs ls h hwf hkp hP hD hS hl
      unfold f_Facts_pack_l2 at h
      have hkb := hkp
      refine lv_iload_n hx hb d_Facts_pack_2 rfl (lv_at hl 3 rfl) ?_
      refine lv_aload_n hx hb d_Facts_pack_3 rfl (lv_at hl 2 rfl) ?_
      refine g_Code_3 hx hb hts hown hK hP hwf hj2 (hts _ u_228) d_Facts_pack_4 ?_
      refine lv_icmp_ge (tgt := 134) hx hb d_Facts_pack_7 (by decide) (fun c15 => ?_) (fun c15 => ?_)
      · have h := if_t c15 h
        refine lv_aload_n hx hb d_Facts_pack_134 rfl (lv_at hl 1 rfl) ?_
        refine lv_aload_n hx hb d_Facts_pack_135 rfl (lv_at hl 0 rfl) ?_
        refine g_Facts_6 hx hb hts hown hK hP hwf hj0 (hts _ u_324) d_Facts_pack_136 ?_
        obtain ⟨j16, e17, h⟩ := bd_ob h
        have hj16 : j16 < N 13 := (hwf.2.1 3 j0 6 _ e17 (by decide) hj0)
        refine me_opt (j := j16) e17 ?_
        refine lv_aload_n hx hb d_Facts_pack_139 rfl (lv_at hl 2 rfl) ?_
        refine g_Code_3 hx hb hts hown hK hP hwf hj2 (hts _ u_228) d_Facts_pack_140 ?_
        obtain ⟨g18, h⟩ := gd_ob h
        refine me_iald hx hb hK hP hwf hj16 g18 d_Facts_pack_143 ?_
        obtain ⟨M19, eM19, h⟩ := st_ob h
        refine p_Code_3 eM19 hx hb hts hown hK hP hD hwf hS hj1 (hts _ u_228) d_Facts_pack_144 (fun H locs hP hD hwf hS => ?_)
        have hkp := kp_I eM19 hkp
        exact me_retv (me_kp M0) h hx hb hr hlocks hwf hkp hP hK hD hS d_Facts_pack_147
      have h := if_f c15 h
      refine lv_aload_n hx hb d_Facts_pack_10 rfl (lv_at hl 1 rfl) ?_
      refine lv_iload_n hx hb d_Facts_pack_11 rfl (lv_at hl 3 rfl) ?_
      obtain ⟨M20, eM20, h⟩ := bd_ob h
      refine me_thenv0 (M1 := M20) (me_runV (C := "FilterGuard$Code") (As := [.int y3]) (rest := []) ⟨hx, hb, hml, hown, hts⟩ (c_Code_look l D ad ca N M M20 j1 y3 eM20 hwf hj1 _) rfl (by show fg_nm y_Code_look 1; decide +kernel) u_1455 u_958 u_959 u_182 u_960 ⟨Nat.le_of_ble_eq_true rfl, Nat.le_of_ble_eq_true rfl⟩ hX hz hK hP hD hwf hS hA hj1 (by decide) rfl rfl rfl hl.1 (Nat.le_of_ble_eq_true rfl) d_Facts_pack_12 ⟨Nat.le_of_ble_eq_true rfl, Nat.le_of_ble_eq_true rfl⟩) hP hD hK hS hA rfl rfl (fun H locs hw hP hD hS => ?_)
      obtain ⟨hwf, hk9⟩ := hw
      have hkp := hkp.tr hk9
      refine lv_aload_n hx hb d_Facts_pack_15 rfl (lv_at hl 1 rfl) ?_
      refine g_Code_0 hx hb hts hown hK hP hwf hj1 (hts _ u_221) d_Facts_pack_16 ?_
      obtain ⟨j21, e22, h⟩ := bd_ob h
      have hj21 : j21 < N 16 := (hwf.2.1 2 j1 0 _ (kp_r hkb hkp e22) (by decide) hj1)
      refine me_opt (j := j21) (kp_r hkb hkp e22) ?_
      refine lv_iload_n hx hb d_Facts_pack_19 rfl (lv_at hl 3 rfl) ?_
      obtain ⟨g23, h⟩ := gd_ob h
      refine me_lald hx hb hK hP hwf hj21 (kp_z hkb.z hkp.z g23) d_Facts_pack_20 ?_
      obtain ⟨v24, ev24, h⟩ := st_ob h
      refine fg_topl (y := v24) ev24.symm ?_
      refine lv_lstore (lv' := [(4, .long v24), (0, .ref (ad 3 j0)), (1, .ref (ad 2 j1)), (2, .ref (ad 2 j2)), (3, .int y3)]) hx hb d_Facts_pack_21 hl (by decide) rfl (fun ls hl => ?_)
      refine lv_aload_n hx hb d_Facts_pack_23 rfl (lv_at hl 2 rfl) ?_
      refine lv_iload_n hx hb d_Facts_pack_24 rfl (lv_at hl 4 rfl) ?_
      obtain ⟨M25, r26, eM25, h⟩ := b2_ob h
      refine me_theni0 (M1 := M25) (me_runV (C := "FilterGuard$Code") (As := [.int y3]) (rest := []) ⟨hx, hb, hml, hown, hts⟩ (c_Code_target l D ad ca N M20 M25 r26 j1 y3 eM25 hwf hj1 _) rfl (by show fg_nm y_Code_target 1; decide +kernel) u_1467 u_1005 u_1006 u_182 u_1007 ⟨Nat.le_of_ble_eq_true rfl, Nat.le_of_ble_eq_true rfl⟩ hX hz hK hP hD hwf hS hA hj1 (by decide) rfl rfl rfl hl.1 (Nat.le_of_ble_eq_true rfl) d_Facts_pack_25 ⟨Nat.le_of_ble_eq_true rfl, Nat.le_of_ble_eq_true rfl⟩) hP hD hK hS hA rfl rfl (fun H locs hw hP hD hS => ?_)
      obtain ⟨hwf, hk9⟩ := hw
      have hkp := hkp.tr hk9
      refine lv_istore (lv' := [(6, .int r26), (4, .long v24), (0, .ref (ad 3 j0)), (1, .ref (ad 2 j1)), (2, .ref (ad 2 j2)), (3, .int y3)]) hx hb d_Facts_pack_28 hl (by decide) rfl (fun ls hl => ?_)
      refine lv_aload_n hx hb d_Facts_pack_30 rfl (lv_at hl 2 rfl) ?_
      refine g_Facts_5 hx hb hts hown hK hP hwf hj0 (hts _ u_323) d_Facts_pack_31 ?_
      obtain ⟨j27, e28, h⟩ := bd_ob h
      have hj27 : j27 < N 15 := (hwf.2.1 3 j0 5 _ (kp_r hkb hkp e28) (by decide) hj0)
      refine me_opt (j := j27) (kp_r hkb hkp e28) ?_
      refine lv_iload_n hx hb d_Facts_pack_34 rfl (lv_at hl 5 rfl) ?_
      obtain ⟨g29, h⟩ := gd_ob h
      refine me_zald hx hb hK hP hwf hj27 (kp_z hkb.z hkp.z g29) d_Facts_pack_35 ?_
      have z30 := hwf.2.2.2 15 j27 y3.toNatClampNeg rfl
      refine lv_if_eq (tgt := 106) hx hb d_Facts_pack_36 (by decide) (fun c31 => ?_) (fun c31 => ?_)
      · have h := if_t c31 h
        exact b_106 _ ih M25 y3 v24 _ _ _ h hwf hkp hP hD hS (lv_sub hl [2, 3, 4, 5, 1] rfl)
      have h := if_f c31 h
      refine lv_aload_n hx hb d_Facts_pack_39 rfl (lv_at hl 4 rfl) ?_
      refine g_Code_1 hx hb hts hown hK hP hwf hj2 (hts _ u_224) d_Facts_pack_40 ?_
      obtain ⟨j32, e33, h⟩ := bd_ob h
      have hj32 : j32 < N 15 := (hwf.2.1 2 j2 1 _ (kp_r hkb hkp e33) (by decide) hj2)
      refine me_opt (j := j32) (kp_r hkb hkp e33) ?_
      refine lv_iload_n hx hb d_Facts_pack_43 rfl (lv_at hl 5 rfl) ?_
      obtain ⟨g34, h⟩ := gd_ob h
      refine me_zald hx hb hK hP hwf hj32 (kp_z hkb.z hkp.z g34) d_Facts_pack_44 ?_
      have z35 := hwf.2.2.2 15 j32 y3.toNatClampNeg rfl
      refine lv_if_ne (tgt := 106) hx hb d_Facts_pack_45 (by decide) (fun c36 => ?_) (fun c36 => ?_)
      · have h := if_f c36 h
        exact b_106 _ ih M25 y3 v24 _ _ _ h hwf hkp hP hD hS (lv_sub hl [2, 3, 4, 5, 1] rfl)
      have h := if_t c36 h
      refine lv_aload_n hx hb d_Facts_pack_48 rfl (lv_at hl 3 rfl) ?_
      obtain ⟨M37, r38, eM37, h⟩ := b2_ob h
      refine me_theni0 (M1 := M37) (me_runV (C := "FilterGuard$Code") (As := []) (rest := []) ⟨hx, hb, hml, hown, hts⟩ (c_Code_isJump l D ad ca N M25 M37 r38 j1 eM37 hwf hj1 _) rfl (by show fg_nm y_Code_isJump 0; decide +kernel) u_1476 u_1001 u_1002 u_182 u_1003 ⟨Nat.le_of_ble_eq_true rfl, Nat.le_of_ble_eq_true rfl⟩ hX hz hK hP hD hwf hS hA hj1 (by decide) rfl rfl rfl hl.1 (Nat.le_of_ble_eq_true rfl) d_Facts_pack_49 ⟨Nat.le_of_ble_eq_true rfl, Nat.le_of_ble_eq_true rfl⟩) hP hD hK hS hA rfl rfl (fun H locs hw hP hD hS => ?_)
      obtain ⟨hwf, hk9, zr38⟩ := hw
      have hkp := hkp.tr hk9
      refine lv_if_eq (tgt := 106) hx hb d_Facts_pack_52 (by decide) (fun c39 => ?_) (fun c39 => ?_)
      · have h := if_t c39 h
        exact b_106 _ ih M37 y3 v24 _ _ _ h hwf hkp hP hD hS (lv_sub hl [2, 3, 4, 5, 1] rfl)
      have h := if_f c39 h
      refine lv_iload hx hb d_Facts_pack_55 (lv_at hl 0 rfl) ?_
      refine lv_if_lt (tgt := 106) hx hb d_Facts_pack_57 (by decide) (fun c40 => ?_) (fun c40 => ?_)
      · have h := if_t c40 h
        exact b_106 _ ih M37 y3 v24 _ _ _ h hwf hkp hP hD hS (lv_sub hl [2, 3, 4, 5, 1] rfl)
      have h := if_f c40 h
      refine lv_iload hx hb d_Facts_pack_60 (lv_at hl 0 rfl) ?_
      refine lv_aload_n hx hb d_Facts_pack_62 rfl (lv_at hl 4 rfl) ?_
      refine g_Code_3 hx hb hts hown hK hP hwf hj2 (hts _ u_228) d_Facts_pack_63 ?_
      refine lv_icmp_gt (tgt := 106) hx hb d_Facts_pack_66 (by decide) (fun c41 => ?_) (fun c41 => ?_)
      · have h := if_t c41 h
        exact b_106 _ ih M37 y3 v24 _ _ _ h hwf hkp hP hD hS (lv_sub hl [2, 3, 4, 5, 1] rfl)
      have h := if_f c41 h
      refine lv_aload_n hx hb d_Facts_pack_69 rfl (lv_at hl 2 rfl) ?_
      refine g_Facts_6 hx hb hts hown hK hP hwf hj0 (hts _ u_324) d_Facts_pack_70 ?_
      obtain ⟨j42, e43, h⟩ := bd_ob h
      have hj42 : j42 < N 13 := (hwf.2.1 3 j0 6 _ (kp_r hkb hkp e43) (by decide) hj0)
      refine me_opt (j := j42) (kp_r hkb hkp e43) ?_
      refine lv_iload hx hb d_Facts_pack_73 (lv_at hl 0 rfl) ?_
      obtain ⟨g44, h⟩ := gd_ob h
      refine me_iald hx hb hK hP hwf hj42 (kp_z hkb.z hkp.z g44) d_Facts_pack_75 ?_
      refine lv_aload_n hx hb d_Facts_pack_76 rfl (lv_at hl 2 rfl) ?_
      refine g_Facts_6 hx hb hts hown hK hP hwf hj0 (hts _ u_324) d_Facts_pack_77 ?_
      refine me_opt (j := j42) (kp_r hkb hkp e43) ?_
      refine lv_iload_n hx hb d_Facts_pack_80 rfl (lv_at hl 5 rfl) ?_
      obtain ⟨g45, h⟩ := gd_ob h
      refine me_iald hx hb hK hP hwf hj42 (kp_z hkb.z hkp.z g45) d_Facts_pack_81 ?_
      refine lv_isub hx hb d_Facts_pack_82 ?_
      refine lv_iconst (v := 1) hx hb d_Facts_pack_83 (by decide) ?_
      refine lv_isub hx hb d_Facts_pack_84 ?_
      obtain ⟨v46, ev46, h⟩ := st_ob h
      refine fg_topi (y := v46) ev46.symm ?_
      refine lv_i2l (v := v46.toInt64) hx hb d_Facts_pack_85 rfl ?_
      obtain ⟨v47, ev47, h⟩ := st_ob h
      refine fg_topl (y := v47) ev47.symm ?_
      refine lv_lstore (lv' := [(7, .long v47), (6, .int r26), (4, .long v24), (0, .ref (ad 3 j0)), (1, .ref (ad 2 j1)), (2, .ref (ad 2 j2)), (3, .int y3)]) hx hb d_Facts_pack_86 hl (by decide) rfl (fun ls hl => ?_)
      refine lv_lload hx hb d_Facts_pack_88 (lv_at hl 2 rfl) ?_
      refine lv_ldc2 hx hb hown (hts _ u_1477) d_Facts_pack_90 ?_
      refine lv_land hx hb d_Facts_pack_93 ?_
      refine lv_lload hx hb d_Facts_pack_94 (lv_at hl 0 rfl) ?_
      refine lv_ldc2 hx hb hown (hts _ u_1461) d_Facts_pack_96 ?_
      refine lv_land hx hb d_Facts_pack_99 ?_
      refine lv_bipush (v := 16) hx hb d_Facts_pack_100 (by decide) ?_
      refine lv_lshl (v := jlshl (v47 &&& 65535) (16 : Int32)) hx hb d_Facts_pack_102 rfl ?_
      refine lv_lor hx hb d_Facts_pack_103 ?_
      obtain ⟨v48, ev48, h⟩ := st_ob h
      refine fg_topl (y := v48) ev48.symm ?_
      refine lv_lstore (lv' := [(4, .long v48), (7, .long v47), (6, .int r26), (0, .ref (ad 3 j0)), (1, .ref (ad 2 j1)), (2, .ref (ad 2 j2)), (3, .int y3)]) hx hb d_Facts_pack_104 hl (by decide) rfl (fun ls hl => ?_)
      exact b_106 _ ih M37 y3 v48 _ _ _ h hwf hkp hP hD hS (lv_sub hl [3, 4, 5, 6, 0] rfl)
  refine lv_iconst (v := 0) hx hb d_Facts_pack_0 (by decide) ?_
  refine lv_istore_n (lv' := [(3, .int 0), (0, .ref (ad 3 j0)), (1, .ref (ad 2 j1)), (2, .ref (ad 2 j2))]) hx hb d_Facts_pack_1 rfl hl (by decide) rfl (fun ls hl => ?_)
  exact b_2 _ M0 (0 : Int32) _ _ _ h hwf hkp hP hD hS (lv_sub hl [1, 2, 3, 0] rfl)
theorem d_Facts_shorten_78 : decode prog_6_method_7_code 78 = .ok (.bastore, 1) := by decide +kernel
theorem d_Facts_shorten_79 : decode prog_6_method_7_code 79 = .ok (.aload_n 2, 1) := by decide +kernel
theorem d_Facts_shorten_80 : decode prog_6_method_7_code 80 = .ok (.getfield 70, 3) := by decide +kernel
theorem d_Facts_shorten_83 : decode prog_6_method_7_code 83 = .ok (.iload_n 3, 1) := by decide +kernel
theorem d_Facts_shorten_84 : decode prog_6_method_7_code 84 = .ok (.aload_n 0, 1) := by decide +kernel
theorem d_Facts_shorten_85 : decode prog_6_method_7_code 85 = .ok (.aload_n 1, 1) := by decide +kernel
theorem d_Facts_shorten_86 : decode prog_6_method_7_code 86 = .ok (.iload_n 3, 1) := by decide +kernel
theorem d_Facts_shorten_87 : decode prog_6_method_7_code 87 = .ok (.invokevirtual 73, 3) := by decide +kernel
theorem u_1456 : Cond.methodLink "FilterGuard$Facts" 73 ⟨"FilterGuard$Facts", "changed", "(LFilterGuard$Code;I)J"⟩ ∈ fg_g := fg_in (List.mem_of_getElem? (i := 1456) (by decide +kernel)) rfl
theorem u_1459 : Cond.code ⟨"FilterGuard$Facts", "changed", "(LFilterGuard$Code;I)J"⟩ prog_6_method_8_code 5 (some .long) ∈ fg_g := fg_in (List.mem_of_getElem? (i := 1459) (by decide +kernel)) rfl
theorem u_1458 : Cond.instanceMethod ⟨"FilterGuard$Facts", "changed", "(LFilterGuard$Code;I)J"⟩ ∈ fg_g := fg_in (List.mem_of_getElem? (i := 1458) (by decide +kernel)) rfl
theorem u_57 : Cond.selects "FilterGuard$Facts" ⟨"FilterGuard$Facts", "changed", "(LFilterGuard$Code;I)J"⟩ ⟨"FilterGuard$Facts", "changed", "(LFilterGuard$Code;I)J"⟩ ∈ fg_g := fg_in (List.mem_of_getElem? (i := 57) (by decide +kernel)) rfl
theorem d_Facts_shorten_90 : decode prog_6_method_7_code 90 = .ok (.lastore, 1) := by decide +kernel
theorem d_Facts_shorten_91 : decode prog_6_method_7_code 91 = .ok (.goto 29, 3) := by decide +kernel
theorem d_Facts_shorten_120 : decode prog_6_method_7_code 120 = .ok (.iinc 3 1, 3) := by decide +kernel
theorem d_Facts_shorten_123 : decode prog_6_method_7_code 123 = .ok (.goto (-113), 3) := by decide +kernel
theorem d_Facts_shorten_77 : decode prog_6_method_7_code 77 = .ok (.iconst 0, 1) := by decide +kernel
theorem d_Facts_shorten_73 : decode prog_6_method_7_code 73 = .ok (.iconst 1, 1) := by decide +kernel
theorem d_Facts_shorten_74 : decode prog_6_method_7_code 74 = .ok (.goto 4, 3) := by decide +kernel
theorem d_Facts_shorten_10 : decode prog_6_method_7_code 10 = .ok (.iload_n 3, 1) := by decide +kernel
theorem d_Facts_shorten_11 : decode prog_6_method_7_code 11 = .ok (.aload_n 1, 1) := by decide +kernel
theorem d_Facts_shorten_12 : decode prog_6_method_7_code 12 = .ok (.getfield 55, 3) := by decide +kernel
theorem d_Facts_shorten_15 : decode prog_6_method_7_code 15 = .ok (.if_icmp .ge 111, 3) := by decide +kernel
theorem d_Facts_shorten_126 : decode prog_6_method_7_code 126 = .ok (.aload_n 0, 1) := by decide +kernel
theorem d_Facts_shorten_127 : decode prog_6_method_7_code 127 = .ok (.aload_n 2, 1) := by decide +kernel
theorem d_Facts_shorten_128 : decode prog_6_method_7_code 128 = .ok (.aload_n 1, 1) := by decide +kernel
theorem d_Facts_shorten_129 : decode prog_6_method_7_code 129 = .ok (.invokevirtual 77, 3) := by decide +kernel
theorem u_1463 : Cond.methodLink "FilterGuard$Facts" 77 ⟨"FilterGuard$Facts", "leaveOutJumps", "(LFilterGuard$Code;LFilterGuard$Code;)V"⟩ ∈ fg_g := fg_in (List.mem_of_getElem? (i := 1463) (by decide +kernel)) rfl
theorem u_1466 : Cond.code ⟨"FilterGuard$Facts", "leaveOutJumps", "(LFilterGuard$Code;LFilterGuard$Code;)V"⟩ prog_6_method_9_code 7 none ∈ fg_g := fg_in (List.mem_of_getElem? (i := 1466) (by decide +kernel)) rfl
theorem u_1465 : Cond.instanceMethod ⟨"FilterGuard$Facts", "leaveOutJumps", "(LFilterGuard$Code;LFilterGuard$Code;)V"⟩ ∈ fg_g := fg_in (List.mem_of_getElem? (i := 1465) (by decide +kernel)) rfl
theorem u_58 : Cond.selects "FilterGuard$Facts" ⟨"FilterGuard$Facts", "leaveOutJumps", "(LFilterGuard$Code;LFilterGuard$Code;)V"⟩ ⟨"FilterGuard$Facts", "leaveOutJumps", "(LFilterGuard$Code;LFilterGuard$Code;)V"⟩ ∈ fg_g := fg_in (List.mem_of_getElem? (i := 58) (by decide +kernel)) rfl
theorem d_Facts_shorten_132 : decode prog_6_method_7_code 132 = .ok (.aload_n 0, 1) := by decide +kernel
theorem d_Facts_shorten_133 : decode prog_6_method_7_code 133 = .ok (.aload_n 1, 1) := by decide +kernel
theorem d_Facts_shorten_134 : decode prog_6_method_7_code 134 = .ok (.getfield 55, 3) := by decide +kernel
theorem d_Facts_shorten_137 : decode prog_6_method_7_code 137 = .ok (.invokevirtual 81, 3) := by decide +kernel
theorem u_1468 : Cond.methodLink "FilterGuard$Facts" 81 ⟨"FilterGuard$Facts", "numberPlaces", "(I)V"⟩ ∈ fg_g := fg_in (List.mem_of_getElem? (i := 1468) (by decide +kernel)) rfl
theorem u_1471 : Cond.code ⟨"FilterGuard$Facts", "numberPlaces", "(I)V"⟩ prog_6_method_10_code 4 none ∈ fg_g := fg_in (List.mem_of_getElem? (i := 1471) (by decide +kernel)) rfl
theorem u_1470 : Cond.instanceMethod ⟨"FilterGuard$Facts", "numberPlaces", "(I)V"⟩ ∈ fg_g := fg_in (List.mem_of_getElem? (i := 1470) (by decide +kernel)) rfl
theorem u_59 : Cond.selects "FilterGuard$Facts" ⟨"FilterGuard$Facts", "numberPlaces", "(I)V"⟩ ⟨"FilterGuard$Facts", "numberPlaces", "(I)V"⟩ ∈ fg_g := fg_in (List.mem_of_getElem? (i := 59) (by decide +kernel)) rfl
theorem d_Facts_shorten_140 : decode prog_6_method_7_code 140 = .ok (.aload_n 0, 1) := by decide +kernel
theorem d_Facts_shorten_141 : decode prog_6_method_7_code 141 = .ok (.aload_n 2, 1) := by decide +kernel
theorem d_Facts_shorten_142 : decode prog_6_method_7_code 142 = .ok (.aload_n 1, 1) := by decide +kernel
theorem d_Facts_shorten_143 : decode prog_6_method_7_code 143 = .ok (.invokevirtual 84, 3) := by decide +kernel
theorem u_1472 : Cond.methodLink "FilterGuard$Facts" 84 ⟨"FilterGuard$Facts", "pack", "(LFilterGuard$Code;LFilterGuard$Code;)V"⟩ ∈ fg_g := fg_in (List.mem_of_getElem? (i := 1472) (by decide +kernel)) rfl
theorem u_1475 : Cond.code ⟨"FilterGuard$Facts", "pack", "(LFilterGuard$Code;LFilterGuard$Code;)V"⟩ prog_6_method_11_code 9 none ∈ fg_g := fg_in (List.mem_of_getElem? (i := 1475) (by decide +kernel)) rfl
theorem u_1474 : Cond.instanceMethod ⟨"FilterGuard$Facts", "pack", "(LFilterGuard$Code;LFilterGuard$Code;)V"⟩ ∈ fg_g := fg_in (List.mem_of_getElem? (i := 1474) (by decide +kernel)) rfl
theorem u_60 : Cond.selects "FilterGuard$Facts" ⟨"FilterGuard$Facts", "pack", "(LFilterGuard$Code;LFilterGuard$Code;)V"⟩ ⟨"FilterGuard$Facts", "pack", "(LFilterGuard$Code;LFilterGuard$Code;)V"⟩ ∈ fg_g := fg_in (List.mem_of_getElem? (i := 60) (by decide +kernel)) rfl
theorem d_Facts_shorten_146 : decode prog_6_method_7_code 146 = .ok (.return_, 1) := by decide +kernel
theorem d_Facts_shorten_18 : decode prog_6_method_7_code 18 = .ok (.aload_n 1, 1) := by decide +kernel
theorem d_Facts_shorten_19 : decode prog_6_method_7_code 19 = .ok (.getfield 60, 3) := by decide +kernel
theorem d_Facts_shorten_22 : decode prog_6_method_7_code 22 = .ok (.iload_n 3, 1) := by decide +kernel
theorem d_Facts_shorten_23 : decode prog_6_method_7_code 23 = .ok (.baload, 1) := by decide +kernel
theorem d_Facts_shorten_24 : decode prog_6_method_7_code 24 = .ok (.ifCond .ne 70, 3) := by decide +kernel
theorem d_Facts_shorten_94 : decode prog_6_method_7_code 94 = .ok (.aload_n 0, 1) := by decide +kernel
theorem d_Facts_shorten_95 : decode prog_6_method_7_code 95 = .ok (.getfield 29, 3) := by decide +kernel
theorem d_Facts_shorten_98 : decode prog_6_method_7_code 98 = .ok (.iload_n 3, 1) := by decide +kernel
theorem d_Facts_shorten_99 : decode prog_6_method_7_code 99 = .ok (.aload_n 0, 1) := by decide +kernel
theorem d_Facts_shorten_100 : decode prog_6_method_7_code 100 = .ok (.getfield 29, 3) := by decide +kernel
theorem d_Facts_shorten_103 : decode prog_6_method_7_code 103 = .ok (.iload_n 3, 1) := by decide +kernel
theorem d_Facts_shorten_104 : decode prog_6_method_7_code 104 = .ok (.iconst 1, 1) := by decide +kernel
theorem d_Facts_shorten_105 : decode prog_6_method_7_code 105 = .ok (.isub, 1) := by decide +kernel
theorem d_Facts_shorten_106 : decode prog_6_method_7_code 106 = .ok (.baload, 1) := by decide +kernel
theorem d_Facts_shorten_107 : decode prog_6_method_7_code 107 = .ok (.bastore, 1) := by decide +kernel
theorem d_Facts_shorten_108 : decode prog_6_method_7_code 108 = .ok (.aload_n 2, 1) := by decide +kernel
theorem d_Facts_shorten_109 : decode prog_6_method_7_code 109 = .ok (.getfield 70, 3) := by decide +kernel
theorem d_Facts_shorten_112 : decode prog_6_method_7_code 112 = .ok (.iload_n 3, 1) := by decide +kernel
theorem d_Facts_shorten_113 : decode prog_6_method_7_code 113 = .ok (.aload_n 1, 1) := by decide +kernel
theorem d_Facts_shorten_114 : decode prog_6_method_7_code 114 = .ok (.getfield 70, 3) := by decide +kernel
theorem d_Facts_shorten_117 : decode prog_6_method_7_code 117 = .ok (.iload_n 3, 1) := by decide +kernel
theorem d_Facts_shorten_118 : decode prog_6_method_7_code 118 = .ok (.laload, 1) := by decide +kernel
theorem d_Facts_shorten_119 : decode prog_6_method_7_code 119 = .ok (.lastore, 1) := by decide +kernel
theorem d_Facts_shorten_27 : decode prog_6_method_7_code 27 = .ok (.aload_n 1, 1) := by decide +kernel
theorem d_Facts_shorten_28 : decode prog_6_method_7_code 28 = .ok (.iload_n 3, 1) := by decide +kernel
theorem d_Facts_shorten_29 : decode prog_6_method_7_code 29 = .ok (.invokevirtual 63, 3) := by decide +kernel
theorem d_Facts_shorten_32 : decode prog_6_method_7_code 32 = .ok (.aload_n 0, 1) := by decide +kernel
theorem d_Facts_shorten_33 : decode prog_6_method_7_code 33 = .ok (.getfield 29, 3) := by decide +kernel
theorem d_Facts_shorten_36 : decode prog_6_method_7_code 36 = .ok (.iload_n 3, 1) := by decide +kernel
theorem d_Facts_shorten_37 : decode prog_6_method_7_code 37 = .ok (.aload_n 0, 1) := by decide +kernel
theorem d_Facts_shorten_38 : decode prog_6_method_7_code 38 = .ok (.getfield 9, 3) := by decide +kernel
theorem d_Facts_shorten_41 : decode prog_6_method_7_code 41 = .ok (.iload_n 3, 1) := by decide +kernel
theorem d_Facts_shorten_42 : decode prog_6_method_7_code 42 = .ok (.iaload, 1) := by decide +kernel
theorem d_Facts_shorten_43 : decode prog_6_method_7_code 43 = .ok (.ifCond .le 34, 3) := by decide +kernel
theorem d_Facts_shorten_46 : decode prog_6_method_7_code 46 = .ok (.aload_n 1, 1) := by decide +kernel
theorem d_Facts_shorten_47 : decode prog_6_method_7_code 47 = .ok (.getfield 67, 3) := by decide +kernel
theorem d_Facts_shorten_50 : decode prog_6_method_7_code 50 = .ok (.bipush 8, 2) := by decide +kernel
theorem d_Facts_shorten_52 : decode prog_6_method_7_code 52 = .ok (.if_icmp .ne 21, 3) := by decide +kernel
theorem d_Facts_shorten_55 : decode prog_6_method_7_code 55 = .ok (.aload_n 0, 1) := by decide +kernel
theorem d_Facts_shorten_56 : decode prog_6_method_7_code 56 = .ok (.getfield 19, 3) := by decide +kernel
theorem d_Facts_shorten_59 : decode prog_6_method_7_code 59 = .ok (.iload_n 3, 1) := by decide +kernel
theorem d_Facts_shorten_60 : decode prog_6_method_7_code 60 = .ok (.baload, 1) := by decide +kernel
theorem d_Facts_shorten_61 : decode prog_6_method_7_code 61 = .ok (.ifCond .eq 12, 3) := by decide +kernel
theorem d_Facts_shorten_64 : decode prog_6_method_7_code 64 = .ok (.aload_n 0, 1) := by decide +kernel
theorem d_Facts_shorten_65 : decode prog_6_method_7_code 65 = .ok (.getfield 15, 3) := by decide +kernel
theorem d_Facts_shorten_68 : decode prog_6_method_7_code 68 = .ok (.iload_n 3, 1) := by decide +kernel
theorem d_Facts_shorten_69 : decode prog_6_method_7_code 69 = .ok (.baload, 1) := by decide +kernel
theorem d_Facts_shorten_70 : decode prog_6_method_7_code 70 = .ok (.ifCond .eq 7, 3) := by decide +kernel
theorem d_Facts_shorten_0 : decode prog_6_method_7_code 0 = .ok (.aload_n 2, 1) := by decide +kernel
theorem d_Facts_shorten_1 : decode prog_6_method_7_code 1 = .ok (.aload_n 1, 1) := by decide +kernel
theorem d_Facts_shorten_2 : decode prog_6_method_7_code 2 = .ok (.getfield 55, 3) := by decide +kernel
theorem d_Facts_shorten_5 : decode prog_6_method_7_code 5 = .ok (.putfield 55, 3) := by decide +kernel
theorem d_Facts_shorten_8 : decode prog_6_method_7_code 8 = .ok (.iconst 0, 1) := by decide +kernel
theorem d_Facts_shorten_9 : decode prog_6_method_7_code 9 = .ok (.istore_n 3, 1) := by decide +kernel
abbrev y_Facts_shorten : MethodName := ⟨"FilterGuard$Facts", "shorten", "(LFilterGuard$Code;LFilterGuard$Code;)V"⟩
def rm_Facts_shorten : Room := { frames := 4, cells := 0, slots := 0, locals := 94 }
abbrev q_Facts_shorten (D : va_G) (ad : Nat → Nat → Nat) (ca : Nat → ClassId) (N : Nat → Nat) (M0 MZ : me_M) (A : Nat → Prop) : Array Value → Jvm.State → Outcome → Jvm.State → Prop := va_Qv (fun (_ : Unit) => me_wf N MZ ∧ me_kp M0 MZ) (fg_B D A (fun _ => me_W ad ca MZ) (fun _ => [])) A
set_option maxHeartbeats 4000000 in
set_option maxRecDepth 100000 in
theorem c_Facts_shorten (l : Launch) (D : va_G) (ad : Nat → Nat → Nat) (ca : Nat → ClassId) (N : Nat → Nat) (M0 MZ : me_M) (j0 : Nat) (j1 : Nat) (j2 : Nat) (h : f_Facts_shorten M0 j0 j1 j2 = (some MZ)) (hwf : me_wf N M0) (hj0 : j0 < N 3) (hj1 : j1 < N 2) (hj2 : j2 < N 2) (sz : Nat) : Met l y_Facts_shorten (fg_w y_Facts_shorten prog_6_method_7_code 4 none) rm_Facts_shorten (va_Pc [.ref (ad 3 j0), .ref (ad 2 j1), .ref (ad 2 j2)] (fz_P D (me_T ca) (me_W ad ca M0) sz)) (q_Facts_shorten D ad ca N M0 MZ (va_A (me_W ad ca M0) sz)) rm_Facts_shorten.cells rm_Facts_shorten.slots (va_A (me_W ad ca M0) sz) := by
  refine fz_enter (fun A => q_Facts_shorten D ad ca N M0 MZ A) (by decide +kernel) (Nat.le_of_ble_eq_true rfl) ?_
  intro p e s m below meth c ls A hx hb hml hown hts hr hlocks hin hP hK hD hS hA hX hl hz
  have hl : lv_has ls 4 [(0, .ref (ad 3 j0)), (1, .ref (ad 2 j1)), (2, .ref (ad 2 j2))] := hl
  unfold f_Facts_shorten at h
  have hkp : me_kp M0 M0 := me_kp.rf
  have hkb := hkp
  have b_78 : ∀ (k10 : me_M → Int32 → Option me_M) (hk10 : ∀ (M : me_M) (y3 : Int32) (H : Heap) (locs : List Loc) (ls : Array Slot), k10 M y3 = (some MZ) → me_wf N M → me_kp M0 M → va_P D classes (me_W ad ca M) H → va_D A (me_W ad ca M) → va_S A s.heap H locs → lv_has ls 4 [(0, .ref (ad 3 j0)), (1, .ref (ad 2 j1)), (2, .ref (ad 2 j2)), (3, .int y3)] → W p l e rm_Facts_shorten s m [.ref (ad 3 j0), .ref (ad 2 j1), .ref (ad 2 j2)].toArray below meth c H locs 0 0 (MQ below (q_Facts_shorten D ad ca N M0 MZ A) [.ref (ad 3 j0), .ref (ad 2 j1), .ref (ad 2 j2)].toArray s rm_Facts_shorten.cells rm_Facts_shorten.slots A) (F0 m 10 ls [])), ∀ (M : me_M) (y3 : Int32) (s0 : Int32) (s1 : Int32) (s2 : Nat) (H : Heap) (locs : List Loc) (ls : Array Slot), f_Facts_shorten_b78 k10 j0 j1 j2 M y3 s0 s1 s2 = (some MZ) → (s0 = 1 ∨ s0 = 0) → (s2 < N 15) → me_wf N M → me_kp M0 M → va_P D classes (me_W ad ca M) H → va_D A (me_W ad ca M) → va_S A s.heap H locs → lv_has ls 4 [(0, .ref (ad 3 j0)), (1, .ref (ad 2 j1)), (2, .ref (ad 2 j2)), (3, .int y3)] → W p l e rm_Facts_shorten s m [.ref (ad 3 j0), .ref (ad 2 j1), .ref (ad 2 j2)].toArray below meth c H locs 0 0 (MQ below (q_Facts_shorten D ad ca N M0 MZ A) [.ref (ad 3 j0), .ref (ad 2 j1), .ref (ad 2 j2)].toArray s rm_Facts_shorten.cells rm_Facts_shorten.slots A) (F0 m 78 ls [.int s0, .int s1, .ref (ad 15 s2)]) := by
    intro k10 hk10 M y3 s0 s1 s2 H locs ls h zs0 hs2 hwf hkp hP hD hS hl
    unfold f_Facts_shorten_b78 at h
    have hkb := hkp
    obtain ⟨g1, h⟩ := gd_ob h
    obtain ⟨M2, eM2, h⟩ := st_ob h
    refine me_zast eM2 hx hb hK hP hD hwf hS hs2 g1 d_Facts_shorten_78 (fun H locs hP hD hwf hS => ?_)
    have hkp := kp_I eM2 hkp
    refine lv_aload_n hx hb d_Facts_shorten_79 rfl (lv_at hl 2 rfl) ?_
    refine g_Code_0 hx hb hts hown hK hP hwf hj2 (hts _ u_221) d_Facts_shorten_80 ?_
    obtain ⟨j3, e4, h⟩ := bd_ob h
    have hj3 : j3 < N 16 := (hwf.2.1 2 j2 0 _ (kp_r hkb hkp e4) (by decide) hj2)
    refine me_opt (j := j3) (kp_r hkb hkp e4) ?_
    refine lv_iload_n hx hb d_Facts_shorten_83 rfl (lv_at hl 3 rfl) ?_
    refine lv_aload_n hx hb d_Facts_shorten_84 rfl (lv_at hl 0 rfl) ?_
    refine lv_aload_n hx hb d_Facts_shorten_85 rfl (lv_at hl 1 rfl) ?_
    refine lv_iload_n hx hb d_Facts_shorten_86 rfl (lv_at hl 3 rfl) ?_
    obtain ⟨M5, r6, eM5, h⟩ := b2_ob h
    refine me_thenl0 (M1 := M5) (me_runV (C := "FilterGuard$Facts") (As := [.ref (ad 2 j1), .int y3]) (rest := [.int y3, .ref (ad 16 j3)]) ⟨hx, hb, hml, hown, hts⟩ (c_Facts_changed l D ad ca N M2 M5 r6 j0 j1 y3 eM5 hwf hj0 hj1 _) rfl (by show fg_nm y_Facts_changed 2; decide +kernel) u_1456 u_1458 u_57 u_183 u_1459 ⟨Nat.le_of_ble_eq_true rfl, Nat.le_of_ble_eq_true rfl⟩ hX hz hK hP hD hwf hS hA hj0 (by decide) rfl rfl rfl hl.1 (Nat.le_of_ble_eq_true rfl) d_Facts_shorten_87 ⟨Nat.le_of_ble_eq_true rfl, Nat.le_of_ble_eq_true rfl⟩) hP hD hK hS hA rfl rfl (fun H locs hw hP hD hS => ?_)
    obtain ⟨hwf, hk9⟩ := hw
    have hkp := hkp.tr hk9
    obtain ⟨g7, h⟩ := gd_ob h
    obtain ⟨M8, eM8, h⟩ := st_ob h
    refine me_last eM8 hx hb hK hP hD hwf hS hj3 (kp_z hkb.z hkp.z g7) d_Facts_shorten_90 (fun H locs hP hD hwf hS => ?_)
    have hkp := kp_L eM8 hkp
    refine lv_goto (tgt := 120) hx hb d_Facts_shorten_91 (by decide) ?_
    refine lv_iinc (v := y3 + 1) (lv' := [(3, .int (y3 + 1)), (0, .ref (ad 3 j0)), (1, .ref (ad 2 j1)), (2, .ref (ad 2 j2))]) hx hb d_Facts_shorten_120 hl (k := 3) rfl (by rfl) (by decide) rfl (fun ls hl => ?_)
    refine lv_goto (tgt := 10) hx hb d_Facts_shorten_123 (by decide) ?_
    exact hk10 M8 (y3 + 1) _ _ _ h hwf hkp hP hD hS (lv_sub hl [1, 2, 3, 0] rfl)
  have b_77 : ∀ (k10 : me_M → Int32 → Option me_M) (hk10 : ∀ (M : me_M) (y3 : Int32) (H : Heap) (locs : List Loc) (ls : Array Slot), k10 M y3 = (some MZ) → me_wf N M → me_kp M0 M → va_P D classes (me_W ad ca M) H → va_D A (me_W ad ca M) → va_S A s.heap H locs → lv_has ls 4 [(0, .ref (ad 3 j0)), (1, .ref (ad 2 j1)), (2, .ref (ad 2 j2)), (3, .int y3)] → W p l e rm_Facts_shorten s m [.ref (ad 3 j0), .ref (ad 2 j1), .ref (ad 2 j2)].toArray below meth c H locs 0 0 (MQ below (q_Facts_shorten D ad ca N M0 MZ A) [.ref (ad 3 j0), .ref (ad 2 j1), .ref (ad 2 j2)].toArray s rm_Facts_shorten.cells rm_Facts_shorten.slots A) (F0 m 10 ls [])), ∀ (M : me_M) (y3 : Int32) (s0 : Int32) (s1 : Nat) (H : Heap) (locs : List Loc) (ls : Array Slot), f_Facts_shorten_b77 k10 j0 j1 j2 M y3 s0 s1 = (some MZ) → (s1 < N 15) → me_wf N M → me_kp M0 M → va_P D classes (me_W ad ca M) H → va_D A (me_W ad ca M) → va_S A s.heap H locs → lv_has ls 4 [(0, .ref (ad 3 j0)), (1, .ref (ad 2 j1)), (2, .ref (ad 2 j2)), (3, .int y3)] → W p l e rm_Facts_shorten s m [.ref (ad 3 j0), .ref (ad 2 j1), .ref (ad 2 j2)].toArray below meth c H locs 0 0 (MQ below (q_Facts_shorten D ad ca N M0 MZ A) [.ref (ad 3 j0), .ref (ad 2 j1), .ref (ad 2 j2)].toArray s rm_Facts_shorten.cells rm_Facts_shorten.slots A) (F0 m 77 ls [.int s0, .ref (ad 15 s1)]) := by
    intro k10 hk10 M y3 s0 s1 H locs ls h hs1 hwf hkp hP hD hS hl
    unfold f_Facts_shorten_b77 at h
    have hkb := hkp
    refine lv_iconst (v := 0) hx hb d_Facts_shorten_77 (by decide) ?_
    exact b_78 _ hk10 M y3 (0 : Int32) s0 s1 _ _ _ h (by decide) hs1 hwf hkp hP hD hS (lv_sub hl [0, 1, 2, 3] rfl)
  have b_73 : ∀ (k10 : me_M → Int32 → Option me_M) (hk10 : ∀ (M : me_M) (y3 : Int32) (H : Heap) (locs : List Loc) (ls : Array Slot), k10 M y3 = (some MZ) → me_wf N M → me_kp M0 M → va_P D classes (me_W ad ca M) H → va_D A (me_W ad ca M) → va_S A s.heap H locs → lv_has ls 4 [(0, .ref (ad 3 j0)), (1, .ref (ad 2 j1)), (2, .ref (ad 2 j2)), (3, .int y3)] → W p l e rm_Facts_shorten s m [.ref (ad 3 j0), .ref (ad 2 j1), .ref (ad 2 j2)].toArray below meth c H locs 0 0 (MQ below (q_Facts_shorten D ad ca N M0 MZ A) [.ref (ad 3 j0), .ref (ad 2 j1), .ref (ad 2 j2)].toArray s rm_Facts_shorten.cells rm_Facts_shorten.slots A) (F0 m 10 ls [])), ∀ (M : me_M) (y3 : Int32) (s0 : Int32) (s1 : Nat) (H : Heap) (locs : List Loc) (ls : Array Slot), f_Facts_shorten_b73 k10 j0 j1 j2 M y3 s0 s1 = (some MZ) → (s1 < N 15) → me_wf N M → me_kp M0 M → va_P D classes (me_W ad ca M) H → va_D A (me_W ad ca M) → va_S A s.heap H locs → lv_has ls 4 [(0, .ref (ad 3 j0)), (1, .ref (ad 2 j1)), (2, .ref (ad 2 j2)), (3, .int y3)] → W p l e rm_Facts_shorten s m [.ref (ad 3 j0), .ref (ad 2 j1), .ref (ad 2 j2)].toArray below meth c H locs 0 0 (MQ below (q_Facts_shorten D ad ca N M0 MZ A) [.ref (ad 3 j0), .ref (ad 2 j1), .ref (ad 2 j2)].toArray s rm_Facts_shorten.cells rm_Facts_shorten.slots A) (F0 m 73 ls [.int s0, .ref (ad 15 s1)]) := by
    intro k10 hk10 M y3 s0 s1 H locs ls h hs1 hwf hkp hP hD hS hl
    unfold f_Facts_shorten_b73 at h
    have hkb := hkp
    refine lv_iconst (v := 1) hx hb d_Facts_shorten_73 (by decide) ?_
    refine lv_goto (tgt := 78) hx hb d_Facts_shorten_74 (by decide) ?_
    exact b_78 _ hk10 M y3 (1 : Int32) s0 s1 _ _ _ h (by decide) hs1 hwf hkp hP hD hS (lv_sub hl [0, 1, 2, 3] rfl)
  have b_10 : ∀ (fu : Nat), ∀ (M : me_M) (y3 : Int32) (H : Heap) (locs : List Loc) (ls : Array Slot), f_Facts_shorten_l10 j0 j1 j2 fu M y3 = (some MZ) → me_wf N M → me_kp M0 M → va_P D classes (me_W ad ca M) H → va_D A (me_W ad ca M) → va_S A s.heap H locs → lv_has ls 4 [(0, .ref (ad 3 j0)), (1, .ref (ad 2 j1)), (2, .ref (ad 2 j2)), (3, .int y3)] → W p l e rm_Facts_shorten s m [.ref (ad 3 j0), .ref (ad 2 j1), .ref (ad 2 j2)].toArray below meth c H locs 0 0 (MQ below (q_Facts_shorten D ad ca N M0 MZ A) [.ref (ad 3 j0), .ref (ad 2 j1), .ref (ad 2 j2)].toArray s rm_Facts_shorten.cells rm_Facts_shorten.slots A) (F0 m 10 ls []) := by
    intro fu
    induction fu with
    | zero =>
      intro M y3 H locs ls h hwf hkp hP hD hS hl
      cases h
    | succ fu ih =>
      intro M y3 H locs ls h hwf hkp hP hD hS hl
      unfold f_Facts_shorten_l10 at h
      have hkb := hkp
      refine lv_iload_n hx hb d_Facts_shorten_10 rfl (lv_at hl 3 rfl) ?_
      refine lv_aload_n hx hb d_Facts_shorten_11 rfl (lv_at hl 1 rfl) ?_
      refine g_Code_3 hx hb hts hown hK hP hwf hj1 (hts _ u_228) d_Facts_shorten_12 ?_
      refine lv_icmp_ge (tgt := 126) hx hb d_Facts_shorten_15 (by decide) (fun c9 => ?_) (fun c9 => ?_)
      · have h := if_t c9 h
        refine lv_aload_n hx hb d_Facts_shorten_126 rfl (lv_at hl 0 rfl) ?_
        refine lv_aload_n hx hb d_Facts_shorten_127 rfl (lv_at hl 2 rfl) ?_
        refine lv_aload_n hx hb d_Facts_shorten_128 rfl (lv_at hl 1 rfl) ?_
        obtain ⟨M10, eM10, h⟩ := bd_ob h
        refine me_thenv0 (M1 := M10) (me_runV (C := "FilterGuard$Facts") (As := [.ref (ad 2 j2), .ref (ad 2 j1)]) (rest := []) ⟨hx, hb, hml, hown, hts⟩ (c_Facts_leaveOutJumps l D ad ca N M M10 j0 j2 j1 eM10 hwf hj0 hj2 hj1 _) rfl (by show fg_nm y_Facts_leaveOutJumps 2; decide +kernel) u_1463 u_1465 u_58 u_183 u_1466 ⟨Nat.le_of_ble_eq_true rfl, Nat.le_of_ble_eq_true rfl⟩ hX hz hK hP hD hwf hS hA hj0 (by decide) rfl rfl rfl hl.1 (Nat.le_of_ble_eq_true rfl) d_Facts_shorten_129 ⟨Nat.le_of_ble_eq_true rfl, Nat.le_of_ble_eq_true rfl⟩) hP hD hK hS hA rfl rfl (fun H locs hw hP hD hS => ?_)
        obtain ⟨hwf, hk9⟩ := hw
        have hkp := hkp.tr hk9
        refine lv_aload_n hx hb d_Facts_shorten_132 rfl (lv_at hl 0 rfl) ?_
        refine lv_aload_n hx hb d_Facts_shorten_133 rfl (lv_at hl 1 rfl) ?_
        refine g_Code_3 hx hb hts hown hK hP hwf hj1 (hts _ u_228) d_Facts_shorten_134 ?_
        obtain ⟨M11, eM11, h⟩ := bd_ob h
        refine me_thenv0 (M1 := M11) (me_runV (C := "FilterGuard$Facts") (As := [.int (mI M10 2 j1 3)]) (rest := []) ⟨hx, hb, hml, hown, hts⟩ (c_Facts_numberPlaces l D ad ca N M10 M11 j0 (mI M10 2 j1 3) eM11 hwf hj0 _) rfl (by show fg_nm y_Facts_numberPlaces 1; decide +kernel) u_1468 u_1470 u_59 u_183 u_1471 ⟨Nat.le_of_ble_eq_true rfl, Nat.le_of_ble_eq_true rfl⟩ hX hz hK hP hD hwf hS hA hj0 (by decide) rfl rfl rfl hl.1 (Nat.le_of_ble_eq_true rfl) d_Facts_shorten_137 ⟨Nat.le_of_ble_eq_true rfl, Nat.le_of_ble_eq_true rfl⟩) hP hD hK hS hA rfl rfl (fun H locs hw hP hD hS => ?_)
        obtain ⟨hwf, hk9⟩ := hw
        have hkp := hkp.tr hk9
        refine lv_aload_n hx hb d_Facts_shorten_140 rfl (lv_at hl 0 rfl) ?_
        refine lv_aload_n hx hb d_Facts_shorten_141 rfl (lv_at hl 2 rfl) ?_
        refine lv_aload_n hx hb d_Facts_shorten_142 rfl (lv_at hl 1 rfl) ?_
        obtain ⟨M12, eM12, h⟩ := bd_ob h
        refine me_thenv0 (M1 := M12) (me_runV (C := "FilterGuard$Facts") (As := [.ref (ad 2 j2), .ref (ad 2 j1)]) (rest := []) ⟨hx, hb, hml, hown, hts⟩ (c_Facts_pack l D ad ca N M11 M12 j0 j2 j1 eM12 hwf hj0 hj2 hj1 _) rfl (by show fg_nm y_Facts_pack 2; decide +kernel) u_1472 u_1474 u_60 u_183 u_1475 ⟨Nat.le_of_ble_eq_true rfl, Nat.le_of_ble_eq_true rfl⟩ hX hz hK hP hD hwf hS hA hj0 (by decide) rfl rfl rfl hl.1 (Nat.le_of_ble_eq_true rfl) d_Facts_shorten_143 ⟨Nat.le_of_ble_eq_true rfl, Nat.le_of_ble_eq_true rfl⟩) hP hD hK hS hA rfl rfl (fun H locs hw hP hD hS => ?_)
        obtain ⟨hwf, hk9⟩ := hw
        have hkp := hkp.tr hk9
        exact me_retv (me_kp M0) h hx hb hr hlocks hwf hkp hP hK hD hS d_Facts_shorten_146
      have h := if_f c9 h
      refine lv_aload_n hx hb d_Facts_shorten_18 rfl (lv_at hl 1 rfl) ?_
      refine g_Code_1 hx hb hts hown hK hP hwf hj1 (hts _ u_224) d_Facts_shorten_19 ?_
      obtain ⟨j13, e14, h⟩ := bd_ob h
      have hj13 : j13 < N 15 := (hwf.2.1 2 j1 1 _ e14 (by decide) hj1)
      refine me_opt (j := j13) e14 ?_
      refine lv_iload_n hx hb d_Facts_shorten_22 rfl (lv_at hl 3 rfl) ?_
      obtain ⟨g15, h⟩ := gd_ob h
      refine me_zald hx hb hK hP hwf hj13 g15 d_Facts_shorten_23 ?_
      have z16 := hwf.2.2.2 15 j13 y3.toNatClampNeg rfl
      refine lv_if_ne (tgt := 94) hx hb d_Facts_shorten_24 (by decide) (fun c17 => ?_) (fun c17 => ?_)
      · have h := if_f c17 h
        refine lv_aload_n hx hb d_Facts_shorten_94 rfl (lv_at hl 0 rfl) ?_
        refine g_Facts_5 hx hb hts hown hK hP hwf hj0 (hts _ u_323) d_Facts_shorten_95 ?_
        obtain ⟨j18, e19, h⟩ := bd_ob h
        have hj18 : j18 < N 15 := (hwf.2.1 3 j0 5 _ e19 (by decide) hj0)
        refine me_opt (j := j18) e19 ?_
        refine lv_iload_n hx hb d_Facts_shorten_98 rfl (lv_at hl 3 rfl) ?_
        refine lv_aload_n hx hb d_Facts_shorten_99 rfl (lv_at hl 0 rfl) ?_
        refine g_Facts_5 hx hb hts hown hK hP hwf hj0 (hts _ u_323) d_Facts_shorten_100 ?_
        refine me_opt (j := j18) e19 ?_
        refine lv_iload_n hx hb d_Facts_shorten_103 rfl (lv_at hl 3 rfl) ?_
        refine lv_iconst (v := 1) hx hb d_Facts_shorten_104 (by decide) ?_
        refine lv_isub hx hb d_Facts_shorten_105 ?_
        obtain ⟨g20, h⟩ := gd_ob h
        refine me_zald hx hb hK hP hwf hj18 g20 d_Facts_shorten_106 ?_
        have z21 := hwf.2.2.2 15 j18 ((y3 - 1).toNatClampNeg) rfl
        obtain ⟨g22, h⟩ := gd_ob h
        obtain ⟨M23, eM23, h⟩ := st_ob h
        refine me_zast eM23 hx hb hK hP hD hwf hS hj18 g22 d_Facts_shorten_107 (fun H locs hP hD hwf hS => ?_)
        have hkp := kp_I eM23 hkp
        refine lv_aload_n hx hb d_Facts_shorten_108 rfl (lv_at hl 2 rfl) ?_
        refine g_Code_0 hx hb hts hown hK hP hwf hj2 (hts _ u_221) d_Facts_shorten_109 ?_
        obtain ⟨j24, e25, h⟩ := bd_ob h
        have hj24 : j24 < N 16 := (hwf.2.1 2 j2 0 _ (kp_r hkb hkp e25) (by decide) hj2)
        refine me_opt (j := j24) (kp_r hkb hkp e25) ?_
        refine lv_iload_n hx hb d_Facts_shorten_112 rfl (lv_at hl 3 rfl) ?_
        refine lv_aload_n hx hb d_Facts_shorten_113 rfl (lv_at hl 1 rfl) ?_
        refine g_Code_0 hx hb hts hown hK hP hwf hj1 (hts _ u_221) d_Facts_shorten_114 ?_
        obtain ⟨j26, e27, h⟩ := bd_ob h
        have hj26 : j26 < N 16 := (hwf.2.1 2 j1 0 _ (kp_r hkb hkp e27) (by decide) hj1)
        refine me_opt (j := j26) (kp_r hkb hkp e27) ?_
        refine lv_iload_n hx hb d_Facts_shorten_117 rfl (lv_at hl 3 rfl) ?_
        obtain ⟨g28, h⟩ := gd_ob h
        refine me_lald hx hb hK hP hwf hj26 (kp_z hkb.z hkp.z g28) d_Facts_shorten_118 ?_
        obtain ⟨g29, h⟩ := gd_ob h
        obtain ⟨M30, eM30, h⟩ := st_ob h
        refine me_last eM30 hx hb hK hP hD hwf hS hj24 (kp_z hkb.z hkp.z g29) d_Facts_shorten_119 (fun H locs hP hD hwf hS => ?_)
        have hkp := kp_L eM30 hkp
        refine lv_iinc (v := y3 + 1) (lv' := [(3, .int (y3 + 1)), (0, .ref (ad 3 j0)), (1, .ref (ad 2 j1)), (2, .ref (ad 2 j2))]) hx hb d_Facts_shorten_120 hl (k := 3) rfl (by rfl) (by decide) rfl (fun ls hl => ?_)
        refine lv_goto (tgt := 10) hx hb d_Facts_shorten_123 (by decide) ?_
        exact ih M30 (y3 + 1) _ _ _ h hwf hkp hP hD hS (lv_sub hl [1, 2, 3, 0] rfl)
      have h := if_t c17 h
      refine lv_aload_n hx hb d_Facts_shorten_27 rfl (lv_at hl 1 rfl) ?_
      refine lv_iload_n hx hb d_Facts_shorten_28 rfl (lv_at hl 3 rfl) ?_
      obtain ⟨M31, eM31, h⟩ := bd_ob h
      refine me_thenv0 (M1 := M31) (me_runV (C := "FilterGuard$Code") (As := [.int y3]) (rest := []) ⟨hx, hb, hml, hown, hts⟩ (c_Code_look l D ad ca N M M31 j1 y3 eM31 hwf hj1 _) rfl (by show fg_nm y_Code_look 1; decide +kernel) u_1455 u_958 u_959 u_182 u_960 ⟨Nat.le_of_ble_eq_true rfl, Nat.le_of_ble_eq_true rfl⟩ hX hz hK hP hD hwf hS hA hj1 (by decide) rfl rfl rfl hl.1 (Nat.le_of_ble_eq_true rfl) d_Facts_shorten_29 ⟨Nat.le_of_ble_eq_true rfl, Nat.le_of_ble_eq_true rfl⟩) hP hD hK hS hA rfl rfl (fun H locs hw hP hD hS => ?_)
      obtain ⟨hwf, hk9⟩ := hw
      have hkp := hkp.tr hk9
      refine lv_aload_n hx hb d_Facts_shorten_32 rfl (lv_at hl 0 rfl) ?_
      refine g_Facts_5 hx hb hts hown hK hP hwf hj0 (hts _ u_323) d_Facts_shorten_33 ?_
      obtain ⟨j32, e33, h⟩ := bd_ob h
      have hj32 : j32 < N 15 := (hwf.2.1 3 j0 5 _ (kp_r hkb hkp e33) (by decide) hj0)
      refine me_opt (j := j32) (kp_r hkb hkp e33) ?_
      refine lv_iload_n hx hb d_Facts_shorten_36 rfl (lv_at hl 3 rfl) ?_
      refine lv_aload_n hx hb d_Facts_shorten_37 rfl (lv_at hl 0 rfl) ?_
      refine g_Facts_0 hx hb hts hown hK hP hwf hj0 (hts _ u_318) d_Facts_shorten_38 ?_
      obtain ⟨j34, e35, h⟩ := bd_ob h
      have hj34 : j34 < N 13 := (hwf.2.1 3 j0 0 _ (kp_r hkb hkp e35) (by decide) hj0)
      refine me_opt (j := j34) (kp_r hkb hkp e35) ?_
      refine lv_iload_n hx hb d_Facts_shorten_41 rfl (lv_at hl 3 rfl) ?_
      obtain ⟨g36, h⟩ := gd_ob h
      refine me_iald hx hb hK hP hwf hj34 (kp_z hkb.z hkp.z g36) d_Facts_shorten_42 ?_
      refine lv_if_le (tgt := 77) hx hb d_Facts_shorten_43 (by decide) (fun c37 => ?_) (fun c37 => ?_)
      · have h := if_t c37 h
        exact b_77 _ ih M31 y3 y3 j32 _ _ _ h hj32 hwf hkp hP hD hS (lv_sub hl [0, 1, 2, 3] rfl)
      have h := if_f c37 h
      refine lv_aload_n hx hb d_Facts_shorten_46 rfl (lv_at hl 1 rfl) ?_
      refine g_Code_10 hx hb hts hown hK hP hwf hj1 (hts _ u_255) d_Facts_shorten_47 ?_
      refine lv_bipush (v := 8) hx hb d_Facts_shorten_50 (by decide) ?_
      refine lv_icmp_ne (tgt := 73) hx hb d_Facts_shorten_52 (by decide) (fun c38 => ?_) (fun c38 => ?_)
      · have h := if_f c38 h
        exact b_73 _ ih M31 y3 y3 j32 _ _ _ h hj32 hwf hkp hP hD hS (lv_sub hl [0, 1, 2, 3] rfl)
      have h := if_t c38 h
      refine lv_aload_n hx hb d_Facts_shorten_55 rfl (lv_at hl 0 rfl) ?_
      refine g_Facts_2 hx hb hts hown hK hP hwf hj0 (hts _ u_320) d_Facts_shorten_56 ?_
      obtain ⟨j39, e40, h⟩ := bd_ob h
      have hj39 : j39 < N 15 := (hwf.2.1 3 j0 2 _ (kp_r hkb hkp e40) (by decide) hj0)
      refine me_opt (j := j39) (kp_r hkb hkp e40) ?_
      refine lv_iload_n hx hb d_Facts_shorten_59 rfl (lv_at hl 3 rfl) ?_
      obtain ⟨g41, h⟩ := gd_ob h
      refine me_zald hx hb hK hP hwf hj39 (kp_z hkb.z hkp.z g41) d_Facts_shorten_60 ?_
      have z42 := hwf.2.2.2 15 j39 y3.toNatClampNeg rfl
      refine lv_if_eq (tgt := 73) hx hb d_Facts_shorten_61 (by decide) (fun c43 => ?_) (fun c43 => ?_)
      · have h := if_t c43 h
        exact b_73 _ ih M31 y3 y3 j32 _ _ _ h hj32 hwf hkp hP hD hS (lv_sub hl [0, 1, 2, 3] rfl)
      have h := if_f c43 h
      refine lv_aload_n hx hb d_Facts_shorten_64 rfl (lv_at hl 0 rfl) ?_
      refine g_Facts_1 hx hb hts hown hK hP hwf hj0 (hts _ u_319) d_Facts_shorten_65 ?_
      obtain ⟨j44, e45, h⟩ := bd_ob h
      have hj44 : j44 < N 15 := (hwf.2.1 3 j0 1 _ (kp_r hkb hkp e45) (by decide) hj0)
      refine me_opt (j := j44) (kp_r hkb hkp e45) ?_
      refine lv_iload_n hx hb d_Facts_shorten_68 rfl (lv_at hl 3 rfl) ?_
      obtain ⟨g46, h⟩ := gd_ob h
      refine me_zald hx hb hK hP hwf hj44 (kp_z hkb.z hkp.z g46) d_Facts_shorten_69 ?_
      have z47 := hwf.2.2.2 15 j44 y3.toNatClampNeg rfl
      refine lv_if_eq (tgt := 77) hx hb d_Facts_shorten_70 (by decide) (fun c48 => ?_) (fun c48 => ?_)
      · have h := if_t c48 h
        exact b_77 _ ih M31 y3 y3 j32 _ _ _ h hj32 hwf hkp hP hD hS (lv_sub hl [0, 1, 2, 3] rfl)
      have h := if_f c48 h
      exact b_73 _ ih M31 y3 y3 j32 _ _ _ h hj32 hwf hkp hP hD hS (lv_sub hl [0, 1, 2, 3] rfl)
  refine lv_aload_n hx hb d_Facts_shorten_0 rfl (lv_at hl 2 rfl) ?_
  refine lv_aload_n hx hb d_Facts_shorten_1 rfl (lv_at hl 1 rfl) ?_
  refine g_Code_3 hx hb hts hown hK hP hwf hj1 (hts _ u_228) d_Facts_shorten_2 ?_
  obtain ⟨M49, eM49, h⟩ := st_ob h
  refine p_Code_3 eM49 hx hb hts hown hK hP hD hwf hS hj2 (hts _ u_228) d_Facts_shorten_5 (fun H locs hP hD hwf hS => ?_)
  have hkp := kp_I eM49 hkp
  refine lv_iconst (v := 0) hx hb d_Facts_shorten_8 (by decide) ?_
  refine lv_istore_n (lv' := [(3, .int 0), (0, .ref (ad 3 j0)), (1, .ref (ad 2 j1)), (2, .ref (ad 2 j2))]) hx hb d_Facts_shorten_9 rfl hl (by decide) rfl (fun ls hl => ?_)
  exact b_10 _ M49 (0 : Int32) _ _ _ h hwf hkp hP hD hS (lv_sub hl [1, 2, 3, 0] rfl)
