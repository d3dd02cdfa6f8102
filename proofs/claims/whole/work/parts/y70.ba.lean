theorem d_Explorer_takeLatest_12 : decode prog_5_method_11_code 12 = .ok (.iload_n 1, 1) := by decide +kernel
theorem d_Explorer_takeLatest_13 : decode prog_5_method_11_code 13 = .ok (.aload_n 0, 1) := by decide +kernel
theorem d_Explorer_takeLatest_14 : decode prog_5_method_11_code 14 = .ok (.getfield 53, 3) := by decide +kernel
theorem d_Explorer_takeLatest_17 : decode prog_5_method_11_code 17 = .ok (.if_icmp .ge 35, 3) := by decide +kernel
theorem d_Explorer_takeLatest_52 : decode prog_5_method_11_code 52 = .ok (.aload_n 0, 1) := by decide +kernel
theorem d_Explorer_takeLatest_53 : decode prog_5_method_11_code 53 = .ok (.getfield 49, 3) := by decide +kernel
theorem d_Explorer_takeLatest_56 : decode prog_5_method_11_code 56 = .ok (.ifCond .ne 5, 3) := by decide +kernel
theorem d_Explorer_takeLatest_61 : decode prog_5_method_11_code 61 = .ok (.aload_n 0, 1) := by decide +kernel
theorem d_Explorer_takeLatest_62 : decode prog_5_method_11_code 62 = .ok (.dup, 1) := by decide +kernel
theorem d_Explorer_takeLatest_63 : decode prog_5_method_11_code 63 = .ok (.getfield 49, 3) := by decide +kernel
theorem d_Explorer_takeLatest_66 : decode prog_5_method_11_code 66 = .ok (.iconst 1, 1) := by decide +kernel
theorem d_Explorer_takeLatest_67 : decode prog_5_method_11_code 67 = .ok (.isub, 1) := by decide +kernel
theorem d_Explorer_takeLatest_68 : decode prog_5_method_11_code 68 = .ok (.putfield 49, 3) := by decide +kernel
theorem d_Explorer_takeLatest_71 : decode prog_5_method_11_code 71 = .ok (.aload_n 0, 1) := by decide +kernel
theorem d_Explorer_takeLatest_72 : decode prog_5_method_11_code 72 = .ok (.getfield 17, 3) := by decide +kernel
theorem d_Explorer_takeLatest_75 : decode prog_5_method_11_code 75 = .ok (.aload_n 0, 1) := by decide +kernel
theorem d_Explorer_takeLatest_76 : decode prog_5_method_11_code 76 = .ok (.getfield 49, 3) := by decide +kernel
theorem d_Explorer_takeLatest_79 : decode prog_5_method_11_code 79 = .ok (.aaload, 1) := by decide +kernel
theorem d_Explorer_takeLatest_80 : decode prog_5_method_11_code 80 = .ok (.astore_n 1, 1) := by decide +kernel
theorem d_Explorer_takeLatest_81 : decode prog_5_method_11_code 81 = .ok (.aload_n 0, 1) := by decide +kernel
theorem d_Explorer_takeLatest_82 : decode prog_5_method_11_code 82 = .ok (.getfield 17, 3) := by decide +kernel
theorem d_Explorer_takeLatest_85 : decode prog_5_method_11_code 85 = .ok (.aload_n 0, 1) := by decide +kernel
theorem d_Explorer_takeLatest_86 : decode prog_5_method_11_code 86 = .ok (.getfield 49, 3) := by decide +kernel
theorem d_Explorer_takeLatest_89 : decode prog_5_method_11_code 89 = .ok (.aload_n 0, 1) := by decide +kernel
theorem d_Explorer_takeLatest_90 : decode prog_5_method_11_code 90 = .ok (.getfield 45, 3) := by decide +kernel
theorem d_Explorer_takeLatest_93 : decode prog_5_method_11_code 93 = .ok (.aastore, 1) := by decide +kernel
theorem d_Explorer_takeLatest_94 : decode prog_5_method_11_code 94 = .ok (.aload_n 0, 1) := by decide +kernel
theorem d_Explorer_takeLatest_95 : decode prog_5_method_11_code 95 = .ok (.aload_n 1, 1) := by decide +kernel
theorem d_Explorer_takeLatest_96 : decode prog_5_method_11_code 96 = .ok (.putfield 45, 3) := by decide +kernel
theorem d_Explorer_takeLatest_99 : decode prog_5_method_11_code 99 = .ok (.iconst 1, 1) := by decide +kernel
theorem d_Explorer_takeLatest_100 : decode prog_5_method_11_code 100 = .ok (.ireturn, 1) := by decide +kernel
theorem d_Explorer_takeLatest_59 : decode prog_5_method_11_code 59 = .ok (.iconst 0, 1) := by decide +kernel
theorem d_Explorer_takeLatest_60 : decode prog_5_method_11_code 60 = .ok (.ireturn, 1) := by decide +kernel
theorem d_Explorer_takeLatest_20 : decode prog_5_method_11_code 20 = .ok (.aload_n 0, 1) := by decide +kernel
theorem d_Explorer_takeLatest_21 : decode prog_5_method_11_code 21 = .ok (.getfield 11, 3) := by decide +kernel
theorem d_Explorer_takeLatest_24 : decode prog_5_method_11_code 24 = .ok (.iload_n 1, 1) := by decide +kernel
theorem d_Explorer_takeLatest_25 : decode prog_5_method_11_code 25 = .ok (.aaload, 1) := by decide +kernel
theorem d_Explorer_takeLatest_26 : decode prog_5_method_11_code 26 = .ok (.getfield 121, 3) := by decide +kernel
theorem g_State_3 {p : Program} {l : Launch} {e : Env} {R : Room} {s : Jvm.State} {m : MethodId} {args : Array Value} {below : List Frame} {meth : Method} {c : Code} {H : Heap} {locs : List Loc} {cells slots : Nat} {Q : Jvm.State → Prop} {cc : ByteArray} {pc : Nat} {ls : Array Slot} {rest : List Value} {D : va_G} {ad : Nat → Nat → Nat} {ca : Nat → ClassId} {M : me_M} {N : Nat → Nat} {own : String} {index j : Nat} (hexec : p.tables.exec = Jvm.exec) (hb : c.code = cc) (hts : ∀ w ∈ fg_g, w.before args s = true) (hown : s.vm.findClass own = some m.cls) (hK : va_K D classes (me_T ca) s) (hP : va_P D classes (me_W ad ca M) H) (hwf : me_wf N M) (hj : j < N 9) (hlink : (Cond.fieldLink own index "FilterGuard$State" "waitingThen" "I").before args s = true) (hdg : decode cc pc = .ok (.getfield index, 3)) (kk : W p l e R s m args below meth c H locs cells slots Q (F0 m (pc + 3) ls (.int (mI M 9 j 3) :: rest))) : W p l e R s m args below meth c H locs cells slots Q (F0 m pc ls (.ref (ad 9 j) :: rest)) := me_get (k := 9) (f := 3) (C := "FilterGuard$State") (T := F_State) (Nf := 5) hexec hb hts i_State hown hK hP hwf hj (by decide) rfl (by decide) (by decide) hlink (fun _ h9 => h9) hdg kk
theorem d_Explorer_takeLatest_29 : decode prog_5_method_11_code 29 = .ok (.aload_n 0, 1) := by decide +kernel
theorem d_Explorer_takeLatest_30 : decode prog_5_method_11_code 30 = .ok (.getfield 49, 3) := by decide +kernel
theorem d_Explorer_takeLatest_33 : decode prog_5_method_11_code 33 = .ok (.if_icmp .lt 13, 3) := by decide +kernel
theorem d_Explorer_takeLatest_46 : decode prog_5_method_11_code 46 = .ok (.iinc 1 1, 3) := by decide +kernel
theorem d_Explorer_takeLatest_49 : decode prog_5_method_11_code 49 = .ok (.goto (-37), 3) := by decide +kernel
theorem d_Explorer_takeLatest_36 : decode prog_5_method_11_code 36 = .ok (.aload_n 0, 1) := by decide +kernel
theorem d_Explorer_takeLatest_37 : decode prog_5_method_11_code 37 = .ok (.getfield 11, 3) := by decide +kernel
theorem d_Explorer_takeLatest_40 : decode prog_5_method_11_code 40 = .ok (.iload_n 1, 1) := by decide +kernel
theorem d_Explorer_takeLatest_41 : decode prog_5_method_11_code 41 = .ok (.aaload, 1) := by decide +kernel
theorem d_Explorer_takeLatest_42 : decode prog_5_method_11_code 42 = .ok (.iconst 0, 1) := by decide +kernel
theorem d_Explorer_takeLatest_43 : decode prog_5_method_11_code 43 = .ok (.putfield 114, 3) := by decide +kernel
theorem d_Explorer_takeLatest_0 : decode prog_5_method_11_code 0 = .ok (.aload_n 0, 1) := by decide +kernel
theorem d_Explorer_takeLatest_1 : decode prog_5_method_11_code 1 = .ok (.dup, 1) := by decide +kernel
theorem d_Explorer_takeLatest_2 : decode prog_5_method_11_code 2 = .ok (.getfield 62, 3) := by decide +kernel
theorem g_Explorer_14 {p : Program} {l : Launch} {e : Env} {R : Room} {s : Jvm.State} {m : MethodId} {args : Array Value} {below : List Frame} {meth : Method} {c : Code} {H : Heap} {locs : List Loc} {cells slots : Nat} {Q : Jvm.State → Prop} {cc : ByteArray} {pc : Nat} {ls : Array Slot} {rest : List Value} {D : va_G} {ad : Nat → Nat → Nat} {ca : Nat → ClassId} {M : me_M} {N : Nat → Nat} {own : String} {index j : Nat} (hexec : p.tables.exec = Jvm.exec) (hb : c.code = cc) (hts : ∀ w ∈ fg_g, w.before args s = true) (hown : s.vm.findClass own = some m.cls) (hK : va_K D classes (me_T ca) s) (hP : va_P D classes (me_W ad ca M) H) (hwf : me_wf N M) (hj : j < N 4) (hlink : (Cond.fieldLink own index "FilterGuard$Explorer" "paths" "I").before args s = true) (hdg : decode cc pc = .ok (.getfield index, 3)) (kk : W p l e R s m args below meth c H locs cells slots Q (F0 m (pc + 3) ls (.int (mI M 4 j 14) :: rest))) : W p l e R s m args below meth c H locs cells slots Q (F0 m pc ls (.ref (ad 4 j) :: rest)) := me_get (k := 4) (f := 14) (C := "FilterGuard$Explorer") (T := F_Explorer) (Nf := 15) hexec hb hts i_Explorer hown hK hP hwf hj (by decide) rfl (by decide) (by decide) hlink (fun _ h9 => h9) hdg kk
theorem d_Explorer_takeLatest_5 : decode prog_5_method_11_code 5 = .ok (.iconst 1, 1) := by decide +kernel
theorem d_Explorer_takeLatest_6 : decode prog_5_method_11_code 6 = .ok (.iadd, 1) := by decide +kernel
theorem d_Explorer_takeLatest_7 : decode prog_5_method_11_code 7 = .ok (.putfield 62, 3) := by decide +kernel
theorem d_Explorer_takeLatest_10 : decode prog_5_method_11_code 10 = .ok (.iconst 0, 1) := by decide +kernel
theorem d_Explorer_takeLatest_11 : decode prog_5_method_11_code 11 = .ok (.istore_n 1, 1) := by decide +kernel
abbrev y_Explorer_takeLatest : MethodName := ⟨"FilterGuard$Explorer", "takeLatest", "()Z"⟩
def rm_Explorer_takeLatest : Room := { frames := 1, cells := 0, slots := 0, locals := 20 }
abbrev q_Explorer_takeLatest (D : va_G) (ad : Nat → Nat → Nat) (ca : Nat → ClassId) (N : Nat → Nat) (M0 MZ : me_M) (RZ : Int32) (A : Nat → Prop) : Array Value → Jvm.State → Outcome → Jvm.State → Prop := va_Qi (fun r (_ : Unit) => r = RZ ∧ me_wf N MZ ∧ me_kz M0 MZ ∧ (RZ = 1 ∨ RZ = 0)) (fg_B D A (fun _ => me_W ad ca MZ) (fun _ => [])) A
set_option maxHeartbeats 4000000 in
set_option maxRecDepth 100000 in
theorem c_Explorer_takeLatest (l : Launch) (D : va_G) (ad : Nat → Nat → Nat) (ca : Nat → ClassId) (N : Nat → Nat) (M0 MZ : me_M) (RZ : Int32) (j0 : Nat) (h : f_Explorer_takeLatest M0 j0 = (some (MZ, RZ))) (hwf : me_wf N M0) (hj0 : j0 < N 4) (sz : Nat) : Met l y_Explorer_takeLatest (fg_w y_Explorer_takeLatest prog_5_method_11_code 2 (some .boolean)) rm_Explorer_takeLatest (va_Pc [.ref (ad 4 j0)] (fz_P D (me_T ca) (me_W ad ca M0) sz)) (q_Explorer_takeLatest D ad ca N M0 MZ RZ (va_A (me_W ad ca M0) sz)) rm_Explorer_takeLatest.cells rm_Explorer_takeLatest.slots (va_A (me_W ad ca M0) sz) := by
  refine fz_enter (fun A => q_Explorer_takeLatest D ad ca N M0 MZ RZ A) (by decide +kernel) (Nat.le_of_ble_eq_true rfl) ?_
  intro p e s m below meth c ls A hx hb hml hown hts hr hlocks hin hP hK hD hS hA hX hl hz
  have hl : lv_has ls 2 [(0, .ref (ad 4 j0))] := hl
  unfold f_Explorer_takeLatest at h
  have hkp : me_kz M0 M0 := me_kz.rf
  have hkb := hkp
  have b_12 : ∀ (fu : Nat), ∀ (M : me_M) (y1 : Int32) (H : Heap) (locs : List Loc) (ls : Array Slot), f_Explorer_takeLatest_l12 j0 fu M y1 = (some (MZ, RZ)) → me_wf N M → me_kz M0 M → va_P D classes (me_W ad ca M) H → va_D A (me_W ad ca M) → va_S A s.heap H locs → lv_has ls 2 [(0, .ref (ad 4 j0)), (1, .int y1)] → W p l e rm_Explorer_takeLatest s m [.ref (ad 4 j0)].toArray below meth c H locs 0 0 (MQ below (q_Explorer_takeLatest D ad ca N M0 MZ RZ A) [.ref (ad 4 j0)].toArray s rm_Explorer_takeLatest.cells rm_Explorer_takeLatest.slots A) (F0 m 12 ls []) := by
    intro fu
    induction fu with
    | zero =>
      intro M y1 H locs ls h hwf hkp hP hD hS hl
      cases h
    | succ fu ih =>
      intro M y1 H locs ls h hwf hkp hP hD hS hl
      unfold f_Explorer_takeLatest_l12 at h
      have hkb := hkp
      refine lv_iload_n hx hb d_Explorer_takeLatest_12 rfl (lv_at hl 1 rfl) ?_
      refine lv_aload_n hx hb d_Explorer_takeLatest_13 rfl (lv_at hl 0 rfl) ?_
      refine g_Explorer_11 hx hb hts hown hK hP hwf hj0 (hts _ u_557) d_Explorer_takeLatest_14 ?_
      refine lv_icmp_ge (tgt := 52) hx hb d_Explorer_takeLatest_17 (by decide) (fun c1 => ?_) (fun c1 => ?_)
      · have h := if_t c1 h
        refine lv_aload_n hx hb d_Explorer_takeLatest_52 rfl (lv_at hl 0 rfl) ?_
        refine g_Explorer_9 hx hb hts hown hK hP hwf hj0 (hts _ u_555) d_Explorer_takeLatest_53 ?_
        refine lv_if_ne (tgt := 61) hx hb d_Explorer_takeLatest_56 (by decide) (fun c2 => ?_) (fun c2 => ?_)
        · have h := if_f c2 h
          refine lv_aload_n hx hb d_Explorer_takeLatest_61 rfl (lv_at hl 0 rfl) ?_
          refine lv_dup hx hb d_Explorer_takeLatest_62 rfl ?_
          refine g_Explorer_9 hx hb hts hown hK hP hwf hj0 (hts _ u_555) d_Explorer_takeLatest_63 ?_
          refine lv_iconst (v := 1) hx hb d_Explorer_takeLatest_66 (by decide) ?_
          refine lv_isub hx hb d_Explorer_takeLatest_67 ?_
          obtain ⟨M3, eM3, h⟩ := st_ob h
          refine p_Explorer_9 eM3 hx hb hts hown hK hP hD hwf hS hj0 (hts _ u_555) d_Explorer_takeLatest_68 (fun H locs hP hD hwf hS => ?_)
          have hkp := kz_I eM3 hkp
          refine lv_aload_n hx hb d_Explorer_takeLatest_71 rfl (lv_at hl 0 rfl) ?_
          refine g_Explorer_4 hx hb hts hown hK hP hwf hj0 (hts _ u_550) d_Explorer_takeLatest_72 ?_
          obtain ⟨j4, e5, h⟩ := bd_ob h
          have hj4 : j4 < N 17 := (hwf.2.1 4 j0 4 _ e5 (by decide) hj0)
          refine me_opt (j := j4) e5 ?_
          refine lv_aload_n hx hb d_Explorer_takeLatest_75 rfl (lv_at hl 0 rfl) ?_
          refine g_Explorer_9 hx hb hts hown hK hP hwf hj0 (hts _ u_555) d_Explorer_takeLatest_76 ?_
          obtain ⟨g6, h⟩ := gd_ob h
          refine me_aald (k := 17) (t := 9) hx hb hK hP hwf hj4 (by decide) (by decide) rfl (fun _ => rfl) (kp_z hkb hkp g6) d_Explorer_takeLatest_79 ?_
          obtain ⟨j7, e8, h⟩ := bd_ob h
          have hj7 : j7 < N 9 := (hwf.2.1 17 j4 ((mI M3 4 j0 9).toNatClampNeg) _ e8 (by decide) hj4)
          refine me_opt (j := j7) e8 ?_
          refine lv_astore_n (lv' := [(1, .ref (ad 9 j7)), (0, .ref (ad 4 j0))]) hx hb d_Explorer_takeLatest_80 rfl hl (by decide) rfl (fun ls hl => ?_)
          refine lv_aload_n hx hb d_Explorer_takeLatest_81 rfl (lv_at hl 1 rfl) ?_
          refine g_Explorer_4 hx hb hts hown hK hP hwf hj0 (hts _ u_550) d_Explorer_takeLatest_82 ?_
          refine me_opt (j := j4) e5 ?_
          refine lv_aload_n hx hb d_Explorer_takeLatest_85 rfl (lv_at hl 1 rfl) ?_
          refine g_Explorer_9 hx hb hts hown hK hP hwf hj0 (hts _ u_555) d_Explorer_takeLatest_86 ?_
          refine lv_aload_n hx hb d_Explorer_takeLatest_89 rfl (lv_at hl 1 rfl) ?_
          refine g_Explorer_8 hx hb hts hown hK hP hwf hj0 (hts _ u_554) d_Explorer_takeLatest_90 ?_
          obtain ⟨j9, e10, h⟩ := bd_ob h
          have hj9 : j9 < N 9 := (hwf.2.1 4 j0 8 _ e10 (by decide) hj0)
          refine me_opt (j := j9) e10 ?_
          obtain ⟨M11, eM11, h⟩ := st_ob h
          refine me_aast (k := 17) (t := 9) eM11 hx hb hK hP hD hwf hS hj4 hj9 (by decide) (by decide) (by decide) rfl rfl (fun _ => rfl) (kp_z hkb hkp g6) d_Explorer_takeLatest_93 (fun H locs hP hD hwf hS => ?_)
          have hkp := kz_R eM11 hkp
          refine lv_aload_n hx hb d_Explorer_takeLatest_94 rfl (lv_at hl 1 rfl) ?_
          refine lv_aload_n hx hb d_Explorer_takeLatest_95 rfl (lv_at hl 0 rfl) ?_
          obtain ⟨M12, eM12, h⟩ := st_ob h
          refine p_Explorer_8 eM12 hx hb hts hown hK hP hD hwf hS hj0 hj7 (hts _ u_554) d_Explorer_takeLatest_96 (fun H locs hP hD hwf hS => ?_)
          have hkp := kz_R eM12 hkp
          refine lv_iconst (v := 1) hx hb d_Explorer_takeLatest_99 (by decide) ?_
          exact me_retz (me_kz M0) h (by decide) hx hb hr hlocks hwf hkp hP hK hD hS d_Explorer_takeLatest_100
        have h := if_t c2 h
        refine lv_iconst (v := 0) hx hb d_Explorer_takeLatest_59 (by decide) ?_
        exact me_retz (me_kz M0) h (by decide) hx hb hr hlocks hwf hkp hP hK hD hS d_Explorer_takeLatest_60
      have h := if_f c1 h
      refine lv_aload_n hx hb d_Explorer_takeLatest_20 rfl (lv_at hl 0 rfl) ?_
      refine g_Explorer_3 hx hb hts hown hK hP hwf hj0 (hts _ u_549) d_Explorer_takeLatest_21 ?_
      obtain ⟨j13, e14, h⟩ := bd_ob h
      have hj13 : j13 < N 17 := (hwf.2.1 4 j0 3 _ e14 (by decide) hj0)
      refine me_opt (j := j13) e14 ?_
      refine lv_iload_n hx hb d_Explorer_takeLatest_24 rfl (lv_at hl 1 rfl) ?_
      obtain ⟨g15, h⟩ := gd_ob h
      refine me_aald (k := 17) (t := 9) hx hb hK hP hwf hj13 (by decide) (by decide) rfl (fun _ => rfl) g15 d_Explorer_takeLatest_25 ?_
      obtain ⟨j16, e17, h⟩ := bd_ob h
      have hj16 : j16 < N 9 := (hwf.2.1 17 j13 y1.toNatClampNeg _ e17 (by decide) hj13)
      refine me_opt (j := j16) e17 ?_
      refine g_State_3 hx hb hts hown hK hP hwf hj16 (hts _ u_533) d_Explorer_takeLatest_26 ?_
      refine lv_aload_n hx hb d_Explorer_takeLatest_29 rfl (lv_at hl 0 rfl) ?_
      refine g_Explorer_9 hx hb hts hown hK hP hwf hj0 (hts _ u_555) d_Explorer_takeLatest_30 ?_
      refine lv_icmp_lt (tgt := 46) hx hb d_Explorer_takeLatest_33 (by decide) (fun c18 => ?_) (fun c18 => ?_)
      · have h := if_t c18 h
        refine lv_iinc (v := y1 + 1) (lv' := [(1, .int (y1 + 1)), (0, .ref (ad 4 j0))]) hx hb d_Explorer_takeLatest_46 hl (k := 1) rfl (by rfl) (by decide) rfl (fun ls hl => ?_)
        refine lv_goto (tgt := 12) hx hb d_Explorer_takeLatest_49 (by decide) ?_
        exact ih M (y1 + 1) _ _ _ h hwf hkp hP hD hS (lv_sub hl [1, 0] rfl)
      have h := if_f c18 h
      refine lv_aload_n hx hb d_Explorer_takeLatest_36 rfl (lv_at hl 0 rfl) ?_
      refine g_Explorer_3 hx hb hts hown hK hP hwf hj0 (hts _ u_549) d_Explorer_takeLatest_37 ?_
      refine me_opt (j := j13) e14 ?_
      refine lv_iload_n hx hb d_Explorer_takeLatest_40 rfl (lv_at hl 1 rfl) ?_
      refine me_aald (k := 17) (t := 9) hx hb hK hP hwf hj13 (by decide) (by decide) rfl (fun _ => rfl) g15 d_Explorer_takeLatest_41 ?_
      refine me_opt (j := j16) e17 ?_
      refine lv_iconst (v := 0) hx hb d_Explorer_takeLatest_42 (by decide) ?_
      obtain ⟨M19, eM19, h⟩ := st_ob h
      refine p_State_4 eM19 hx hb hts hown hK hP hD hwf hS hj16 (by decide) (hts _ u_534) d_Explorer_takeLatest_43 (fun H locs hP hD hwf hS => ?_)
      have hkp := kz_I eM19 hkp
      refine lv_iinc (v := y1 + 1) (lv' := [(1, .int (y1 + 1)), (0, .ref (ad 4 j0))]) hx hb d_Explorer_takeLatest_46 hl (k := 1) rfl (by rfl) (by decide) rfl (fun ls hl => ?_)
      refine lv_goto (tgt := 12) hx hb d_Explorer_takeLatest_49 (by decide) ?_
      exact ih M19 (y1 + 1) _ _ _ h hwf hkp hP hD hS (lv_sub hl [1, 0] rfl)
  refine lv_aload_n hx hb d_Explorer_takeLatest_0 rfl (lv_at hl 0 rfl) ?_
  refine lv_dup hx hb d_Explorer_takeLatest_1 rfl ?_
  refine g_Explorer_14 hx hb hts hown hK hP hwf hj0 (hts _ u_563) d_Explorer_takeLatest_2 ?_
  refine lv_iconst (v := 1) hx hb d_Explorer_takeLatest_5 (by decide) ?_
  refine lv_iadd hx hb d_Explorer_takeLatest_6 ?_
  obtain ⟨M20, eM20, h⟩ := st_ob h
  refine p_Explorer_14 eM20 hx hb hts hown hK hP hD hwf hS hj0 (hts _ u_563) d_Explorer_takeLatest_7 (fun H locs hP hD hwf hS => ?_)
  have hkp := kz_I eM20 hkp
  refine lv_iconst (v := 0) hx hb d_Explorer_takeLatest_10 (by decide) ?_
  refine lv_istore_n (lv' := [(1, .int 0), (0, .ref (ad 4 j0))]) hx hb d_Explorer_takeLatest_11 rfl hl (by decide) rfl (fun ls hl => ?_)
  exact b_12 _ M20 (0 : Int32) _ _ _ h hwf hkp hP hD hS (lv_sub hl [1, 0] rfl)
theorem d_Explorer_explore_145 : decode prog_5_method_4_code 145 = .ok (.iload_n 3, 1) := by decide +kernel
theorem d_Explorer_explore_146 : decode prog_5_method_4_code 146 = .ok (.ifCond .eq 5, 3) := by decide +kernel
theorem d_Explorer_explore_151 : decode prog_5_method_4_code 151 = .ok (.aload_n 0, 1) := by decide +kernel
theorem d_Explorer_explore_152 : decode prog_5_method_4_code 152 = .ok (.getfield 75, 3) := by decide +kernel
theorem d_Explorer_explore_155 : decode prog_5_method_4_code 155 = .ok (.ifCond .eq 12, 3) := by decide +kernel
theorem d_Explorer_explore_167 : decode prog_5_method_4_code 167 = .ok (.iinc 2 1, 3) := by decide +kernel
theorem d_Explorer_explore_170 : decode prog_5_method_4_code 170 = .ok (.goto (-154), 3) := by decide +kernel
theorem d_Explorer_explore_158 : decode prog_5_method_4_code 158 = .ok (.aload_n 0, 1) := by decide +kernel
theorem d_Explorer_explore_159 : decode prog_5_method_4_code 159 = .ok (.invokevirtual 106, 3) := by decide +kernel
theorem u_1443 : Cond.methodLink "FilterGuard$Explorer" 106 ⟨"FilterGuard$Explorer", "takeLatest", "()Z"⟩ ∈ fg_g := fg_in (List.mem_of_getElem? (i := 1443) (by decide +kernel)) rfl
theorem u_1446 : Cond.code ⟨"FilterGuard$Explorer", "takeLatest", "()Z"⟩ prog_5_method_11_code 2 (some .boolean) ∈ fg_g := fg_in (List.mem_of_getElem? (i := 1446) (by decide +kernel)) rfl
theorem u_1445 : Cond.instanceMethod ⟨"FilterGuard$Explorer", "takeLatest", "()Z"⟩ ∈ fg_g := fg_in (List.mem_of_getElem? (i := 1445) (by decide +kernel)) rfl
theorem u_56 : Cond.selects "FilterGuard$Explorer" ⟨"FilterGuard$Explorer", "takeLatest", "()Z"⟩ ⟨"FilterGuard$Explorer", "takeLatest", "()Z"⟩ ∈ fg_g := fg_in (List.mem_of_getElem? (i := 56) (by decide +kernel)) rfl
theorem d_Explorer_explore_162 : decode prog_5_method_4_code 162 = .ok (.ifCond .ne 5, 3) := by decide +kernel
theorem d_Explorer_explore_165 : decode prog_5_method_4_code 165 = .ok (.iconst 0, 1) := by decide +kernel
theorem d_Explorer_explore_166 : decode prog_5_method_4_code 166 = .ok (.ireturn, 1) := by decide +kernel
theorem d_Explorer_explore_149 : decode prog_5_method_4_code 149 = .ok (.iload_n 3, 1) := by decide +kernel
theorem d_Explorer_explore_150 : decode prog_5_method_4_code 150 = .ok (.ireturn, 1) := by decide +kernel
theorem d_Explorer_explore_144 : decode prog_5_method_4_code 144 = .ok (.istore_n 3, 1) := by decide +kernel
theorem d_Explorer_explore_52 : decode prog_5_method_4_code 52 = .ok (.istore_n 3, 1) := by decide +kernel
theorem d_Explorer_explore_53 : decode prog_5_method_4_code 53 = .ok (.iload_n 3, 1) := by decide +kernel
theorem d_Explorer_explore_54 : decode prog_5_method_4_code 54 = .ok (.ifCond .ne 91, 3) := by decide +kernel
theorem d_Explorer_explore_57 : decode prog_5_method_4_code 57 = .ok (.aload_n 0, 1) := by decide +kernel
theorem d_Explorer_explore_58 : decode prog_5_method_4_code 58 = .ok (.getfield 75, 3) := by decide +kernel
theorem d_Explorer_explore_61 : decode prog_5_method_4_code 61 = .ok (.ifCond .ne 84, 3) := by decide +kernel
theorem d_Explorer_explore_64 : decode prog_5_method_4_code 64 = .ok (.aload_n 0, 1) := by decide +kernel
theorem d_Explorer_explore_65 : decode prog_5_method_4_code 65 = .ok (.getfield 56, 3) := by decide +kernel
theorem g_Explorer_12 {p : Program} {l : Launch} {e : Env} {R : Room} {s : Jvm.State} {m : MethodId} {args : Array Value} {below : List Frame} {meth : Method} {c : Code} {H : Heap} {locs : List Loc} {cells slots : Nat} {Q : Jvm.State → Prop} {cc : ByteArray} {pc : Nat} {ls : Array Slot} {rest : List Value} {D : va_G} {ad : Nat → Nat → Nat} {ca : Nat → ClassId} {M : me_M} {N : Nat → Nat} {own : String} {index j : Nat} (hexec : p.tables.exec = Jvm.exec) (hb : c.code = cc) (hts : ∀ w ∈ fg_g, w.before args s = true) (hown : s.vm.findClass own = some m.cls) (hK : va_K D classes (me_T ca) s) (hP : va_P D classes (me_W ad ca M) H) (hwf : me_wf N M) (hj : j < N 4) (hlink : (Cond.fieldLink own index "FilterGuard$Explorer" "visits" "I").before args s = true) (hdg : decode cc pc = .ok (.getfield index, 3)) (kk : W p l e R s m args below meth c H locs cells slots Q (F0 m (pc + 3) ls (.int (mI M 4 j 12) :: rest))) : W p l e R s m args below meth c H locs cells slots Q (F0 m pc ls (.ref (ad 4 j) :: rest)) := me_get (k := 4) (f := 12) (C := "FilterGuard$Explorer") (T := F_Explorer) (Nf := 15) hexec hb hts i_Explorer hown hK hP hwf hj (by decide) rfl (by decide) (by decide) hlink (fun _ h9 => h9) hdg kk
theorem d_Explorer_explore_68 : decode prog_5_method_4_code 68 = .ok (.iload_n 1, 1) := by decide +kernel
theorem d_Explorer_explore_69 : decode prog_5_method_4_code 69 = .ok (.if_icmp .lt 6, 3) := by decide +kernel
theorem d_Explorer_explore_75 : decode prog_5_method_4_code 75 = .ok (.aload_n 0, 1) := by decide +kernel
theorem d_Explorer_explore_76 : decode prog_5_method_4_code 76 = .ok (.dup, 1) := by decide +kernel
theorem d_Explorer_explore_77 : decode prog_5_method_4_code 77 = .ok (.getfield 56, 3) := by decide +kernel
theorem d_Explorer_explore_80 : decode prog_5_method_4_code 80 = .ok (.iconst 1, 1) := by decide +kernel
theorem d_Explorer_explore_81 : decode prog_5_method_4_code 81 = .ok (.iadd, 1) := by decide +kernel
theorem d_Explorer_explore_82 : decode prog_5_method_4_code 82 = .ok (.putfield 56, 3) := by decide +kernel
theorem d_Explorer_explore_85 : decode prog_5_method_4_code 85 = .ok (.aload_n 0, 1) := by decide +kernel
theorem d_Explorer_explore_86 : decode prog_5_method_4_code 86 = .ok (.getfield 31, 3) := by decide +kernel
theorem d_Explorer_explore_89 : decode prog_5_method_4_code 89 = .ok (.aload_n 0, 1) := by decide +kernel
theorem d_Explorer_explore_90 : decode prog_5_method_4_code 90 = .ok (.getfield 45, 3) := by decide +kernel
theorem d_Explorer_explore_93 : decode prog_5_method_4_code 93 = .ok (.getfield 65, 3) := by decide +kernel
theorem d_Explorer_explore_96 : decode prog_5_method_4_code 96 = .ok (.invokevirtual 89, 3) := by decide +kernel
theorem u_1086 : Cond.methodLink "FilterGuard$Explorer" 89 ⟨"FilterGuard$Facts", "visit", "(I)V"⟩ ∈ fg_g := fg_in (List.mem_of_getElem? (i := 1086) (by decide +kernel)) rfl
theorem u_1089 : Cond.code ⟨"FilterGuard$Facts", "visit", "(I)V"⟩ prog_6_method_3_code 2 none ∈ fg_g := fg_in (List.mem_of_getElem? (i := 1089) (by decide +kernel)) rfl
theorem u_1087 : Cond.instanceMethod ⟨"FilterGuard$Facts", "visit", "(I)V"⟩ ∈ fg_g := fg_in (List.mem_of_getElem? (i := 1087) (by decide +kernel)) rfl
theorem u_1088 : Cond.selects "FilterGuard$Facts" ⟨"FilterGuard$Facts", "visit", "(I)V"⟩ ⟨"FilterGuard$Facts", "visit", "(I)V"⟩ ∈ fg_g := fg_in (List.mem_of_getElem? (i := 1088) (by decide +kernel)) rfl
theorem d_Explorer_explore_99 : decode prog_5_method_4_code 99 = .ok (.aload_n 0, 1) := by decide +kernel
theorem d_Explorer_explore_100 : decode prog_5_method_4_code 100 = .ok (.getfield 27, 3) := by decide +kernel
theorem d_Explorer_explore_103 : decode prog_5_method_4_code 103 = .ok (.aload_n 0, 1) := by decide +kernel
theorem d_Explorer_explore_104 : decode prog_5_method_4_code 104 = .ok (.getfield 45, 3) := by decide +kernel
theorem d_Explorer_explore_107 : decode prog_5_method_4_code 107 = .ok (.getfield 65, 3) := by decide +kernel
theorem d_Explorer_explore_110 : decode prog_5_method_4_code 110 = .ok (.invokevirtual 95, 3) := by decide +kernel
theorem u_1090 : Cond.methodLink "FilterGuard$Explorer" 95 ⟨"FilterGuard$Code", "look", "(I)V"⟩ ∈ fg_g := fg_in (List.mem_of_getElem? (i := 1090) (by decide +kernel)) rfl
theorem d_Explorer_explore_113 : decode prog_5_method_4_code 113 = .ok (.aload_n 0, 1) := by decide +kernel
theorem d_Explorer_explore_114 : decode prog_5_method_4_code 114 = .ok (.getfield 40, 3) := by decide +kernel
theorem d_Explorer_explore_117 : decode prog_5_method_4_code 117 = .ok (.aload_n 0, 1) := by decide +kernel
theorem d_Explorer_explore_118 : decode prog_5_method_4_code 118 = .ok (.getfield 45, 3) := by decide +kernel
theorem d_Explorer_explore_121 : decode prog_5_method_4_code 121 = .ok (.invokevirtual 98, 3) := by decide +kernel
theorem u_1091 : Cond.methodLink "FilterGuard$Explorer" 98 ⟨"FilterGuard$Steps", "take", "(LFilterGuard$State;)I"⟩ ∈ fg_g := fg_in (List.mem_of_getElem? (i := 1091) (by decide +kernel)) rfl
theorem u_1094 : Cond.code ⟨"FilterGuard$Steps", "take", "(LFilterGuard$State;)I"⟩ prog_11_method_3_code 3 (some .int) ∈ fg_g := fg_in (List.mem_of_getElem? (i := 1094) (by decide +kernel)) rfl
theorem u_1092 : Cond.instanceMethod ⟨"FilterGuard$Steps", "take", "(LFilterGuard$State;)I"⟩ ∈ fg_g := fg_in (List.mem_of_getElem? (i := 1092) (by decide +kernel)) rfl
theorem u_1093 : Cond.selects "FilterGuard$Steps" ⟨"FilterGuard$Steps", "take", "(LFilterGuard$State;)I"⟩ ⟨"FilterGuard$Steps", "take", "(LFilterGuard$State;)I"⟩ ∈ fg_g := fg_in (List.mem_of_getElem? (i := 1093) (by decide +kernel)) rfl
theorem d_Explorer_explore_124 : decode prog_5_method_4_code 124 = .ok (.istore_n 3, 1) := by decide +kernel
theorem d_Explorer_explore_125 : decode prog_5_method_4_code 125 = .ok (.iload_n 3, 1) := by decide +kernel
theorem d_Explorer_explore_126 : decode prog_5_method_4_code 126 = .ok (.ifCond .ne 17, 3) := by decide +kernel
theorem d_Explorer_explore_143 : decode prog_5_method_4_code 143 = .ok (.iload_n 3, 1) := by decide +kernel
theorem d_Explorer_explore_129 : decode prog_5_method_4_code 129 = .ok (.aload_n 0, 1) := by decide +kernel
theorem d_Explorer_explore_130 : decode prog_5_method_4_code 130 = .ok (.aload_n 0, 1) := by decide +kernel
theorem d_Explorer_explore_131 : decode prog_5_method_4_code 131 = .ok (.getfield 45, 3) := by decide +kernel
theorem d_Explorer_explore_134 : decode prog_5_method_4_code 134 = .ok (.getfield 65, 3) := by decide +kernel
theorem d_Explorer_explore_137 : decode prog_5_method_4_code 137 = .ok (.invokevirtual 102, 3) := by decide +kernel
theorem u_1410 : Cond.methodLink "FilterGuard$Explorer" 102 ⟨"FilterGuard$Explorer", "goOn", "(I)I"⟩ ∈ fg_g := fg_in (List.mem_of_getElem? (i := 1410) (by decide +kernel)) rfl
theorem u_1413 : Cond.code ⟨"FilterGuard$Explorer", "goOn", "(I)I"⟩ prog_5_method_8_code 2 (some .int) ∈ fg_g := fg_in (List.mem_of_getElem? (i := 1413) (by decide +kernel)) rfl
theorem u_1412 : Cond.instanceMethod ⟨"FilterGuard$Explorer", "goOn", "(I)I"⟩ ∈ fg_g := fg_in (List.mem_of_getElem? (i := 1412) (by decide +kernel)) rfl
theorem u_53 : Cond.selects "FilterGuard$Explorer" ⟨"FilterGuard$Explorer", "goOn", "(I)I"⟩ ⟨"FilterGuard$Explorer", "goOn", "(I)I"⟩ ∈ fg_g := fg_in (List.mem_of_getElem? (i := 53) (by decide +kernel)) rfl
theorem d_Explorer_explore_140 : decode prog_5_method_4_code 140 = .ok (.goto 4, 3) := by decide +kernel
theorem d_Explorer_explore_72 : decode prog_5_method_4_code 72 = .ok (.bipush 20, 2) := by decide +kernel
theorem d_Explorer_explore_74 : decode prog_5_method_4_code 74 = .ok (.ireturn, 1) := by decide +kernel
theorem d_Explorer_explore_16 : decode prog_5_method_4_code 16 = .ok (.iload_n 2, 1) := by decide +kernel
theorem d_Explorer_explore_17 : decode prog_5_method_4_code 17 = .ok (.ldc 74, 2) := by decide +kernel
theorem u_1040 : Cond.constant "FilterGuard$Explorer" 74 1000000 ∈ fg_g := fg_in (List.mem_of_getElem? (i := 1040) (by decide +kernel)) rfl
theorem d_Explorer_explore_19 : decode prog_5_method_4_code 19 = .ok (.if_icmp .ge 154, 3) := by decide +kernel
theorem d_Explorer_explore_173 : decode prog_5_method_4_code 173 = .ok (.bipush 20, 2) := by decide +kernel
theorem d_Explorer_explore_175 : decode prog_5_method_4_code 175 = .ok (.ireturn, 1) := by decide +kernel
theorem d_Explorer_explore_22 : decode prog_5_method_4_code 22 = .ok (.aload_n 0, 1) := by decide +kernel
theorem d_Explorer_explore_23 : decode prog_5_method_4_code 23 = .ok (.iconst 0, 1) := by decide +kernel
theorem d_Explorer_explore_24 : decode prog_5_method_4_code 24 = .ok (.putfield 75, 3) := by decide +kernel
theorem d_Explorer_explore_27 : decode prog_5_method_4_code 27 = .ok (.aload_n 0, 1) := by decide +kernel
theorem d_Explorer_explore_28 : decode prog_5_method_4_code 28 = .ok (.getfield 27, 3) := by decide +kernel
theorem d_Explorer_explore_31 : decode prog_5_method_4_code 31 = .ok (.aload_n 0, 1) := by decide +kernel
theorem d_Explorer_explore_32 : decode prog_5_method_4_code 32 = .ok (.getfield 45, 3) := by decide +kernel
theorem d_Explorer_explore_35 : decode prog_5_method_4_code 35 = .ok (.getfield 65, 3) := by decide +kernel
theorem d_Explorer_explore_38 : decode prog_5_method_4_code 38 = .ok (.invokevirtual 79, 3) := by decide +kernel
theorem u_1041 : Cond.methodLink "FilterGuard$Explorer" 79 ⟨"FilterGuard$Code", "isMarkAt", "(I)Z"⟩ ∈ fg_g := fg_in (List.mem_of_getElem? (i := 1041) (by decide +kernel)) rfl
theorem u_1044 : Cond.code ⟨"FilterGuard$Code", "isMarkAt", "(I)Z"⟩ prog_4_method_12_code 2 (some .boolean) ∈ fg_g := fg_in (List.mem_of_getElem? (i := 1044) (by decide +kernel)) rfl
theorem u_1042 : Cond.instanceMethod ⟨"FilterGuard$Code", "isMarkAt", "(I)Z"⟩ ∈ fg_g := fg_in (List.mem_of_getElem? (i := 1042) (by decide +kernel)) rfl
theorem u_1043 : Cond.selects "FilterGuard$Code" ⟨"FilterGuard$Code", "isMarkAt", "(I)Z"⟩ ⟨"FilterGuard$Code", "isMarkAt", "(I)Z"⟩ ∈ fg_g := fg_in (List.mem_of_getElem? (i := 1043) (by decide +kernel)) rfl
theorem d_Explorer_explore_41 : decode prog_5_method_4_code 41 = .ok (.ifCond .eq 10, 3) := by decide +kernel
theorem d_Explorer_explore_51 : decode prog_5_method_4_code 51 = .ok (.iconst 0, 1) := by decide +kernel
theorem d_Explorer_explore_44 : decode prog_5_method_4_code 44 = .ok (.aload_n 0, 1) := by decide +kernel
theorem d_Explorer_explore_45 : decode prog_5_method_4_code 45 = .ok (.invokevirtual 85, 3) := by decide +kernel
theorem u_1045 : Cond.methodLink "FilterGuard$Explorer" 85 ⟨"FilterGuard$Explorer", "meetKept", "()I"⟩ ∈ fg_g := fg_in (List.mem_of_getElem? (i := 1045) (by decide +kernel)) rfl
theorem u_1048 : Cond.code ⟨"FilterGuard$Explorer", "meetKept", "()I"⟩ prog_5_method_5_code 2 (some .int) ∈ fg_g := fg_in (List.mem_of_getElem? (i := 1048) (by decide +kernel)) rfl
theorem u_1047 : Cond.instanceMethod ⟨"FilterGuard$Explorer", "meetKept", "()I"⟩ ∈ fg_g := fg_in (List.mem_of_getElem? (i := 1047) (by decide +kernel)) rfl
theorem u_13 : Cond.selects "FilterGuard$Explorer" ⟨"FilterGuard$Explorer", "meetKept", "()I"⟩ ⟨"FilterGuard$Explorer", "meetKept", "()I"⟩ ∈ fg_g := fg_in (List.mem_of_getElem? (i := 13) (by decide +kernel)) rfl
theorem d_Explorer_explore_48 : decode prog_5_method_4_code 48 = .ok (.goto 4, 3) := by decide +kernel
theorem d_Explorer_explore_0 : decode prog_5_method_4_code 0 = .ok (.aload_n 0, 1) := by decide +kernel
theorem d_Explorer_explore_1 : decode prog_5_method_4_code 1 = .ok (.getfield 40, 3) := by decide +kernel
theorem d_Explorer_explore_4 : decode prog_5_method_4_code 4 = .ok (.invokevirtual 68, 3) := by decide +kernel
theorem u_1016 : Cond.methodLink "FilterGuard$Explorer" 68 ⟨"FilterGuard$Steps", "begin", "()V"⟩ ∈ fg_g := fg_in (List.mem_of_getElem? (i := 1016) (by decide +kernel)) rfl
theorem u_1019 : Cond.code ⟨"FilterGuard$Steps", "begin", "()V"⟩ prog_11_method_2_code 1 none ∈ fg_g := fg_in (List.mem_of_getElem? (i := 1019) (by decide +kernel)) rfl
theorem u_1017 : Cond.instanceMethod ⟨"FilterGuard$Steps", "begin", "()V"⟩ ∈ fg_g := fg_in (List.mem_of_getElem? (i := 1017) (by decide +kernel)) rfl
theorem u_1018 : Cond.selects "FilterGuard$Steps" ⟨"FilterGuard$Steps", "begin", "()V"⟩ ⟨"FilterGuard$Steps", "begin", "()V"⟩ ∈ fg_g := fg_in (List.mem_of_getElem? (i := 1018) (by decide +kernel)) rfl
theorem d_Explorer_explore_7 : decode prog_5_method_4_code 7 = .ok (.aload_n 0, 1) := by decide +kernel
theorem d_Explorer_explore_8 : decode prog_5_method_4_code 8 = .ok (.getfield 45, 3) := by decide +kernel
theorem d_Explorer_explore_11 : decode prog_5_method_4_code 11 = .ok (.invokevirtual 71, 3) := by decide +kernel
theorem u_1020 : Cond.methodLink "FilterGuard$Explorer" 71 ⟨"FilterGuard$State", "atFirst", "()V"⟩ ∈ fg_g := fg_in (List.mem_of_getElem? (i := 1020) (by decide +kernel)) rfl
theorem u_1023 : Cond.code ⟨"FilterGuard$State", "atFirst", "()V"⟩ prog_10_method_2_code 1 none ∈ fg_g := fg_in (List.mem_of_getElem? (i := 1023) (by decide +kernel)) rfl
theorem u_1021 : Cond.instanceMethod ⟨"FilterGuard$State", "atFirst", "()V"⟩ ∈ fg_g := fg_in (List.mem_of_getElem? (i := 1021) (by decide +kernel)) rfl
theorem u_1022 : Cond.selects "FilterGuard$State" ⟨"FilterGuard$State", "atFirst", "()V"⟩ ⟨"FilterGuard$State", "atFirst", "()V"⟩ ∈ fg_g := fg_in (List.mem_of_getElem? (i := 1022) (by decide +kernel)) rfl
theorem d_Explorer_explore_14 : decode prog_5_method_4_code 14 = .ok (.iconst 0, 1) := by decide +kernel
theorem d_Explorer_explore_15 : decode prog_5_method_4_code 15 = .ok (.istore_n 2, 1) := by decide +kernel
abbrev y_Explorer_explore : MethodName := ⟨"FilterGuard$Explorer", "explore", "(I)I"⟩
def rm_Explorer_explore (N0 : Nat → Nat) : Room := { frames := 8, cells := me_CL - me_cN N0, slots := me_SL - me_sN N0, locals := 197 }
abbrev q_Explorer_explore (D : va_G) (ad0 : Nat → Nat → Nat) (ca : Nat → ClassId) (N0 : Nat → Nat) (MZ : me_M) (RZ : Int32) (A : Nat → Prop) : Array Value → Jvm.State → Outcome → Jvm.State → Prop := va_Qi (fun r (u : Nat → Nat → Nat) => r = RZ ∧ al_P ad0 N0 MZ u ∧ True) (fg_B D A (fun u => me_W u ca MZ) (fun _ => [])) A
set_option maxHeartbeats 4000000 in
set_option maxRecDepth 100000 in
theorem c_Explorer_explore (l : Launch) (D : va_G) (ad0 : Nat → Nat → Nat) (ca : Nat → ClassId) (N0 : Nat → Nat) (M0 MZ : me_M) (RZ : Int32) (j0 : Nat) (x1 : Int32) (h : f_Explorer_explore M0 j0 x1 = (some (MZ, RZ))) (hwf : me_wf N0 M0) (hcl : me_cN N0 ≤ me_CL ∧ me_sN N0 ≤ me_SL) (hj0 : j0 < N0 4) (sz : Nat) : Met l y_Explorer_explore (fg_w y_Explorer_explore prog_5_method_4_code 4 (some .int)) (rm_Explorer_explore N0) (va_Pc [.ref (ad0 4 j0), .int x1] (fz_P D (me_T ca) (me_W ad0 ca M0) sz)) (q_Explorer_explore D ad0 ca N0 MZ RZ (va_A (me_W ad0 ca M0) sz)) (me_cN (mN MZ) - me_cN N0) (me_sN (mN MZ) - me_sN N0) (va_A (me_W ad0 ca M0) sz) := by
  refine fz_enter (fun A => q_Explorer_explore D ad0 ca N0 MZ RZ A) (by decide +kernel) (Nat.le_of_ble_eq_true rfl) ?_
  intro p e s m below meth c ls A hx hb hml hown hts hr hlocks hin hP hK hD hS hA hX hl hz
  refine W.widen (k := me_cN N0 - me_cN N0) (n := me_sN N0 - me_sN N0) (Nat.zero_le _) (Nat.zero_le _) ?_
  unfold f_Explorer_explore at h
  have hok : me_ok N0 N0 := me_ok.rf hcl
  have b_145 : ∀ (k16 : me_M → Int32 → Option (me_M × Int32)) (hk16 : ∀ (ad : Nat → Nat → Nat) (N : Nat → Nat) (M : me_M) (y2 : Int32) (H : Heap) (locs : List Loc) (ls : Array Slot), k16 M y2 = (some (MZ, RZ)) → me_wf N M → me_ok N0 N → (∀ a b, b < N0 a → ad a b = ad0 a b) → va_P D classes (me_W ad ca M) H → va_D A (me_W ad ca M) → va_S A s.heap H locs → lv_has ls 4 [(0, .ref (ad 4 j0)), (1, .int x1), (2, .int y2)] → W p l e (rm_Explorer_explore N0) s m [.ref (ad0 4 j0), .int x1].toArray below meth c H locs (me_cN N - me_cN N0) (me_sN N - me_sN N0) (MQ below (q_Explorer_explore D ad0 ca N0 MZ RZ A) [.ref (ad0 4 j0), .int x1].toArray s (me_cN (mN MZ) - me_cN N0) (me_sN (mN MZ) - me_sN N0) A) (F0 m 16 ls [])), ∀ (ad : Nat → Nat → Nat) (N : Nat → Nat) (M : me_M) (y2 : Int32) (y3 : Int32) (H : Heap) (locs : List Loc) (ls : Array Slot), f_Explorer_explore_b145 k16 j0 x1 M y2 y3 = (some (MZ, RZ)) → me_wf N M → me_ok N0 N → (∀ a b, b < N0 a → ad a b = ad0 a b) → va_P D classes (me_W ad ca M) H → va_D A (me_W ad ca M) → va_S A s.heap H locs → lv_has ls 4 [(0, .ref (ad 4 j0)), (1, .int x1), (2, .int y2), (3, .int y3)] → W p l e (rm_Explorer_explore N0) s m [.ref (ad0 4 j0), .int x1].toArray below meth c H locs (me_cN N - me_cN N0) (me_sN N - me_sN N0) (MQ below (q_Explorer_explore D ad0 ca N0 MZ RZ A) [.ref (ad0 4 j0), .int x1].toArray s (me_cN (mN MZ) - me_cN N0) (me_sN (mN MZ) - me_sN N0) A) (F0 m 145 ls []) := by
    intro k16 hk16 ad N M y2 y3 H locs ls h hwf hok hext0 hP hD hS hl
    unfold f_Explorer_explore_b145 at h
    have hj0 : j0 < N 4 := Nat.lt_of_lt_of_le hj0 (hok.2.2.2.2 4)
    refine lv_iload_n hx hb d_Explorer_explore_145 rfl (lv_at hl 3 rfl) ?_
    refine lv_if_eq (tgt := 151) hx hb d_Explorer_explore_146 (by decide) (fun c1 => ?_) (fun c1 => ?_)
    · have h := if_t c1 h
      refine lv_aload_n hx hb d_Explorer_explore_151 rfl (lv_at hl 0 rfl) ?_
      refine g_Explorer_10 hx hb hts hown hK hP hwf hj0 (hts _ u_556) d_Explorer_explore_152 ?_
      have z2 := (hwf.2.2.2 4 j0 10 rfl)
      refine lv_if_eq (tgt := 167) hx hb d_Explorer_explore_155 (by decide) (fun c3 => ?_) (fun c3 => ?_)
      · have h := if_t c3 h
        refine lv_iinc (v := y2 + 1) (lv' := [(2, .int (y2 + 1)), (0, .ref (ad 4 j0)), (1, .int x1), (3, .int y3)]) hx hb d_Explorer_explore_167 hl (k := 2) rfl (by rfl) (by decide) rfl (fun ls hl => ?_)
        refine lv_goto (tgt := 16) hx hb d_Explorer_explore_170 (by decide) ?_
        exact hk16 ad N M (y2 + 1) _ _ _ h hwf hok hext0 hP hD hS (lv_sub hl [1, 2, 0] rfl)
      have h := if_f c3 h
      refine lv_aload_n hx hb d_Explorer_explore_158 rfl (lv_at hl 0 rfl) ?_
      obtain ⟨M4, r5, eM4, h⟩ := b2_ob h
      refine me_theni0 (M1 := M4) (me_runV (C := "FilterGuard$Explorer") (As := []) (rest := []) ⟨hx, hb, hml, hown, hts⟩ (c_Explorer_takeLatest l D ad ca N M M4 r5 j0 eM4 hwf hj0 _) rfl (by show fg_nm y_Explorer_takeLatest 0; decide +kernel) u_1443 u_1445 u_56 u_184 u_1446 ⟨Nat.le_of_ble_eq_true rfl, Nat.le_of_ble_eq_true rfl⟩ hX hz hK hP hD hwf hS hA hj0 (by decide) rfl rfl rfl hl.1 (Nat.le_of_ble_eq_true rfl) d_Explorer_explore_159 (al_f hok)) hP hD hK hS hA rfl rfl (fun H locs hw hP hD hS => ?_)
      obtain ⟨hwf, hk9, zr5⟩ := hw
      refine lv_if_ne (tgt := 167) hx hb d_Explorer_explore_162 (by decide) (fun c6 => ?_) (fun c6 => ?_)
      · have h := if_f c6 h
        refine lv_iinc (v := y2 + 1) (lv' := [(2, .int (y2 + 1)), (0, .ref (ad 4 j0)), (1, .int x1), (3, .int y3)]) hx hb d_Explorer_explore_167 hl (k := 2) rfl (by rfl) (by decide) rfl (fun ls hl => ?_)
        refine lv_goto (tgt := 16) hx hb d_Explorer_explore_170 (by decide) ?_
        exact hk16 ad N M4 (y2 + 1) _ _ _ h hwf hok hext0 hP hD hS (lv_sub hl [1, 2, 0] rfl)
      have h := if_t c6 h
      refine lv_iconst (v := 0) hx hb d_Explorer_explore_165 (by decide) ?_
      exact al_reti h hx hb hr hlocks hwf hok hext0 hP hK hD hS d_Explorer_explore_166
    have h := if_f c1 h
    refine lv_iload_n hx hb d_Explorer_explore_149 rfl (lv_at hl 3 rfl) ?_
    exact al_reti h hx hb hr hlocks hwf hok hext0 hP hK hD hS d_Explorer_explore_150
  have b_144 : ∀ (k16 : me_M → Int32 → Option (me_M × Int32)) (hk16 : ∀ (ad : Nat → Nat → Nat) (N : Nat → Nat) (M : me_M) (y2 : Int32) (H : Heap) (locs : List Loc) (ls : Array Slot), k16 M y2 = (some (MZ, RZ)) → me_wf N M → me_ok N0 N → (∀ a b, b < N0 a → ad a b = ad0 a b) → va_P D classes (me_W ad ca M) H → va_D A (me_W ad ca M) → va_S A s.heap H locs → lv_has ls 4 [(0, .ref (ad 4 j0)), (1, .int x1), (2, .int y2)] → W p l e (rm_Explorer_explore N0) s m [.ref (ad0 4 j0), .int x1].toArray below meth c H locs (me_cN N - me_cN N0) (me_sN N - me_sN N0) (MQ below (q_Explorer_explore D ad0 ca N0 MZ RZ A) [.ref (ad0 4 j0), .int x1].toArray s (me_cN (mN MZ) - me_cN N0) (me_sN (mN MZ) - me_sN N0) A) (F0 m 16 ls [])), ∀ (ad : Nat → Nat → Nat) (N : Nat → Nat) (M : me_M) (y2 : Int32) (s0 : Int32) (H : Heap) (locs : List Loc) (ls : Array Slot), f_Explorer_explore_b144 k16 j0 x1 M y2 s0 = (some (MZ, RZ)) → me_wf N M → me_ok N0 N → (∀ a b, b < N0 a → ad a b = ad0 a b) → va_P D classes (me_W ad ca M) H → va_D A (me_W ad ca M) → va_S A s.heap H locs → lv_has ls 4 [(0, .ref (ad 4 j0)), (1, .int x1), (2, .int y2)] → W p l e (rm_Explorer_explore N0) s m [.ref (ad0 4 j0), .int x1].toArray below meth c H locs (me_cN N - me_cN N0) (me_sN N - me_sN N0) (MQ below (q_Explorer_explore D ad0 ca N0 MZ RZ A) [.ref (ad0 4 j0), .int x1].toArray s (me_cN (mN MZ) - me_cN N0) (me_sN (mN MZ) - me_sN N0) A) (F0 m 144 ls [.int s0]) := by
    intro k16 hk16 ad N M y2 s0 H locs ls h hwf hok hext0 hP hD hS hl
    unfold f_Explorer_explore_b144 at h
    have hj0 : j0 < N 4 := Nat.lt_of_lt_of_le hj0 (hok.2.2.2.2 4)
    refine lv_istore_n (lv' := [(3, .int s0), (0, .ref (ad 4 j0)), (1, .int x1), (2, .int y2)]) hx hb d_Explorer_explore_144 rfl hl (by decide) rfl (fun ls hl => ?_)
    exact b_145 _ hk16 ad N M y2 s0 _ _ _ h hwf hok hext0 hP hD hS (lv_sub hl [1, 2, 3, 0] rfl)
  have b_52 : ∀ (k16 : me_M → Int32 → Option (me_M × Int32)) (hk16 : ∀ (ad : Nat → Nat → Nat) (N : Nat → Nat) (M : me_M) (y2 : Int32) (H : Heap) (locs : List Loc) (ls : Array Slot), k16 M y2 = (some (MZ, RZ)) → me_wf N M → me_ok N0 N → (∀ a b, b < N0 a → ad a b = ad0 a b) → va_P D classes (me_W ad ca M) H → va_D A (me_W ad ca M) → va_S A s.heap H locs → lv_has ls 4 [(0, .ref (ad 4 j0)), (1, .int x1), (2, .int y2)] → W p l e (rm_Explorer_explore N0) s m [.ref (ad0 4 j0), .int x1].toArray below meth c H locs (me_cN N - me_cN N0) (me_sN N - me_sN N0) (MQ below (q_Explorer_explore D ad0 ca N0 MZ RZ A) [.ref (ad0 4 j0), .int x1].toArray s (me_cN (mN MZ) - me_cN N0) (me_sN (mN MZ) - me_sN N0) A) (F0 m 16 ls [])), ∀ (ad : Nat → Nat → Nat) (N : Nat → Nat) (M : me_M) (y2 : Int32) (s0 : Int32) (H : Heap) (locs : List Loc) (ls : Array Slot), f_Explorer_explore_b52 k16 j0 x1 M y2 s0 = (some (MZ, RZ)) → me_wf N M → me_ok N0 N → (∀ a b, b < N0 a → ad a b = ad0 a b) → va_P D classes (me_W ad ca M) H → va_D A (me_W ad ca M) → va_S A s.heap H locs → lv_has ls 4 [(0, .ref (ad 4 j0)), (1, .int x1), (2, .int y2)] → W p l e (rm_Explorer_explore N0) s m [.ref (ad0 4 j0), .int x1].toArray below meth c H locs (me_cN N - me_cN N0) (me_sN N - me_sN N0) (MQ below (q_Explorer_explore D ad0 ca N0 MZ RZ A) [.ref (ad0 4 j0), .int x1].toArray s (me_cN (mN MZ) - me_cN N0) (me_sN (mN MZ) - me_sN N0) A) (F0 m 52 ls [.int s0]) := by
    intro k16 hk16 ad N M y2 s0 H locs ls h hwf hok hext0 hP hD hS hl
    unfold f_Explorer_explore_b52 at h
    have hj0 : j0 < N 4 := Nat.lt_of_lt_of_le hj0 (hok.2.2.2.2 4)
    refine lv_istore_n (lv' := [(3, .int s0), (0, .ref (ad 4 j0)), (1, .int x1), (2, .int y2)]) hx hb d_Explorer_explore_52 rfl hl (by decide) rfl (fun ls hl => ?_)
    refine lv_iload_n hx hb d_Explorer_explore_53 rfl (lv_at hl 0 rfl) ?_
    refine lv_if_ne (tgt := 145) hx hb d_Explorer_explore_54 (by decide) (fun c7 => ?_) (fun c7 => ?_)
    · have h := if_f c7 h
      exact b_145 _ hk16 ad N M y2 s0 _ _ _ h hwf hok hext0 hP hD hS (lv_sub hl [1, 2, 3, 0] rfl)
    have h := if_t c7 h
    refine lv_aload_n hx hb d_Explorer_explore_57 rfl (lv_at hl 1 rfl) ?_
    refine g_Explorer_10 hx hb hts hown hK hP hwf hj0 (hts _ u_556) d_Explorer_explore_58 ?_
    have z8 := (hwf.2.2.2 4 j0 10 rfl)
    refine lv_if_ne (tgt := 145) hx hb d_Explorer_explore_61 (by decide) (fun c9 => ?_) (fun c9 => ?_)
    · have h := if_f c9 h
      exact b_145 _ hk16 ad N M y2 s0 _ _ _ h hwf hok hext0 hP hD hS (lv_sub hl [1, 2, 3, 0] rfl)
    have h := if_t c9 h
    refine lv_aload_n hx hb d_Explorer_explore_64 rfl (lv_at hl 1 rfl) ?_
    refine g_Explorer_12 hx hb hts hown hK hP hwf hj0 (hts _ u_559) d_Explorer_explore_65 ?_
    refine lv_iload_n hx hb d_Explorer_explore_68 rfl (lv_at hl 2 rfl) ?_
    refine lv_icmp_lt (tgt := 75) hx hb d_Explorer_explore_69 (by decide) (fun c10 => ?_) (fun c10 => ?_)
    · have h := if_t c10 h
      refine lv_aload_n hx hb d_Explorer_explore_75 rfl (lv_at hl 1 rfl) ?_
      refine lv_dup hx hb d_Explorer_explore_76 rfl ?_
      refine g_Explorer_12 hx hb hts hown hK hP hwf hj0 (hts _ u_559) d_Explorer_explore_77 ?_
      refine lv_iconst (v := 1) hx hb d_Explorer_explore_80 (by decide) ?_
      refine lv_iadd hx hb d_Explorer_explore_81 ?_
      obtain ⟨M11, eM11, h⟩ := st_ob h
      refine p_Explorer_12 eM11 hx hb hts hown hK hP hD hwf hS hj0 (hts _ u_559) d_Explorer_explore_82 (fun H locs hP hD hwf hS => ?_)
      refine lv_aload_n hx hb d_Explorer_explore_85 rfl (lv_at hl 1 rfl) ?_
      refine g_Explorer_1 hx hb hts hown hK hP hwf hj0 (hts _ u_547) d_Explorer_explore_86 ?_
      obtain ⟨j12, e13, h⟩ := bd_ob h
      have hj12 : j12 < N 3 := (hwf.2.1 4 j0 1 _ e13 (by decide) hj0)
      refine me_opt (j := j12) e13 ?_
      refine lv_aload_n hx hb d_Explorer_explore_89 rfl (lv_at hl 1 rfl) ?_
      refine g_Explorer_8 hx hb hts hown hK hP hwf hj0 (hts _ u_554) d_Explorer_explore_90 ?_
      obtain ⟨j14, e15, h⟩ := bd_ob h
      have hj14 : j14 < N 9 := (hwf.2.1 4 j0 8 _ e15 (by decide) hj0)
      refine me_opt (j := j14) e15 ?_
      refine g_State_2 hx hb hts hown hK hP hwf hj14 (hts _ u_531) d_Explorer_explore_93 ?_
      obtain ⟨M16, eM16, h⟩ := bd_ob h
      refine me_thenv0 (M1 := M16) (me_runV (C := "FilterGuard$Facts") (As := [.int (mI M11 9 j14 2)]) (rest := []) ⟨hx, hb, hml, hown, hts⟩ (c_Facts_visit l D ad ca N M11 M16 j12 (mI M11 9 j14 2) eM16 hwf hj12 _) rfl (by show fg_nm y_Facts_visit 1; decide +kernel) u_1086 u_1087 u_1088 u_183 u_1089 ⟨Nat.le_of_ble_eq_true rfl, Nat.le_of_ble_eq_true rfl⟩ hX hz hK hP hD hwf hS hA hj12 (by decide) rfl rfl rfl hl.1 (Nat.le_of_ble_eq_true rfl) d_Explorer_explore_96 (al_f hok)) hP hD hK hS hA rfl rfl (fun H locs hw hP hD hS => ?_)
      obtain ⟨hwf, hk9⟩ := hw
      refine lv_aload_n hx hb d_Explorer_explore_99 rfl (lv_at hl 1 rfl) ?_
      refine g_Explorer_0 hx hb hts hown hK hP hwf hj0 (hts _ u_546) d_Explorer_explore_100 ?_
      obtain ⟨j17, e18, h⟩ := bd_ob h
      have hj17 : j17 < N 2 := (hwf.2.1 4 j0 0 _ e18 (by decide) hj0)
      refine me_opt (j := j17) e18 ?_
      refine lv_aload_n hx hb d_Explorer_explore_103 rfl (lv_at hl 1 rfl) ?_
      refine g_Explorer_8 hx hb hts hown hK hP hwf hj0 (hts _ u_554) d_Explorer_explore_104 ?_
      obtain ⟨j19, e20, h⟩ := bd_ob h
      have hj19 : j19 < N 9 := (hwf.2.1 4 j0 8 _ e20 (by decide) hj0)
      refine me_opt (j := j19) e20 ?_
      refine g_State_2 hx hb hts hown hK hP hwf hj19 (hts _ u_531) d_Explorer_explore_107 ?_
      obtain ⟨M21, eM21, h⟩ := bd_ob h
      refine me_thenv0 (M1 := M21) (me_runV (C := "FilterGuard$Code") (As := [.int (mI M16 9 j19 2)]) (rest := []) ⟨hx, hb, hml, hown, hts⟩ (c_Code_look l D ad ca N M16 M21 j17 (mI M16 9 j19 2) eM21 hwf hj17 _) rfl (by show fg_nm y_Code_look 1; decide +kernel) u_1090 u_958 u_959 u_182 u_960 ⟨Nat.le_of_ble_eq_true rfl, Nat.le_of_ble_eq_true rfl⟩ hX hz hK hP hD hwf hS hA hj17 (by decide) rfl rfl rfl hl.1 (Nat.le_of_ble_eq_true rfl) d_Explorer_explore_110 (al_f hok)) hP hD hK hS hA rfl rfl (fun H locs hw hP hD hS => ?_)
      obtain ⟨hwf, hk9⟩ := hw
      refine lv_aload_n hx hb d_Explorer_explore_113 rfl (lv_at hl 1 rfl) ?_
      refine g_Explorer_2 hx hb hts hown hK hP hwf hj0 (hts _ u_548) d_Explorer_explore_114 ?_
      obtain ⟨j22, e23, h⟩ := bd_ob h
      have hj22 : j22 < N 7 := (hwf.2.1 4 j0 2 _ e23 (by decide) hj0)
      refine me_opt (j := j22) e23 ?_
      refine lv_aload_n hx hb d_Explorer_explore_117 rfl (lv_at hl 1 rfl) ?_
      refine g_Explorer_8 hx hb hts hown hK hP hwf hj0 (hts _ u_554) d_Explorer_explore_118 ?_
      obtain ⟨j24, e25, h⟩ := bd_ob h
      have hj24 : j24 < N 9 := (hwf.2.1 4 j0 8 _ e25 (by decide) hj0)
      refine me_opt (j := j24) e25 ?_
      obtain ⟨M26, r27, eM26, h⟩ := b2_ob h
      refine me_theni0 (M1 := M26) (me_runV (C := "FilterGuard$Steps") (As := [.ref (ad 9 j24)]) (rest := []) ⟨hx, hb, hml, hown, hts⟩ (c_Steps_take l D ad ca N M21 M26 r27 j22 j24 eM26 hwf hj22 hj24 _) rfl (by show fg_nm y_Steps_take 1; decide +kernel) u_1091 u_1092 u_1093 u_185 u_1094 ⟨Nat.le_of_ble_eq_true rfl, Nat.le_of_ble_eq_true rfl⟩ hX hz hK hP hD hwf hS hA hj22 (by decide) rfl rfl rfl hl.1 (Nat.le_of_ble_eq_true rfl) d_Explorer_explore_121 (al_f hok)) hP hD hK hS hA rfl rfl (fun H locs hw hP hD hS => ?_)
      obtain ⟨hwf, hk9⟩ := hw
      refine lv_istore_n (lv' := [(3, .int r27), (0, .ref (ad 4 j0)), (1, .int x1), (2, .int y2)]) hx hb d_Explorer_explore_124 rfl hl (by decide) rfl (fun ls hl => ?_)
      refine lv_iload_n hx hb d_Explorer_explore_125 rfl (lv_at hl 0 rfl) ?_
      refine lv_if_ne (tgt := 143) hx hb d_Explorer_explore_126 (by decide) (fun c28 => ?_) (fun c28 => ?_)
      · have h := if_f c28 h
        refine lv_iload_n hx hb d_Explorer_explore_143 rfl (lv_at hl 0 rfl) ?_
        exact b_144 _ hk16 ad N M26 y2 r27 _ _ _ h hwf hok hext0 hP hD hS (lv_sub hl [1, 2, 3] rfl)
      have h := if_t c28 h
      refine lv_aload_n hx hb d_Explorer_explore_129 rfl (lv_at hl 1 rfl) ?_
      refine lv_aload_n hx hb d_Explorer_explore_130 rfl (lv_at hl 1 rfl) ?_
      refine g_Explorer_8 hx hb hts hown hK hP hwf hj0 (hts _ u_554) d_Explorer_explore_131 ?_
      obtain ⟨j29, e30, h⟩ := bd_ob h
      have hj29 : j29 < N 9 := (hwf.2.1 4 j0 8 _ e30 (by decide) hj0)
      refine me_opt (j := j29) e30 ?_
      refine g_State_2 hx hb hts hown hK hP hwf hj29 (hts _ u_531) d_Explorer_explore_134 ?_
      obtain ⟨M31, r32, eM31, h⟩ := b2_ob h
      refine al_theni (M1 := M31) (al_runV (C := "FilterGuard$Explorer") (As := [.int (mI M26 9 j29 2)]) (rest := []) ⟨hx, hb, hml, hown, hts⟩ (c_Explorer_goOn l D ad ca N M26 M31 r32 j0 (mI M26 9 j29 2) eM31 hwf ⟨hok.2.2.1, hok.2.2.2.1⟩ hj0 _) rfl (by show fg_nm y_Explorer_goOn 1; decide +kernel) u_1410 u_1412 u_53 u_184 u_1413 ⟨Nat.le_of_ble_eq_true rfl, Nat.le_of_ble_eq_true rfl⟩ hX hz hK hP hD hwf hS hA hj0 (by decide) rfl rfl rfl hl.1 (Nat.le_of_ble_eq_true rfl) d_Explorer_explore_137 (al_g hok)) hP hD hok hK hS hA (fun ad N H locs hext hNN hwf hok1 heN hq9 hP hD hS => ?_)
      have hext0 := al_ext hext hext0 hok
      have hok := hok1
      have hl : lv_has ls 4 [(3, .int r27), (0, .ref (ad 4 j0)), (1, .int x1), (2, .int y2)] := by rw [hext 4 j0 hj0]; exact hl
      have hj0 : j0 < N 4 := Nat.lt_of_lt_of_le hj0 (hNN 4)
      refine lv_goto (tgt := 144) hx hb d_Explorer_explore_140 (by decide) ?_
      exact b_144 _ hk16 ad N M31 y2 r32 _ _ _ h hwf hok hext0 hP hD hS (lv_sub hl [1, 2, 3] rfl)
    have h := if_f c10 h
    refine lv_bipush (v := 20) hx hb d_Explorer_explore_72 (by decide) ?_
    exact al_reti h hx hb hr hlocks hwf hok hext0 hP hK hD hS d_Explorer_explore_74
  have b_16 : ∀ (fu : Nat), ∀ (ad : Nat → Nat → Nat) (N : Nat → Nat) (M : me_M) (y2 : Int32) (H : Heap) (locs : List Loc) (ls : Array Slot), f_Explorer_explore_l16 j0 x1 fu M y2 = (some (MZ, RZ)) → me_wf N M → me_ok N0 N → (∀ a b, b < N0 a → ad a b = ad0 a b) → va_P D classes (me_W ad ca M) H → va_D A (me_W ad ca M) → va_S A s.heap H locs → lv_has ls 4 [(0, .ref (ad 4 j0)), (1, .int x1), (2, .int y2)] → W p l e (rm_Explorer_explore N0) s m [.ref (ad0 4 j0), .int x1].toArray below meth c H locs (me_cN N - me_cN N0) (me_sN N - me_sN N0) (MQ below (q_Explorer_explore D ad0 ca N0 MZ RZ A) [.ref (ad0 4 j0), .int x1].toArray s (me_cN (mN MZ) - me_cN N0) (me_sN (mN MZ) - me_sN N0) A) (F0 m 16 ls []) := by
    intro fu
    induction fu with
    | zero =>
      intro ad N M y2 H locs ls h hwf hok hext0 hP hD hS hl
      cases h
    | succ fu ih =>
      intro ad N M y2 H locs ls h hwf hok hext0 hP hD hS hl
      unfold f_Explorer_explore_l16 at h
      have hj0 : j0 < N 4 := Nat.lt_of_lt_of_le hj0 (hok.2.2.2.2 4)
      refine lv_iload_n hx hb d_Explorer_explore_16 rfl (lv_at hl 2 rfl) ?_
      refine lv_ldc hx hb hown (hts _ u_1040) d_Explorer_explore_17 ?_
      refine lv_icmp_ge (tgt := 173) hx hb d_Explorer_explore_19 (by decide) (fun c33 => ?_) (fun c33 => ?_)
      · have h := if_t c33 h
        refine lv_bipush (v := 20) hx hb d_Explorer_explore_173 (by decide) ?_
        exact al_reti h hx hb hr hlocks hwf hok hext0 hP hK hD hS d_Explorer_explore_175
      have h := if_f c33 h
      refine lv_aload_n hx hb d_Explorer_explore_22 rfl (lv_at hl 0 rfl) ?_
      refine lv_iconst (v := 0) hx hb d_Explorer_explore_23 (by decide) ?_
      obtain ⟨M34, eM34, h⟩ := st_ob h
      refine p_Explorer_10 eM34 hx hb hts hown hK hP hD hwf hS hj0 (by decide) (hts _ u_556) d_Explorer_explore_24 (fun H locs hP hD hwf hS => ?_)
      refine lv_aload_n hx hb d_Explorer_explore_27 rfl (lv_at hl 0 rfl) ?_
      refine g_Explorer_0 hx hb hts hown hK hP hwf hj0 (hts _ u_546) d_Explorer_explore_28 ?_
      obtain ⟨j35, e36, h⟩ := bd_ob h
      have hj35 : j35 < N 2 := (hwf.2.1 4 j0 0 _ e36 (by decide) hj0)
      refine me_opt (j := j35) e36 ?_
      refine lv_aload_n hx hb d_Explorer_explore_31 rfl (lv_at hl 0 rfl) ?_
      refine g_Explorer_8 hx hb hts hown hK hP hwf hj0 (hts _ u_554) d_Explorer_explore_32 ?_
      obtain ⟨j37, e38, h⟩ := bd_ob h
      have hj37 : j37 < N 9 := (hwf.2.1 4 j0 8 _ e38 (by decide) hj0)
      refine me_opt (j := j37) e38 ?_
      refine g_State_2 hx hb hts hown hK hP hwf hj37 (hts _ u_531) d_Explorer_explore_35 ?_
      obtain ⟨M39, r40, eM39, h⟩ := b2_ob h
      refine me_theni0 (M1 := M39) (me_runV (C := "FilterGuard$Code") (As := [.int (mI M34 9 j37 2)]) (rest := []) ⟨hx, hb, hml, hown, hts⟩ (c_Code_isMarkAt l D ad ca N M34 M39 r40 j35 (mI M34 9 j37 2) eM39 hwf hj35 _) rfl (by show fg_nm y_Code_isMarkAt 1; decide +kernel) u_1041 u_1042 u_1043 u_182 u_1044 ⟨Nat.le_of_ble_eq_true rfl, Nat.le_of_ble_eq_true rfl⟩ hX hz hK hP hD hwf hS hA hj35 (by decide) rfl rfl rfl hl.1 (Nat.le_of_ble_eq_true rfl) d_Explorer_explore_38 (al_f hok)) hP hD hK hS hA rfl rfl (fun H locs hw hP hD hS => ?_)
      obtain ⟨hwf, hk9, zr40⟩ := hw
      refine lv_if_eq (tgt := 51) hx hb d_Explorer_explore_41 (by decide) (fun c41 => ?_) (fun c41 => ?_)
      · have h := if_t c41 h
        refine lv_iconst (v := 0) hx hb d_Explorer_explore_51 (by decide) ?_
        exact b_52 _ ih ad N M39 y2 (0 : Int32) _ _ _ h hwf hok hext0 hP hD hS (lv_sub hl [0, 1, 2] rfl)
      have h := if_f c41 h
      refine lv_aload_n hx hb d_Explorer_explore_44 rfl (lv_at hl 0 rfl) ?_
      obtain ⟨M42, r43, eM42, h⟩ := b2_ob h
      refine al_theni (M1 := M42) (al_runV (C := "FilterGuard$Explorer") (As := []) (rest := []) ⟨hx, hb, hml, hown, hts⟩ (c_Explorer_meetKept l D ad ca N M39 M42 r43 j0 eM42 hwf ⟨hok.2.2.1, hok.2.2.2.1⟩ hj0 _) rfl (by show fg_nm y_Explorer_meetKept 0; decide +kernel) u_1045 u_1047 u_13 u_184 u_1048 ⟨Nat.le_of_ble_eq_true rfl, Nat.le_of_ble_eq_true rfl⟩ hX hz hK hP hD hwf hS hA hj0 (by decide) rfl rfl rfl hl.1 (Nat.le_of_ble_eq_true rfl) d_Explorer_explore_45 (al_g hok)) hP hD hok hK hS hA (fun ad N H locs hext hNN hwf hok1 heN hq9 hP hD hS => ?_)
      have hext0 := al_ext hext hext0 hok
      have hok := hok1
      have hl : lv_has ls 4 [(0, .ref (ad 4 j0)), (1, .int x1), (2, .int y2)] := by rw [hext 4 j0 hj0]; exact hl
      have hj0 : j0 < N 4 := Nat.lt_of_lt_of_le hj0 (hNN 4)
      refine lv_goto (tgt := 52) hx hb d_Explorer_explore_48 (by decide) ?_
      exact b_52 _ ih ad N M42 y2 r43 _ _ _ h hwf hok hext0 hP hD hS (lv_sub hl [0, 1, 2] rfl)
  obtain ⟨ad, N, hext0, hok, hwf, hP, hD, hN9, had9, hj0⟩ : ∃ (ad : Nat → Nat → Nat) (N : Nat → Nat), (∀ a b, b < N0 a → ad a b = ad0 a b) ∧ me_ok N0 N ∧ me_wf N M0 ∧ va_P D classes (me_W ad ca M0) s.heap ∧ va_D A (me_W ad ca M0) ∧ N = N0 ∧ ad = ad0 ∧ j0 < N 4 := ⟨ad0, N0, fun _ _ _ => rfl, hok, hwf, hP, hD, rfl, rfl, hj0⟩
  have hl : lv_has ls 4 [(0, .ref (ad 4 j0)), (1, .int x1)] := by rw [had9]; exact hl
  have hcs : W p l e (rm_Explorer_explore N0) s m [.ref (ad0 4 j0), .int x1].toArray below meth c s.heap [] (me_cN N - me_cN N0) (me_sN N - me_sN N0) (MQ below (q_Explorer_explore D ad0 ca N0 MZ RZ A) [.ref (ad0 4 j0), .int x1].toArray s (me_cN (mN MZ) - me_cN N0) (me_sN (mN MZ) - me_sN N0) A) (F0 m 0 ls []) := by
    clear had9
    refine lv_aload_n hx hb d_Explorer_explore_0 rfl (lv_at hl 0 rfl) ?_
    refine g_Explorer_2 hx hb hts hown hK hP hwf hj0 (hts _ u_548) d_Explorer_explore_1 ?_
    obtain ⟨j44, e45, h⟩ := bd_ob h
    have hj44 : j44 < N 7 := (hwf.2.1 4 j0 2 _ e45 (by decide) hj0)
    refine me_opt (j := j44) e45 ?_
    obtain ⟨M46, eM46, h⟩ := bd_ob h
    refine me_thenv0 (M1 := M46) (me_runV (C := "FilterGuard$Steps") (As := []) (rest := []) ⟨hx, hb, hml, hown, hts⟩ (c_Steps_begin l D ad ca N M0 M46 j44 eM46 hwf hj44 _) rfl (by show fg_nm y_Steps_begin 0; decide +kernel) u_1016 u_1017 u_1018 u_185 u_1019 ⟨Nat.le_of_ble_eq_true rfl, Nat.le_of_ble_eq_true rfl⟩ hX hz hK hP hD hwf hS hA hj44 (by decide) rfl rfl rfl hl.1 (Nat.le_of_ble_eq_true rfl) d_Explorer_explore_4 (al_f hok)) hP hD hK hS hA rfl rfl (fun H locs hw hP hD hS => ?_)
    obtain ⟨hwf, hk9⟩ := hw
    refine lv_aload_n hx hb d_Explorer_explore_7 rfl (lv_at hl 0 rfl) ?_
    refine g_Explorer_8 hx hb hts hown hK hP hwf hj0 (hts _ u_554) d_Explorer_explore_8 ?_
    obtain ⟨j47, e48, h⟩ := bd_ob h
    have hj47 : j47 < N 9 := (hwf.2.1 4 j0 8 _ e48 (by decide) hj0)
    refine me_opt (j := j47) e48 ?_
    obtain ⟨M49, eM49, h⟩ := bd_ob h
    refine me_thenv0 (M1 := M49) (me_runV (C := "FilterGuard$State") (As := []) (rest := []) ⟨hx, hb, hml, hown, hts⟩ (c_State_atFirst l D ad ca N M46 M49 j47 eM49 hwf hj47 _) rfl (by show fg_nm y_State_atFirst 0; decide +kernel) u_1020 u_1021 u_1022 u_189 u_1023 ⟨Nat.le_of_ble_eq_true rfl, Nat.le_of_ble_eq_true rfl⟩ hX hz hK hP hD hwf hS hA hj47 (by decide) rfl rfl rfl hl.1 (Nat.le_of_ble_eq_true rfl) d_Explorer_explore_11 (al_f hok)) hP hD hK hS hA rfl rfl (fun H locs hw hP hD hS => ?_)
    obtain ⟨hwf, hk9⟩ := hw
    refine lv_iconst (v := 0) hx hb d_Explorer_explore_14 (by decide) ?_
    refine lv_istore_n (lv' := [(2, .int 0), (0, .ref (ad 4 j0)), (1, .int x1)]) hx hb d_Explorer_explore_15 rfl hl (by decide) rfl (fun ls hl => ?_)
    exact b_16 _ ad N M49 (0 : Int32) _ _ _ h hwf hok hext0 hP hD hS (lv_sub hl [1, 2, 0] rfl)
  rw [hN9] at hcs
  exact hcs
theorem d_Explorer_place_0 : decode prog_5_method_3_code 0 = .ok (.aload_n 0, 1) := by decide +kernel
theorem d_Explorer_place_1 : decode prog_5_method_3_code 1 = .ok (.getfield 45, 3) := by decide +kernel
theorem d_Explorer_place_4 : decode prog_5_method_3_code 4 = .ok (.getfield 65, 3) := by decide +kernel
theorem d_Explorer_place_7 : decode prog_5_method_3_code 7 = .ok (.ireturn, 1) := by decide +kernel
abbrev y_Explorer_place : MethodName := ⟨"FilterGuard$Explorer", "place", "()I"⟩
def rm_Explorer_place : Room := { frames := 1, cells := 0, slots := 0, locals := 20 }
abbrev q_Explorer_place (D : va_G) (ad : Nat → Nat → Nat) (ca : Nat → ClassId) (N : Nat → Nat) (M0 MZ : me_M) (RZ : Int32) (A : Nat → Prop) : Array Value → Jvm.State → Outcome → Jvm.State → Prop := va_Qi (fun r (_ : Unit) => r = RZ ∧ me_wf N MZ ∧ me_kp M0 MZ) (fg_B D A (fun _ => me_W ad ca MZ) (fun _ => [])) A
set_option maxHeartbeats 4000000 in
set_option maxRecDepth 100000 in
theorem c_Explorer_place (l : Launch) (D : va_G) (ad : Nat → Nat → Nat) (ca : Nat → ClassId) (N : Nat → Nat) (M0 MZ : me_M) (RZ : Int32) (j0 : Nat) (h : f_Explorer_place M0 j0 = (some (MZ, RZ))) (hwf : me_wf N M0) (hj0 : j0 < N 4) (sz : Nat) : Met l y_Explorer_place (fg_w y_Explorer_place prog_5_method_3_code 1 (some .int)) rm_Explorer_place (va_Pc [.ref (ad 4 j0)] (fz_P D (me_T ca) (me_W ad ca M0) sz)) (q_Explorer_place D ad ca N M0 MZ RZ (va_A (me_W ad ca M0) sz)) rm_Explorer_place.cells rm_Explorer_place.slots (va_A (me_W ad ca M0) sz) := by
  refine fz_enter (fun A => q_Explorer_place D ad ca N M0 MZ RZ A) (by decide +kernel) (Nat.le_of_ble_eq_true rfl) ?_
  intro p e s m below meth c ls A hx hb hml hown hts hr hlocks hin hP hK hD hS hA hX hl hz
  have hl : lv_has ls 1 [(0, .ref (ad 4 j0))] := hl
  unfold f_Explorer_place at h
  have hkp : me_kp M0 M0 := me_kp.rf
  have hkb := hkp
  refine lv_aload_n hx hb d_Explorer_place_0 rfl (lv_at hl 0 rfl) ?_
  refine g_Explorer_8 hx hb hts hown hK hP hwf hj0 (hts _ u_554) d_Explorer_place_1 ?_
  obtain ⟨j1, e2, h⟩ := bd_ob h
  have hj1 : j1 < N 9 := (hwf.2.1 4 j0 8 _ e2 (by decide) hj0)
  refine me_opt (j := j1) e2 ?_
  refine g_State_2 hx hb hts hown hK hP hwf hj1 (hts _ u_531) d_Explorer_place_4 ?_
  exact me_reti (me_kp M0) h hx hb hr hlocks hwf hkp hP hK hD hS d_Explorer_place_7
theorem d_Facts_changed_44 : decode prog_6_method_8_code 44 = .ok (.aload_n 0, 1) := by decide +kernel
theorem d_Facts_changed_45 : decode prog_6_method_8_code 45 = .ok (.getfield 25, 3) := by decide +kernel
theorem d_Facts_changed_48 : decode prog_6_method_8_code 48 = .ok (.iload_n 2, 1) := by decide +kernel
theorem d_Facts_changed_49 : decode prog_6_method_8_code 49 = .ok (.laload, 1) := by decide +kernel
theorem d_Facts_changed_50 : decode prog_6_method_8_code 50 = .ok (.lstore_n 3, 1) := by decide +kernel
theorem d_Facts_changed_51 : decode prog_6_method_8_code 51 = .ok (.aload_n 1, 1) := by decide +kernel
theorem d_Facts_changed_52 : decode prog_6_method_8_code 52 = .ok (.getfield 67, 3) := by decide +kernel
theorem u_255 : Cond.fieldLink "FilterGuard$Facts" 67 "FilterGuard$Code" "family" "I" ∈ fg_g := fg_in (List.mem_of_getElem? (i := 255) (by decide +kernel)) rfl
theorem d_Facts_changed_55 : decode prog_6_method_8_code 55 = .ok (.bipush 6, 2) := by decide +kernel
theorem d_Facts_changed_57 : decode prog_6_method_8_code 57 = .ok (.if_icmp .ne 39, 3) := by decide +kernel
theorem d_Facts_changed_96 : decode prog_6_method_8_code 96 = .ok (.aload_n 1, 1) := by decide +kernel
theorem d_Facts_changed_97 : decode prog_6_method_8_code 97 = .ok (.getfield 70, 3) := by decide +kernel
theorem u_221 : Cond.fieldLink "FilterGuard$Facts" 70 "FilterGuard$Code" "slots" "[J" ∈ fg_g := fg_in (List.mem_of_getElem? (i := 221) (by decide +kernel)) rfl
theorem d_Facts_changed_100 : decode prog_6_method_8_code 100 = .ok (.iload_n 2, 1) := by decide +kernel
theorem d_Facts_changed_101 : decode prog_6_method_8_code 101 = .ok (.laload, 1) := by decide +kernel
theorem d_Facts_changed_102 : decode prog_6_method_8_code 102 = .ok (.lreturn, 1) := by decide +kernel
theorem d_Facts_changed_60 : decode prog_6_method_8_code 60 = .ok (.aload_n 0, 1) := by decide +kernel
theorem d_Facts_changed_61 : decode prog_6_method_8_code 61 = .ok (.getfield 22, 3) := by decide +kernel
theorem d_Facts_changed_64 : decode prog_6_method_8_code 64 = .ok (.iload_n 2, 1) := by decide +kernel
theorem d_Facts_changed_65 : decode prog_6_method_8_code 65 = .ok (.iaload, 1) := by decide +kernel
theorem d_Facts_changed_66 : decode prog_6_method_8_code 66 = .ok (.iconst 1, 1) := by decide +kernel
theorem d_Facts_changed_67 : decode prog_6_method_8_code 67 = .ok (.if_icmp .ne 29, 3) := by decide +kernel
theorem d_Facts_changed_70 : decode prog_6_method_8_code 70 = .ok (.lload_n 3, 1) := by decide +kernel
theorem d_Facts_changed_71 : decode prog_6_method_8_code 71 = .ok (.lload_n 3, 1) := by decide +kernel
theorem d_Facts_changed_72 : decode prog_6_method_8_code 72 = .ok (.l2i, 1) := by decide +kernel
theorem d_Facts_changed_73 : decode prog_6_method_8_code 73 = .ok (.i2l, 1) := by decide +kernel
theorem d_Facts_changed_74 : decode prog_6_method_8_code 74 = .ok (.lcmp, 1) := by decide +kernel
theorem d_Facts_changed_75 : decode prog_6_method_8_code 75 = .ok (.ifCond .ne 21, 3) := by decide +kernel
theorem d_Facts_changed_78 : decode prog_6_method_8_code 78 = .ok (.ldc2_w 94, 3) := by decide +kernel
theorem u_1462 : Cond.constantLong "FilterGuard$Facts" 94 183 ∈ fg_g := fg_in (List.mem_of_getElem? (i := 1462) (by decide +kernel)) rfl
theorem d_Facts_changed_81 : decode prog_6_method_8_code 81 = .ok (.aload_n 1, 1) := by decide +kernel
theorem d_Facts_changed_82 : decode prog_6_method_8_code 82 = .ok (.getfield 96, 3) := by decide +kernel
theorem u_236 : Cond.fieldLink "FilterGuard$Facts" 96 "FilterGuard$Code" "to" "I" ∈ fg_g := fg_in (List.mem_of_getElem? (i := 236) (by decide +kernel)) rfl
theorem d_Facts_changed_85 : decode prog_6_method_8_code 85 = .ok (.i2l, 1) := by decide +kernel
theorem d_Facts_changed_86 : decode prog_6_method_8_code 86 = .ok (.bipush 8, 2) := by decide +kernel
theorem d_Facts_changed_88 : decode prog_6_method_8_code 88 = .ok (.lshl, 1) := by decide +kernel
theorem d_Facts_changed_89 : decode prog_6_method_8_code 89 = .ok (.lor, 1) := by decide +kernel
theorem d_Facts_changed_90 : decode prog_6_method_8_code 90 = .ok (.lload_n 3, 1) := by decide +kernel
theorem d_Facts_changed_91 : decode prog_6_method_8_code 91 = .ok (.bipush 32, 2) := by decide +kernel
theorem d_Facts_changed_93 : decode prog_6_method_8_code 93 = .ok (.lshl, 1) := by decide +kernel
theorem d_Facts_changed_94 : decode prog_6_method_8_code 94 = .ok (.lor, 1) := by decide +kernel
theorem d_Facts_changed_95 : decode prog_6_method_8_code 95 = .ok (.lreturn, 1) := by decide +kernel
theorem d_Facts_changed_0 : decode prog_6_method_8_code 0 = .ok (.aload_n 1, 1) := by decide +kernel
theorem d_Facts_changed_1 : decode prog_6_method_8_code 1 = .ok (.getfield 67, 3) := by decide +kernel
theorem d_Facts_changed_4 : decode prog_6_method_8_code 4 = .ok (.bipush 8, 2) := by decide +kernel
theorem d_Facts_changed_6 : decode prog_6_method_8_code 6 = .ok (.if_icmp .ne 38, 3) := by decide +kernel
theorem d_Facts_changed_9 : decode prog_6_method_8_code 9 = .ok (.aload_n 0, 1) := by decide +kernel
theorem d_Facts_changed_10 : decode prog_6_method_8_code 10 = .ok (.getfield 15, 3) := by decide +kernel
theorem d_Facts_changed_13 : decode prog_6_method_8_code 13 = .ok (.iload_n 2, 1) := by decide +kernel
theorem d_Facts_changed_14 : decode prog_6_method_8_code 14 = .ok (.baload, 1) := by decide +kernel
theorem d_Facts_changed_15 : decode prog_6_method_8_code 15 = .ok (.ifCond .eq 29, 3) := by decide +kernel
theorem d_Facts_changed_18 : decode prog_6_method_8_code 18 = .ok (.aload_n 0, 1) := by decide +kernel
theorem d_Facts_changed_19 : decode prog_6_method_8_code 19 = .ok (.getfield 19, 3) := by decide +kernel
theorem d_Facts_changed_22 : decode prog_6_method_8_code 22 = .ok (.iload_n 2, 1) := by decide +kernel
theorem d_Facts_changed_23 : decode prog_6_method_8_code 23 = .ok (.baload, 1) := by decide +kernel
theorem d_Facts_changed_24 : decode prog_6_method_8_code 24 = .ok (.ifCond .ne 20, 3) := by decide +kernel
theorem d_Facts_changed_27 : decode prog_6_method_8_code 27 = .ok (.ldc2_w 87, 3) := by decide +kernel
theorem u_1460 : Cond.constantLong "FilterGuard$Facts" 87 5 ∈ fg_g := fg_in (List.mem_of_getElem? (i := 1460) (by decide +kernel)) rfl
theorem d_Facts_changed_30 : decode prog_6_method_8_code 30 = .ok (.aload_n 1, 1) := by decide +kernel
theorem d_Facts_changed_31 : decode prog_6_method_8_code 31 = .ok (.getfield 89, 3) := by decide +kernel
theorem u_243 : Cond.fieldLink "FilterGuard$Facts" 89 "FilterGuard$Code" "offset" "I" ∈ fg_g := fg_in (List.mem_of_getElem? (i := 243) (by decide +kernel)) rfl
theorem d_Facts_changed_34 : decode prog_6_method_8_code 34 = .ok (.i2l, 1) := by decide +kernel
theorem d_Facts_changed_35 : decode prog_6_method_8_code 35 = .ok (.ldc2_w 92, 3) := by decide +kernel
theorem u_1461 : Cond.constantLong "FilterGuard$Facts" 92 65535 ∈ fg_g := fg_in (List.mem_of_getElem? (i := 1461) (by decide +kernel)) rfl
theorem d_Facts_changed_38 : decode prog_6_method_8_code 38 = .ok (.land, 1) := by decide +kernel
theorem d_Facts_changed_39 : decode prog_6_method_8_code 39 = .ok (.bipush 16, 2) := by decide +kernel
theorem d_Facts_changed_41 : decode prog_6_method_8_code 41 = .ok (.lshl, 1) := by decide +kernel
theorem d_Facts_changed_42 : decode prog_6_method_8_code 42 = .ok (.lor, 1) := by decide +kernel
theorem d_Facts_changed_43 : decode prog_6_method_8_code 43 = .ok (.lreturn, 1) := by decide +kernel
abbrev y_Facts_changed : MethodName := ⟨"FilterGuard$Facts", "changed", "(LFilterGuard$Code;I)J"⟩
def rm_Facts_changed : Room := { frames := 1, cells := 0, slots := 0, locals := 20 }
abbrev q_Facts_changed (D : va_G) (ad : Nat → Nat → Nat) (ca : Nat → ClassId) (N : Nat → Nat) (M0 MZ : me_M) (RZ : Int64) (A : Nat → Prop) : Array Value → Jvm.State → Outcome → Jvm.State → Prop := va_Ql (fun r (_ : Unit) => r = RZ ∧ me_wf N MZ ∧ me_kp M0 MZ) (fg_B D A (fun _ => me_W ad ca MZ) (fun _ => [])) A
set_option maxHeartbeats 4000000 in
set_option maxRecDepth 100000 in
theorem c_Facts_changed (l : Launch) (D : va_G) (ad : Nat → Nat → Nat) (ca : Nat → ClassId) (N : Nat → Nat) (M0 MZ : me_M) (RZ : Int64) (j0 : Nat) (j1 : Nat) (x2 : Int32) (h : f_Facts_changed M0 j0 j1 x2 = (some (MZ, RZ))) (hwf : me_wf N M0) (hj0 : j0 < N 3) (hj1 : j1 < N 2) (sz : Nat) : Met l y_Facts_changed (fg_w y_Facts_changed prog_6_method_8_code 5 (some .long)) rm_Facts_changed (va_Pc [.ref (ad 3 j0), .ref (ad 2 j1), .int x2] (fz_P D (me_T ca) (me_W ad ca M0) sz)) (q_Facts_changed D ad ca N M0 MZ RZ (va_A (me_W ad ca M0) sz)) rm_Facts_changed.cells rm_Facts_changed.slots (va_A (me_W ad ca M0) sz) := by
  refine fz_enter (fun A => q_Facts_changed D ad ca N M0 MZ RZ A) (by decide +kernel) (Nat.le_of_ble_eq_true rfl) ?_
  intro p e s m below meth c ls A hx hb hml hown hts hr hlocks hin hP hK hD hS hA hX hl hz
  have hl : lv_has ls 5 [(0, .ref (ad 3 j0)), (1, .ref (ad 2 j1)), (2, .int x2)] := hl
  unfold f_Facts_changed at h
  have hkp : me_kp M0 M0 := me_kp.rf
  have hkb := hkp
  have b_44 : ∀ (M : me_M) (H : Heap) (locs : List Loc) (ls : Array Slot), f_Facts_changed_b44 j0 j1 x2 M = (some (MZ, RZ)) → me_wf N M → me_kp M0 M → va_P D classes (me_W ad ca M) H → va_D A (me_W ad ca M) → va_S A s.heap H locs → lv_has ls 5 [(0, .ref (ad 3 j0)), (1, .ref (ad 2 j1)), (2, .int x2)] → W p l e rm_Facts_changed s m [.ref (ad 3 j0), .ref (ad 2 j1), .int x2].toArray below meth c H locs 0 0 (MQ below (q_Facts_changed D ad ca N M0 MZ RZ A) [.ref (ad 3 j0), .ref (ad 2 j1), .int x2].toArray s rm_Facts_changed.cells rm_Facts_changed.slots A) (F0 m 44 ls []) := by
    intro M H locs ls h hwf hkp hP hD hS hl
    unfold f_Facts_changed_b44 at h
    have hkb := hkp
    refine lv_aload_n hx hb d_Facts_changed_44 rfl (lv_at hl 0 rfl) ?_
    refine g_Facts_4 hx hb hts hown hK hP hwf hj0 (hts _ u_322) d_Facts_changed_45 ?_
    obtain ⟨j2, e3, h⟩ := bd_ob h
    have hj2 : j2 < N 16 := (hwf.2.1 3 j0 4 _ e3 (by decide) hj0)
    refine me_opt (j := j2) e3 ?_
    refine lv_iload_n hx hb d_Facts_changed_48 rfl (lv_at hl 2 rfl) ?_
    obtain ⟨g4, h⟩ := gd_ob h
    refine me_lald hx hb hK hP hwf hj2 g4 d_Facts_changed_49 ?_
    obtain ⟨v5, ev5, h⟩ := st_ob h
    refine fg_topl (y := v5) ev5.symm ?_
    refine lv_lstore_n (lv' := [(3, .long v5), (0, .ref (ad 3 j0)), (1, .ref (ad 2 j1)), (2, .int x2)]) hx hb d_Facts_changed_50 rfl hl (by decide) rfl (fun ls hl => ?_)
    refine lv_aload_n hx hb d_Facts_changed_51 rfl (lv_at hl 2 rfl) ?_
    refine g_Code_10 hx hb hts hown hK hP hwf hj1 (hts _ u_255) d_Facts_changed_52 ?_
    refine lv_bipush (v := 6) hx hb d_Facts_changed_55 (by decide) ?_
    refine lv_icmp_ne (tgt := 96) hx hb d_Facts_changed_57 (by decide) (fun c6 => ?_) (fun c6 => ?_)
    · have h := if_f c6 h
      refine lv_aload_n hx hb d_Facts_changed_96 rfl (lv_at hl 2 rfl) ?_
      refine g_Code_0 hx hb hts hown hK hP hwf hj1 (hts _ u_221) d_Facts_changed_97 ?_
      obtain ⟨j7, e8, h⟩ := bd_ob h
      have hj7 : j7 < N 16 := (hwf.2.1 2 j1 0 _ e8 (by decide) hj1)
      refine me_opt (j := j7) e8 ?_
      refine lv_iload_n hx hb d_Facts_changed_100 rfl (lv_at hl 3 rfl) ?_
      obtain ⟨g9, h⟩ := gd_ob h
      refine me_lald hx hb hK hP hwf hj7 g9 d_Facts_changed_101 ?_
      exact me_retl (me_kp M0) h hx hb hr hlocks hwf hkp hP hK hD hS d_Facts_changed_102
    have h := if_t c6 h
    refine lv_aload_n hx hb d_Facts_changed_60 rfl (lv_at hl 1 rfl) ?_
    refine g_Facts_3 hx hb hts hown hK hP hwf hj0 (hts _ u_321) d_Facts_changed_61 ?_
    obtain ⟨j10, e11, h⟩ := bd_ob h
    have hj10 : j10 < N 13 := (hwf.2.1 3 j0 3 _ e11 (by decide) hj0)
    refine me_opt (j := j10) e11 ?_
    refine lv_iload_n hx hb d_Facts_changed_64 rfl (lv_at hl 3 rfl) ?_
    obtain ⟨g12, h⟩ := gd_ob h
    refine me_iald hx hb hK hP hwf hj10 g12 d_Facts_changed_65 ?_
    refine lv_iconst (v := 1) hx hb d_Facts_changed_66 (by decide) ?_
    refine lv_icmp_ne (tgt := 96) hx hb d_Facts_changed_67 (by decide) (fun c13 => ?_) (fun c13 => ?_)
    · have h := if_f c13 h
      refine lv_aload_n hx hb d_Facts_changed_96 rfl (lv_at hl 2 rfl) ?_
      refine g_Code_0 hx hb hts hown hK hP hwf hj1 (hts _ u_221) d_Facts_changed_97 ?_
      obtain ⟨j14, e15, h⟩ := bd_ob h
      have hj14 : j14 < N 16 := (hwf.2.1 2 j1 0 _ e15 (by decide) hj1)
      refine me_opt (j := j14) e15 ?_
      refine lv_iload_n hx hb d_Facts_changed_100 rfl (lv_at hl 3 rfl) ?_
      obtain ⟨g16, h⟩ := gd_ob h
      refine me_lald hx hb hK hP hwf hj14 g16 d_Facts_changed_101 ?_
      exact me_retl (me_kp M0) h hx hb hr hlocks hwf hkp hP hK hD hS d_Facts_changed_102
    have h := if_t c13 h
    refine lv_lload_n hx hb d_Facts_changed_70 rfl (lv_at hl 0 rfl) ?_
    refine lv_lload_n hx hb d_Facts_changed_71 rfl (lv_at hl 0 rfl) ?_
    refine lv_l2i (v := v5.toInt32) hx hb d_Facts_changed_72 rfl ?_
    refine lv_i2l (v := v5.toInt32.toInt64) hx hb d_Facts_changed_73 rfl ?_
    refine W.lcmp hx hb d_Facts_changed_74 ?_
    refine lv_if_ne (tgt := 96) hx hb d_Facts_changed_75 (by decide) (fun c17 => ?_) (fun c17 => ?_)
    · have h := if_f (fun z => c17 ((lg_cmp_eq _ _).mpr z)) h
      refine lv_aload_n hx hb d_Facts_changed_96 rfl (lv_at hl 2 rfl) ?_
      refine g_Code_0 hx hb hts hown hK hP hwf hj1 (hts _ u_221) d_Facts_changed_97 ?_
      obtain ⟨j18, e19, h⟩ := bd_ob h
      have hj18 : j18 < N 16 := (hwf.2.1 2 j1 0 _ e19 (by decide) hj1)
      refine me_opt (j := j18) e19 ?_
      refine lv_iload_n hx hb d_Facts_changed_100 rfl (lv_at hl 3 rfl) ?_
      obtain ⟨g20, h⟩ := gd_ob h
      refine me_lald hx hb hK hP hwf hj18 g20 d_Facts_changed_101 ?_
      exact me_retl (me_kp M0) h hx hb hr hlocks hwf hkp hP hK hD hS d_Facts_changed_102
    have h := if_t ((lg_cmp_eq _ _).mp c17) h
    refine lv_ldc2 hx hb hown (hts _ u_1462) d_Facts_changed_78 ?_
    refine lv_aload_n hx hb d_Facts_changed_81 rfl (lv_at hl 2 rfl) ?_
    refine g_Code_6 hx hb hts hown hK hP hwf hj1 (hts _ u_236) d_Facts_changed_82 ?_
    refine lv_i2l (v := (mI M 2 j1 6).toInt64) hx hb d_Facts_changed_85 rfl ?_
    refine lv_bipush (v := 8) hx hb d_Facts_changed_86 (by decide) ?_
    refine lv_lshl (v := jlshl ((mI M 2 j1 6).toInt64) (8 : Int32)) hx hb d_Facts_changed_88 rfl ?_
    refine lv_lor hx hb d_Facts_changed_89 ?_
    refine lv_lload_n hx hb d_Facts_changed_90 rfl (lv_at hl 0 rfl) ?_
    refine lv_bipush (v := 32) hx hb d_Facts_changed_91 (by decide) ?_
    refine lv_lshl (v := jlshl v5 (32 : Int32)) hx hb d_Facts_changed_93 rfl ?_
    refine lv_lor hx hb d_Facts_changed_94 ?_
    obtain ⟨v21, ev21, h⟩ := st_ob h
    refine fg_topl (y := v21) ev21.symm ?_
    exact me_retl (me_kp M0) h hx hb hr hlocks hwf hkp hP hK hD hS d_Facts_changed_95
  refine lv_aload_n hx hb d_Facts_changed_0 rfl (lv_at hl 1 rfl) ?_
  refine g_Code_10 hx hb hts hown hK hP hwf hj1 (hts _ u_255) d_Facts_changed_1 ?_
  refine lv_bipush (v := 8) hx hb d_Facts_changed_4 (by decide) ?_
  refine lv_icmp_ne (tgt := 44) hx hb d_Facts_changed_6 (by decide) (fun c22 => ?_) (fun c22 => ?_)
  · have h := if_f c22 h
    exact b_44 M0 _ _ _ h hwf hkp hP hD hS (lv_sub hl [0, 1, 2] rfl)
  have h := if_t c22 h
  refine lv_aload_n hx hb d_Facts_changed_9 rfl (lv_at hl 0 rfl) ?_
  refine g_Facts_1 hx hb hts hown hK hP hwf hj0 (hts _ u_319) d_Facts_changed_10 ?_
  obtain ⟨j23, e24, h⟩ := bd_ob h
  have hj23 : j23 < N 15 := (hwf.2.1 3 j0 1 _ e24 (by decide) hj0)
  refine me_opt (j := j23) e24 ?_
  refine lv_iload_n hx hb d_Facts_changed_13 rfl (lv_at hl 2 rfl) ?_
  obtain ⟨g25, h⟩ := gd_ob h
  refine me_zald hx hb hK hP hwf hj23 g25 d_Facts_changed_14 ?_
  have z26 := hwf.2.2.2 15 j23 x2.toNatClampNeg rfl
  refine lv_if_eq (tgt := 44) hx hb d_Facts_changed_15 (by decide) (fun c27 => ?_) (fun c27 => ?_)
  · have h := if_t c27 h
    exact b_44 M0 _ _ _ h hwf hkp hP hD hS (lv_sub hl [0, 1, 2] rfl)
  have h := if_f c27 h
  refine lv_aload_n hx hb d_Facts_changed_18 rfl (lv_at hl 0 rfl) ?_
  refine g_Facts_2 hx hb hts hown hK hP hwf hj0 (hts _ u_320) d_Facts_changed_19 ?_
  obtain ⟨j28, e29, h⟩ := bd_ob h
  have hj28 : j28 < N 15 := (hwf.2.1 3 j0 2 _ e29 (by decide) hj0)
  refine me_opt (j := j28) e29 ?_
  refine lv_iload_n hx hb d_Facts_changed_22 rfl (lv_at hl 2 rfl) ?_
  obtain ⟨g30, h⟩ := gd_ob h
  refine me_zald hx hb hK hP hwf hj28 g30 d_Facts_changed_23 ?_
  have z31 := hwf.2.2.2 15 j28 x2.toNatClampNeg rfl
  refine lv_if_ne (tgt := 44) hx hb d_Facts_changed_24 (by decide) (fun c32 => ?_) (fun c32 => ?_)
  · have h := if_f c32 h
    exact b_44 M0 _ _ _ h hwf hkp hP hD hS (lv_sub hl [0, 1, 2] rfl)
  have h := if_t c32 h
  refine lv_ldc2 hx hb hown (hts _ u_1460) d_Facts_changed_27 ?_
  refine lv_aload_n hx hb d_Facts_changed_30 rfl (lv_at hl 1 rfl) ?_
  refine g_Code_8 hx hb hts hown hK hP hwf hj1 (hts _ u_243) d_Facts_changed_31 ?_
  refine lv_i2l (v := (mI M0 2 j1 8).toInt64) hx hb d_Facts_changed_34 rfl ?_
  refine lv_ldc2 hx hb hown (hts _ u_1461) d_Facts_changed_35 ?_
  refine lv_land hx hb d_Facts_changed_38 ?_
  refine lv_bipush (v := 16) hx hb d_Facts_changed_39 (by decide) ?_
  refine lv_lshl (v := jlshl (((mI M0 2 j1 8).toInt64) &&& 65535) (16 : Int32)) hx hb d_Facts_changed_41 rfl ?_
  refine lv_lor hx hb d_Facts_changed_42 ?_
  exact me_retl (me_kp M0) h hx hb hr hlocks hwf hkp hP hK hD hS d_Facts_changed_43
