theorem d_Explorer_isWithin_7 : decode prog_5_method_6_code 7 = .ok (.iload_n 2, 1) := by decide +kernel
theorem d_Explorer_isWithin_8 : decode prog_5_method_6_code 8 = .ok (.aload_n 1, 1) := by decide +kernel
theorem d_Explorer_isWithin_9 : decode prog_5_method_6_code 9 = .ok (.getfield 127, 3) := by decide +kernel
theorem u_528 : Cond.fieldLink "FilterGuard$Explorer" 127 "FilterGuard$State" "used" "I" ∈ fg_g := fg_in (List.mem_of_getElem? (i := 528) (by decide +kernel)) rfl
theorem d_Explorer_isWithin_12 : decode prog_5_method_6_code 12 = .ok (.if_icmp .ge 61, 3) := by decide +kernel
theorem d_Explorer_isWithin_73 : decode prog_5_method_6_code 73 = .ok (.iconst 1, 1) := by decide +kernel
theorem d_Explorer_isWithin_74 : decode prog_5_method_6_code 74 = .ok (.ireturn, 1) := by decide +kernel
theorem d_Explorer_isWithin_15 : decode prog_5_method_6_code 15 = .ok (.aload_n 1, 1) := by decide +kernel
theorem d_Explorer_isWithin_16 : decode prog_5_method_6_code 16 = .ok (.getfield 130, 3) := by decide +kernel
theorem u_526 : Cond.fieldLink "FilterGuard$Explorer" 130 "FilterGuard$State" "cells" "[LFilterGuard$Cell;" ∈ fg_g := fg_in (List.mem_of_getElem? (i := 526) (by decide +kernel)) rfl
theorem d_Explorer_isWithin_19 : decode prog_5_method_6_code 19 = .ok (.iload_n 2, 1) := by decide +kernel
theorem d_Explorer_isWithin_20 : decode prog_5_method_6_code 20 = .ok (.aaload, 1) := by decide +kernel
theorem d_Explorer_isWithin_21 : decode prog_5_method_6_code 21 = .ok (.astore_n 3, 1) := by decide +kernel
theorem d_Explorer_isWithin_22 : decode prog_5_method_6_code 22 = .ok (.aload_n 0, 1) := by decide +kernel
theorem d_Explorer_isWithin_23 : decode prog_5_method_6_code 23 = .ok (.getfield 45, 3) := by decide +kernel
theorem g_Explorer_8 {p : Program} {l : Launch} {e : Env} {R : Room} {s : Jvm.State} {m : MethodId} {args : Array Value} {below : List Frame} {meth : Method} {c : Code} {H : Heap} {locs : List Loc} {cells slots : Nat} {Q : Jvm.State → Prop} {cc : ByteArray} {pc : Nat} {ls : Array Slot} {rest : List Value} {D : va_G} {ad : Nat → Nat → Nat} {ca : Nat → ClassId} {M : me_M} {N : Nat → Nat} {own : String} {index j : Nat} (hexec : p.tables.exec = Jvm.exec) (hb : c.code = cc) (hts : ∀ w ∈ fg_g, w.before args s = true) (hown : s.vm.findClass own = some m.cls) (hK : va_K D classes (me_T ca) s) (hP : va_P D classes (me_W ad ca M) H) (hwf : me_wf N M) (hj : j < N 4) (hlink : (Cond.fieldLink own index "FilterGuard$Explorer" "now" "LFilterGuard$State;").before args s = true) (hdg : decode cc pc = .ok (.getfield index, 3)) (kk : W p l e R s m args below meth c H locs cells slots Q (F0 m (pc + 3) ls (va_rf ((mR M 4 j 8).map (ad 9)) :: rest))) : W p l e R s m args below meth c H locs cells slots Q (F0 m pc ls (.ref (ad 4 j) :: rest)) := me_get (k := 4) (f := 8) (C := "FilterGuard$Explorer") (T := F_Explorer) (Nf := 15) hexec hb hts i_Explorer hown hK hP hwf hj (by decide) rfl (by decide) (by decide) hlink (fun _ h9 => h9) hdg kk
theorem d_Explorer_isWithin_26 : decode prog_5_method_6_code 26 = .ok (.getfield 130, 3) := by decide +kernel
theorem d_Explorer_isWithin_29 : decode prog_5_method_6_code 29 = .ok (.iload_n 2, 1) := by decide +kernel
theorem d_Explorer_isWithin_30 : decode prog_5_method_6_code 30 = .ok (.aaload, 1) := by decide +kernel
theorem d_Explorer_isWithin_31 : decode prog_5_method_6_code 31 = .ok (.astore 4, 2) := by decide +kernel
theorem d_Explorer_isWithin_33 : decode prog_5_method_6_code 33 = .ok (.aload_n 3, 1) := by decide +kernel
theorem d_Explorer_isWithin_34 : decode prog_5_method_6_code 34 = .ok (.aload 4, 2) := by decide +kernel
theorem d_Explorer_isWithin_36 : decode prog_5_method_6_code 36 = .ok (.invokevirtual 134, 3) := by decide +kernel
theorem u_1053 : Cond.methodLink "FilterGuard$Explorer" 134 ⟨"FilterGuard$Cell", "isAround", "(LFilterGuard$Cell;)Z"⟩ ∈ fg_g := fg_in (List.mem_of_getElem? (i := 1053) (by decide +kernel)) rfl
theorem u_1056 : Cond.code ⟨"FilterGuard$Cell", "isAround", "(LFilterGuard$Cell;)Z"⟩ prog_2_method_14_code 3 (some .boolean) ∈ fg_g := fg_in (List.mem_of_getElem? (i := 1056) (by decide +kernel)) rfl
theorem u_1054 : Cond.instanceMethod ⟨"FilterGuard$Cell", "isAround", "(LFilterGuard$Cell;)Z"⟩ ∈ fg_g := fg_in (List.mem_of_getElem? (i := 1054) (by decide +kernel)) rfl
theorem u_1055 : Cond.selects "FilterGuard$Cell" ⟨"FilterGuard$Cell", "isAround", "(LFilterGuard$Cell;)Z"⟩ ⟨"FilterGuard$Cell", "isAround", "(LFilterGuard$Cell;)Z"⟩ ∈ fg_g := fg_in (List.mem_of_getElem? (i := 1055) (by decide +kernel)) rfl
theorem d_Explorer_isWithin_39 : decode prog_5_method_6_code 39 = .ok (.ifCond .eq 26, 3) := by decide +kernel
theorem d_Explorer_isWithin_65 : decode prog_5_method_6_code 65 = .ok (.iconst 0, 1) := by decide +kernel
theorem d_Explorer_isWithin_66 : decode prog_5_method_6_code 66 = .ok (.ireturn, 1) := by decide +kernel
theorem d_Explorer_isWithin_42 : decode prog_5_method_6_code 42 = .ok (.aload_n 3, 1) := by decide +kernel
theorem d_Explorer_isWithin_43 : decode prog_5_method_6_code 43 = .ok (.invokevirtual 140, 3) := by decide +kernel
theorem u_1066 : Cond.methodLink "FilterGuard$Explorer" 140 ⟨"FilterGuard$Cell", "hasIdentity", "()Z"⟩ ∈ fg_g := fg_in (List.mem_of_getElem? (i := 1066) (by decide +kernel)) rfl
theorem u_1069 : Cond.code ⟨"FilterGuard$Cell", "hasIdentity", "()Z"⟩ prog_2_method_13_code 1 (some .boolean) ∈ fg_g := fg_in (List.mem_of_getElem? (i := 1069) (by decide +kernel)) rfl
theorem u_1067 : Cond.instanceMethod ⟨"FilterGuard$Cell", "hasIdentity", "()Z"⟩ ∈ fg_g := fg_in (List.mem_of_getElem? (i := 1067) (by decide +kernel)) rfl
theorem u_1068 : Cond.selects "FilterGuard$Cell" ⟨"FilterGuard$Cell", "hasIdentity", "()Z"⟩ ⟨"FilterGuard$Cell", "hasIdentity", "()Z"⟩ ∈ fg_g := fg_in (List.mem_of_getElem? (i := 1068) (by decide +kernel)) rfl
theorem d_Explorer_isWithin_46 : decode prog_5_method_6_code 46 = .ok (.ifCond .eq 21, 3) := by decide +kernel
theorem d_Explorer_isWithin_67 : decode prog_5_method_6_code 67 = .ok (.iinc 2 1, 3) := by decide +kernel
theorem d_Explorer_isWithin_70 : decode prog_5_method_6_code 70 = .ok (.goto (-63), 3) := by decide +kernel
theorem d_Explorer_isWithin_49 : decode prog_5_method_6_code 49 = .ok (.aload_n 0, 1) := by decide +kernel
theorem d_Explorer_isWithin_50 : decode prog_5_method_6_code 50 = .ok (.aload_n 3, 1) := by decide +kernel
theorem d_Explorer_isWithin_51 : decode prog_5_method_6_code 51 = .ok (.getfield 143, 3) := by decide +kernel
theorem u_429 : Cond.fieldLink "FilterGuard$Explorer" 143 "FilterGuard$Cell" "identity" "I" ∈ fg_g := fg_in (List.mem_of_getElem? (i := 429) (by decide +kernel)) rfl
theorem g_Cell_3 {p : Program} {l : Launch} {e : Env} {R : Room} {s : Jvm.State} {m : MethodId} {args : Array Value} {below : List Frame} {meth : Method} {c : Code} {H : Heap} {locs : List Loc} {cells slots : Nat} {Q : Jvm.State → Prop} {cc : ByteArray} {pc : Nat} {ls : Array Slot} {rest : List Value} {D : va_G} {ad : Nat → Nat → Nat} {ca : Nat → ClassId} {M : me_M} {N : Nat → Nat} {own : String} {index j : Nat} (hexec : p.tables.exec = Jvm.exec) (hb : c.code = cc) (hts : ∀ w ∈ fg_g, w.before args s = true) (hown : s.vm.findClass own = some m.cls) (hK : va_K D classes (me_T ca) s) (hP : va_P D classes (me_W ad ca M) H) (hwf : me_wf N M) (hj : j < N 10) (hlink : (Cond.fieldLink own index "FilterGuard$Cell" "identity" "I").before args s = true) (hdg : decode cc pc = .ok (.getfield index, 3)) (kk : W p l e R s m args below meth c H locs cells slots Q (F0 m (pc + 3) ls (.int (mI M 10 j 3) :: rest))) : W p l e R s m args below meth c H locs cells slots Q (F0 m pc ls (.ref (ad 10 j) :: rest)) := me_get (k := 10) (f := 3) (C := "FilterGuard$Cell") (T := F_Cell) (Nf := 7) hexec hb hts i_Cell hown hK hP hwf hj (by decide) rfl (by decide) (by decide) hlink (fun _ h9 => h9) hdg kk
theorem d_Explorer_isWithin_54 : decode prog_5_method_6_code 54 = .ok (.aload 4, 2) := by decide +kernel
theorem d_Explorer_isWithin_56 : decode prog_5_method_6_code 56 = .ok (.getfield 143, 3) := by decide +kernel
theorem d_Explorer_isWithin_59 : decode prog_5_method_6_code 59 = .ok (.invokevirtual 146, 3) := by decide +kernel
theorem u_1070 : Cond.methodLink "FilterGuard$Explorer" 146 ⟨"FilterGuard$Explorer", "isPaired", "(II)Z"⟩ ∈ fg_g := fg_in (List.mem_of_getElem? (i := 1070) (by decide +kernel)) rfl
theorem u_1073 : Cond.code ⟨"FilterGuard$Explorer", "isPaired", "(II)Z"⟩ prog_5_method_7_code 4 (some .boolean) ∈ fg_g := fg_in (List.mem_of_getElem? (i := 1073) (by decide +kernel)) rfl
theorem u_1072 : Cond.instanceMethod ⟨"FilterGuard$Explorer", "isPaired", "(II)Z"⟩ ∈ fg_g := fg_in (List.mem_of_getElem? (i := 1072) (by decide +kernel)) rfl
theorem u_15 : Cond.selects "FilterGuard$Explorer" ⟨"FilterGuard$Explorer", "isPaired", "(II)Z"⟩ ⟨"FilterGuard$Explorer", "isPaired", "(II)Z"⟩ ∈ fg_g := fg_in (List.mem_of_getElem? (i := 15) (by decide +kernel)) rfl
theorem d_Explorer_isWithin_62 : decode prog_5_method_6_code 62 = .ok (.ifCond .ne 5, 3) := by decide +kernel
theorem d_Explorer_isWithin_0 : decode prog_5_method_6_code 0 = .ok (.aload_n 0, 1) := by decide +kernel
theorem d_Explorer_isWithin_1 : decode prog_5_method_6_code 1 = .ok (.iconst 1, 1) := by decide +kernel
theorem d_Explorer_isWithin_2 : decode prog_5_method_6_code 2 = .ok (.putfield 124, 3) := by decide +kernel
theorem d_Explorer_isWithin_5 : decode prog_5_method_6_code 5 = .ok (.iconst 0, 1) := by decide +kernel
theorem d_Explorer_isWithin_6 : decode prog_5_method_6_code 6 = .ok (.istore_n 2, 1) := by decide +kernel
abbrev y_Explorer_isWithin : MethodName := ⟨"FilterGuard$Explorer", "isWithin", "(LFilterGuard$State;)Z"⟩
def f_Explorer_isWithin_l7 (j0 : Nat) (j1 : Nat) : Nat → me_M → Int32 → Option (me_M × Int32)
  | 0, _, _ => none
  | fu + 1, M, y2 => (if (mI M 9 j1 1) ≤ y2 then some (M, (1 : Int32)) else bd (mR M 9 j1 0) (fun (j2 : Nat) => gd (¬ (y2 < 0 ∨ mZ M 18 j2 ≤ y2.toNatClampNeg)) (bd (mR M 18 j2 y2.toNatClampNeg) (fun (j5 : Nat) => bd (mR M 4 j0 8) (fun (j7 : Nat) => bd (mR M 9 j7 0) (fun (j9 : Nat) => gd (¬ (y2 < 0 ∨ mZ M 18 j9 ≤ y2.toNatClampNeg)) (bd (mR M 18 j9 y2.toNatClampNeg) (fun (j12 : Nat) => b2 (f_Cell_isAround M j5 j12) (fun (M14 : me_M) (r15 : Int32) => (if r15 = 0 then some (M14, (0 : Int32)) else b2 (f_Cell_hasIdentity M14 j5) (fun (M17 : me_M) (r18 : Int32) => (if r18 = 0 then f_Explorer_isWithin_l7 j0 j1 fu M17 (y2 + 1) else b2 (f_Explorer_isPaired M17 j0 (mI M17 10 j5 3) (mI M17 10 j12 3)) (fun (M20 : me_M) (r21 : Int32) => (if r21 = 0 then some (M20, (0 : Int32)) else f_Explorer_isWithin_l7 j0 j1 fu M20 (y2 + 1)))))))))))))))
def f_Explorer_isWithin (M0 : me_M) (j0 : Nat) (j1 : Nat) : Option (me_M × Int32) := st (wI M0 4 j0 7 1) (fun (M23 : me_M) => f_Explorer_isWithin_l7 j0 j1 fuel M23 (0 : Int32))
def rm_Explorer_isWithin : Room := { frames := 4, cells := 0, slots := 0, locals := 86 }
abbrev q_Explorer_isWithin (D : va_G) (ad : Nat → Nat → Nat) (ca : Nat → ClassId) (N : Nat → Nat) (M0 MZ : me_M) (RZ : Int32) (A : Nat → Prop) : Array Value → Jvm.State → Outcome → Jvm.State → Prop := va_Qi (fun r (_ : Unit) => r = RZ ∧ me_wf N MZ ∧ me_kp M0 MZ ∧ (RZ = 1 ∨ RZ = 0)) (fg_B D A (fun _ => me_W ad ca MZ) (fun _ => [])) A
set_option maxHeartbeats 4000000 in
set_option maxRecDepth 100000 in
theorem c_Explorer_isWithin (l : Launch) (D : va_G) (ad : Nat → Nat → Nat) (ca : Nat → ClassId) (N : Nat → Nat) (M0 MZ : me_M) (RZ : Int32) (j0 : Nat) (j1 : Nat) (h : f_Explorer_isWithin M0 j0 j1 = (some (MZ, RZ))) (hwf : me_wf N M0) (hj0 : j0 < N 4) (hj1 : j1 < N 9) (sz : Nat) : Met l y_Explorer_isWithin (fg_w y_Explorer_isWithin prog_5_method_6_code 5 (some .boolean)) rm_Explorer_isWithin (va_Pc [.ref (ad 4 j0), .ref (ad 9 j1)] (fz_P D (me_T ca) (me_W ad ca M0) sz)) (q_Explorer_isWithin D ad ca N M0 MZ RZ (va_A (me_W ad ca M0) sz)) rm_Explorer_isWithin.cells rm_Explorer_isWithin.slots (va_A (me_W ad ca M0) sz) := by
  refine fz_enter (fun A => q_Explorer_isWithin D ad ca N M0 MZ RZ A) (by decide +kernel) (Nat.le_of_ble_eq_true rfl) ?_
  intro p e s m below meth c ls A hx hb hml hown hts hr hlocks hin hP hK hD hS hA hX hl hz
  have hl : lv_has ls 5 [(0, .ref (ad 4 j0)), (1, .ref (ad 9 j1))] := hl
  unfold f_Explorer_isWithin at h
  have hkp : me_kp M0 M0 := me_kp.rf
  have hkb := hkp
  have b_7 : ∀ (fu : Nat), ∀ (M : me_M) (y2 : Int32) (H : Heap) (locs : List Loc) (ls : Array Slot), f_Explorer_isWithin_l7 j0 j1 fu M y2 = (some (MZ, RZ)) → me_wf N M → me_kp M0 M → va_P D classes (me_W ad ca M) H → va_D A (me_W ad ca M) → va_S A s.heap H locs → lv_has ls 5 [(0, .ref (ad 4 j0)), (1, .ref (ad 9 j1)), (2, .int y2)] → W p l e rm_Explorer_isWithin s m [.ref (ad 4 j0), .ref (ad 9 j1)].toArray below meth c H locs 0 0 (MQ below (q_Explorer_isWithin D ad ca N M0 MZ RZ A) [.ref (ad 4 j0), .ref (ad 9 j1)].toArray s rm_Explorer_isWithin.cells rm_Explorer_isWithin.slots A) (F0 m 7 ls []) := by
    intro fu
    induction fu with
    | zero =>
      intro M y2 H locs ls h hwf hkp hP hD hS hl
      cases h
    | succ fu ih =>
      intro M y2 H locs ls h hwf hkp hP hD hS hl
      unfold f_Explorer_isWithin_l7 at h
      have hkb := hkp
      refine lv_iload_n hx hb d_Explorer_isWithin_7 rfl (lv_at hl 2 rfl) ?_
      refine lv_aload_n hx hb d_Explorer_isWithin_8 rfl (lv_at hl 1 rfl) ?_
      refine g_State_1 hx hb hts hown hK hP hwf hj1 (hts _ u_528) d_Explorer_isWithin_9 ?_
      refine lv_icmp_ge (tgt := 73) hx hb d_Explorer_isWithin_12 (by decide) (fun c1 => ?_) (fun c1 => ?_)
      · have h := if_t c1 h
        refine lv_iconst (v := 1) hx hb d_Explorer_isWithin_73 (by decide) ?_
        exact me_retz (me_kp M0) h (by decide) hx hb hr hlocks hwf hkp hP hK hD hS d_Explorer_isWithin_74
      have h := if_f c1 h
      refine lv_aload_n hx hb d_Explorer_isWithin_15 rfl (lv_at hl 1 rfl) ?_
      refine g_State_0 hx hb hts hown hK hP hwf hj1 (hts _ u_526) d_Explorer_isWithin_16 ?_
      obtain ⟨j2, e3, h⟩ := bd_ob h
      have hj2 : j2 < N 18 := (hwf.2.1 9 j1 0 _ e3 (by decide) hj1)
      refine me_opt (j := j2) e3 ?_
      refine lv_iload_n hx hb d_Explorer_isWithin_19 rfl (lv_at hl 2 rfl) ?_
      obtain ⟨g4, h⟩ := gd_ob h
      refine me_aald (k := 18) (t := 10) hx hb hK hP hwf hj2 (by decide) (by decide) rfl (fun _ => rfl) g4 d_Explorer_isWithin_20 ?_
      obtain ⟨j5, e6, h⟩ := bd_ob h
      have hj5 : j5 < N 10 := (hwf.2.1 18 j2 y2.toNatClampNeg _ e6 (by decide) hj2)
      refine me_opt (j := j5) e6 ?_
      refine lv_astore_n (lv' := [(3, .ref (ad 10 j5)), (0, .ref (ad 4 j0)), (1, .ref (ad 9 j1)), (2, .int y2)]) hx hb d_Explorer_isWithin_21 rfl hl (by decide) rfl (fun ls hl => ?_)
      refine lv_aload_n hx hb d_Explorer_isWithin_22 rfl (lv_at hl 1 rfl) ?_
      refine g_Explorer_8 hx hb hts hown hK hP hwf hj0 (hts _ u_554) d_Explorer_isWithin_23 ?_
      obtain ⟨j7, e8, h⟩ := bd_ob h
      have hj7 : j7 < N 9 := (hwf.2.1 4 j0 8 _ e8 (by decide) hj0)
      refine me_opt (j := j7) e8 ?_
      refine g_State_0 hx hb hts hown hK hP hwf hj7 (hts _ u_526) d_Explorer_isWithin_26 ?_
      obtain ⟨j9, e10, h⟩ := bd_ob h
      have hj9 : j9 < N 18 := (hwf.2.1 9 j7 0 _ e10 (by decide) hj7)
      refine me_opt (j := j9) e10 ?_
      refine lv_iload_n hx hb d_Explorer_isWithin_29 rfl (lv_at hl 3 rfl) ?_
      obtain ⟨g11, h⟩ := gd_ob h
      refine me_aald (k := 18) (t := 10) hx hb hK hP hwf hj9 (by decide) (by decide) rfl (fun _ => rfl) g11 d_Explorer_isWithin_30 ?_
      obtain ⟨j12, e13, h⟩ := bd_ob h
      have hj12 : j12 < N 10 := (hwf.2.1 18 j9 y2.toNatClampNeg _ e13 (by decide) hj9)
      refine me_opt (j := j12) e13 ?_
      refine lv_astore (lv' := [(4, .ref (ad 10 j12)), (3, .ref (ad 10 j5)), (0, .ref (ad 4 j0)), (1, .ref (ad 9 j1)), (2, .int y2)]) hx hb d_Explorer_isWithin_31 hl (by decide) rfl (fun ls hl => ?_)
      refine lv_aload_n hx hb d_Explorer_isWithin_33 rfl (lv_at hl 1 rfl) ?_
      refine lv_aload hx hb d_Explorer_isWithin_34 (lv_at hl 0 rfl) ?_
      obtain ⟨M14, r15, eM14, h⟩ := b2_ob h
      refine me_theni0 (M1 := M14) (me_runV (C := "FilterGuard$Cell") (As := [.ref (ad 10 j12)]) (rest := []) ⟨hx, hb, hml, hown, hts⟩ (c_Cell_isAround l D ad ca N M M14 r15 j5 j12 eM14 hwf hj5 hj12 _) rfl (by show fg_nm y_Cell_isAround 1; decide +kernel) u_1053 u_1054 u_1055 u_188 u_1056 ⟨Nat.le_of_ble_eq_true rfl, Nat.le_of_ble_eq_true rfl⟩ hX hz hK hP hD hwf hS hA hj5 (by decide) rfl rfl rfl hl.1 (Nat.le_of_ble_eq_true rfl) d_Explorer_isWithin_36 ⟨Nat.le_of_ble_eq_true rfl, Nat.le_of_ble_eq_true rfl⟩) hP hD hK hS hA rfl rfl (fun H locs hw hP hD hS => ?_)
      obtain ⟨hwf, hk9, zr15⟩ := hw
      have hkp := hkp.tr hk9
      refine lv_if_eq (tgt := 65) hx hb d_Explorer_isWithin_39 (by decide) (fun c16 => ?_) (fun c16 => ?_)
      · have h := if_t c16 h
        refine lv_iconst (v := 0) hx hb d_Explorer_isWithin_65 (by decide) ?_
        exact me_retz (me_kp M0) h (by decide) hx hb hr hlocks hwf hkp hP hK hD hS d_Explorer_isWithin_66
      have h := if_f c16 h
      refine lv_aload_n hx hb d_Explorer_isWithin_42 rfl (lv_at hl 1 rfl) ?_
      obtain ⟨M17, r18, eM17, h⟩ := b2_ob h
      refine me_theni0 (M1 := M17) (me_runV (C := "FilterGuard$Cell") (As := []) (rest := []) ⟨hx, hb, hml, hown, hts⟩ (c_Cell_hasIdentity l D ad ca N M14 M17 r18 j5 eM17 hwf hj5 _) rfl (by show fg_nm y_Cell_hasIdentity 0; decide +kernel) u_1066 u_1067 u_1068 u_188 u_1069 ⟨Nat.le_of_ble_eq_true rfl, Nat.le_of_ble_eq_true rfl⟩ hX hz hK hP hD hwf hS hA hj5 (by decide) rfl rfl rfl hl.1 (Nat.le_of_ble_eq_true rfl) d_Explorer_isWithin_43 ⟨Nat.le_of_ble_eq_true rfl, Nat.le_of_ble_eq_true rfl⟩) hP hD hK hS hA rfl rfl (fun H locs hw hP hD hS => ?_)
      obtain ⟨hwf, hk9, zr18⟩ := hw
      have hkp := hkp.tr hk9
      refine lv_if_eq (tgt := 67) hx hb d_Explorer_isWithin_46 (by decide) (fun c19 => ?_) (fun c19 => ?_)
      · have h := if_t c19 h
        refine lv_iinc (v := y2 + 1) (lv' := [(2, .int (y2 + 1)), (4, .ref (ad 10 j12)), (3, .ref (ad 10 j5)), (0, .ref (ad 4 j0)), (1, .ref (ad 9 j1))]) hx hb d_Explorer_isWithin_67 hl (k := 4) rfl (by rfl) (by decide) rfl (fun ls hl => ?_)
        refine lv_goto (tgt := 7) hx hb d_Explorer_isWithin_70 (by decide) ?_
        exact ih M17 (y2 + 1) _ _ _ h hwf hkp hP hD hS (lv_sub hl [3, 4, 0] rfl)
      have h := if_f c19 h
      refine lv_aload_n hx hb d_Explorer_isWithin_49 rfl (lv_at hl 2 rfl) ?_
      refine lv_aload_n hx hb d_Explorer_isWithin_50 rfl (lv_at hl 1 rfl) ?_
      refine g_Cell_3 hx hb hts hown hK hP hwf hj5 (hts _ u_429) d_Explorer_isWithin_51 ?_
      refine lv_aload hx hb d_Explorer_isWithin_54 (lv_at hl 0 rfl) ?_
      refine g_Cell_3 hx hb hts hown hK hP hwf hj12 (hts _ u_429) d_Explorer_isWithin_56 ?_
      obtain ⟨M20, r21, eM20, h⟩ := b2_ob h
      refine me_theni0 (M1 := M20) (me_runV (C := "FilterGuard$Explorer") (As := [.int (mI M17 10 j5 3), .int (mI M17 10 j12 3)]) (rest := []) ⟨hx, hb, hml, hown, hts⟩ (c_Explorer_isPaired l D ad ca N M17 M20 r21 j0 (mI M17 10 j5 3) (mI M17 10 j12 3) eM20 hwf hj0 _) rfl (by show fg_nm y_Explorer_isPaired 2; decide +kernel) u_1070 u_1072 u_15 u_184 u_1073 ⟨Nat.le_of_ble_eq_true rfl, Nat.le_of_ble_eq_true rfl⟩ hX hz hK hP hD hwf hS hA hj0 (by decide) rfl rfl rfl hl.1 (Nat.le_of_ble_eq_true rfl) d_Explorer_isWithin_59 ⟨Nat.le_of_ble_eq_true rfl, Nat.le_of_ble_eq_true rfl⟩) hP hD hK hS hA rfl rfl (fun H locs hw hP hD hS => ?_)
      obtain ⟨hwf, hk9, zr21⟩ := hw
      have hkp := hkp.tr hk9
      refine lv_if_ne (tgt := 67) hx hb d_Explorer_isWithin_62 (by decide) (fun c22 => ?_) (fun c22 => ?_)
      · have h := if_f c22 h
        refine lv_iinc (v := y2 + 1) (lv' := [(2, .int (y2 + 1)), (4, .ref (ad 10 j12)), (3, .ref (ad 10 j5)), (0, .ref (ad 4 j0)), (1, .ref (ad 9 j1))]) hx hb d_Explorer_isWithin_67 hl (k := 4) rfl (by rfl) (by decide) rfl (fun ls hl => ?_)
        refine lv_goto (tgt := 7) hx hb d_Explorer_isWithin_70 (by decide) ?_
        exact ih M20 (y2 + 1) _ _ _ h hwf hkp hP hD hS (lv_sub hl [3, 4, 0] rfl)
      have h := if_t c22 h
      refine lv_iconst (v := 0) hx hb d_Explorer_isWithin_65 (by decide) ?_
      exact me_retz (me_kp M0) h (by decide) hx hb hr hlocks hwf hkp hP hK hD hS d_Explorer_isWithin_66
  refine lv_aload_n hx hb d_Explorer_isWithin_0 rfl (lv_at hl 0 rfl) ?_
  refine lv_iconst (v := 1) hx hb d_Explorer_isWithin_1 (by decide) ?_
  obtain ⟨M23, eM23, h⟩ := st_ob h
  refine p_Explorer_7 eM23 hx hb hts hown hK hP hD hwf hS hj0 (hts _ u_553) d_Explorer_isWithin_2 (fun H locs hP hD hwf hS => ?_)
  have hkp := kp_I eM23 hkp
  refine lv_iconst (v := 0) hx hb d_Explorer_isWithin_5 (by decide) ?_
  refine lv_istore_n (lv' := [(2, .int 0), (0, .ref (ad 4 j0)), (1, .ref (ad 9 j1))]) hx hb d_Explorer_isWithin_6 rfl hl (by decide) rfl (fun ls hl => ?_)
  exact b_7 _ M23 (0 : Int32) _ _ _ h hwf hkp hP hD hS (lv_sub hl [1, 2, 0] rfl)
theorem d_Num_copy_0 : decode prog_8_method_6_code 0 = .ok (.aload_n 0, 1) := by decide +kernel
theorem d_Num_copy_1 : decode prog_8_method_6_code 1 = .ok (.aload_n 1, 1) := by decide +kernel
theorem d_Num_copy_2 : decode prog_8_method_6_code 2 = .ok (.getfield 9, 3) := by decide +kernel
theorem d_Num_copy_5 : decode prog_8_method_6_code 5 = .ok (.putfield 9, 3) := by decide +kernel
theorem d_Num_copy_8 : decode prog_8_method_6_code 8 = .ok (.aload_n 0, 1) := by decide +kernel
theorem d_Num_copy_9 : decode prog_8_method_6_code 9 = .ok (.aload_n 1, 1) := by decide +kernel
theorem d_Num_copy_10 : decode prog_8_method_6_code 10 = .ok (.getfield 15, 3) := by decide +kernel
theorem d_Num_copy_13 : decode prog_8_method_6_code 13 = .ok (.putfield 15, 3) := by decide +kernel
theorem d_Num_copy_16 : decode prog_8_method_6_code 16 = .ok (.aload_n 0, 1) := by decide +kernel
theorem d_Num_copy_17 : decode prog_8_method_6_code 17 = .ok (.aload_n 1, 1) := by decide +kernel
theorem d_Num_copy_18 : decode prog_8_method_6_code 18 = .ok (.getfield 18, 3) := by decide +kernel
theorem d_Num_copy_21 : decode prog_8_method_6_code 21 = .ok (.putfield 18, 3) := by decide +kernel
theorem d_Num_copy_24 : decode prog_8_method_6_code 24 = .ok (.aload_n 0, 1) := by decide +kernel
theorem d_Num_copy_25 : decode prog_8_method_6_code 25 = .ok (.aload_n 1, 1) := by decide +kernel
theorem d_Num_copy_26 : decode prog_8_method_6_code 26 = .ok (.getfield 21, 3) := by decide +kernel
theorem d_Num_copy_29 : decode prog_8_method_6_code 29 = .ok (.putfield 21, 3) := by decide +kernel
theorem d_Num_copy_32 : decode prog_8_method_6_code 32 = .ok (.aload_n 0, 1) := by decide +kernel
theorem d_Num_copy_33 : decode prog_8_method_6_code 33 = .ok (.aload_n 1, 1) := by decide +kernel
theorem d_Num_copy_34 : decode prog_8_method_6_code 34 = .ok (.getfield 24, 3) := by decide +kernel
theorem d_Num_copy_37 : decode prog_8_method_6_code 37 = .ok (.putfield 24, 3) := by decide +kernel
theorem d_Num_copy_40 : decode prog_8_method_6_code 40 = .ok (.aload_n 0, 1) := by decide +kernel
theorem d_Num_copy_41 : decode prog_8_method_6_code 41 = .ok (.aload_n 1, 1) := by decide +kernel
theorem d_Num_copy_42 : decode prog_8_method_6_code 42 = .ok (.getfield 27, 3) := by decide +kernel
theorem d_Num_copy_45 : decode prog_8_method_6_code 45 = .ok (.putfield 27, 3) := by decide +kernel
theorem d_Num_copy_48 : decode prog_8_method_6_code 48 = .ok (.return_, 1) := by decide +kernel
abbrev y_Num_copy : MethodName := ⟨"FilterGuard$Num", "copy", "(LFilterGuard$Num;)V"⟩
def f_Num_copy (M0 : me_M) (j0 : Nat) (j1 : Nat) : Option me_M := st (wL M0 11 j0 0 (mL M0 11 j1 0)) (fun (M1 : me_M) => st (wL M1 11 j0 1 (mL M1 11 j1 1)) (fun (M2 : me_M) => st (wL M2 11 j0 2 (mL M2 11 j1 2)) (fun (M3 : me_M) => st (wL M3 11 j0 3 (mL M3 11 j1 3)) (fun (M4 : me_M) => st (wL M4 11 j0 4 (mL M4 11 j1 4)) (fun (M5 : me_M) => st (wL M5 11 j0 5 (mL M5 11 j1 5)) (fun (M6 : me_M) => some M6))))))
def rm_Num_copy : Room := { frames := 1, cells := 0, slots := 0, locals := 20 }
abbrev q_Num_copy (D : va_G) (ad : Nat → Nat → Nat) (ca : Nat → ClassId) (N : Nat → Nat) (M0 MZ : me_M) (A : Nat → Prop) : Array Value → Jvm.State → Outcome → Jvm.State → Prop := va_Qv (fun (_ : Unit) => me_wf N MZ ∧ me_kp M0 MZ) (fg_B D A (fun _ => me_W ad ca MZ) (fun _ => [])) A
set_option maxHeartbeats 4000000 in
set_option maxRecDepth 100000 in
theorem c_Num_copy (l : Launch) (D : va_G) (ad : Nat → Nat → Nat) (ca : Nat → ClassId) (N : Nat → Nat) (M0 MZ : me_M) (j0 : Nat) (j1 : Nat) (h : f_Num_copy M0 j0 j1 = (some MZ)) (hwf : me_wf N M0) (hj0 : j0 < N 11) (hj1 : j1 < N 11) (sz : Nat) : Met l y_Num_copy (fg_w y_Num_copy prog_8_method_6_code 2 none) rm_Num_copy (va_Pc [.ref (ad 11 j0), .ref (ad 11 j1)] (fz_P D (me_T ca) (me_W ad ca M0) sz)) (q_Num_copy D ad ca N M0 MZ (va_A (me_W ad ca M0) sz)) rm_Num_copy.cells rm_Num_copy.slots (va_A (me_W ad ca M0) sz) := by
  refine fz_enter (fun A => q_Num_copy D ad ca N M0 MZ A) (by decide +kernel) (Nat.le_of_ble_eq_true rfl) ?_
  intro p e s m below meth c ls A hx hb hml hown hts hr hlocks hin hP hK hD hS hA hX hl hz
  have hl : lv_has ls 2 [(0, .ref (ad 11 j0)), (1, .ref (ad 11 j1))] := hl
  unfold f_Num_copy at h
  have hkp : me_kp M0 M0 := me_kp.rf
  have hkb := hkp
  refine lv_aload_n hx hb d_Num_copy_0 rfl (lv_at hl 0 rfl) ?_
  refine lv_aload_n hx hb d_Num_copy_1 rfl (lv_at hl 1 rfl) ?_
  refine g_Num_0 hx hb hts hown hK hP hwf hj1 (hts _ u_367) d_Num_copy_2 ?_
  obtain ⟨M1, eM1, h⟩ := st_ob h
  refine p_Num_0 eM1 hx hb hts hown hK hP hD hwf hS hj0 (hts _ u_367) d_Num_copy_5 (fun H locs hP hD hwf hS => ?_)
  have hkp := kp_L eM1 hkp
  refine lv_aload_n hx hb d_Num_copy_8 rfl (lv_at hl 0 rfl) ?_
  refine lv_aload_n hx hb d_Num_copy_9 rfl (lv_at hl 1 rfl) ?_
  refine g_Num_1 hx hb hts hown hK hP hwf hj1 (hts _ u_371) d_Num_copy_10 ?_
  obtain ⟨M2, eM2, h⟩ := st_ob h
  refine p_Num_1 eM2 hx hb hts hown hK hP hD hwf hS hj0 (hts _ u_371) d_Num_copy_13 (fun H locs hP hD hwf hS => ?_)
  have hkp := kp_L eM2 hkp
  refine lv_aload_n hx hb d_Num_copy_16 rfl (lv_at hl 0 rfl) ?_
  refine lv_aload_n hx hb d_Num_copy_17 rfl (lv_at hl 1 rfl) ?_
  refine g_Num_2 hx hb hts hown hK hP hwf hj1 (hts _ u_373) d_Num_copy_18 ?_
  obtain ⟨M3, eM3, h⟩ := st_ob h
  refine p_Num_2 eM3 hx hb hts hown hK hP hD hwf hS hj0 (hts _ u_373) d_Num_copy_21 (fun H locs hP hD hwf hS => ?_)
  have hkp := kp_L eM3 hkp
  refine lv_aload_n hx hb d_Num_copy_24 rfl (lv_at hl 0 rfl) ?_
  refine lv_aload_n hx hb d_Num_copy_25 rfl (lv_at hl 1 rfl) ?_
  refine g_Num_3 hx hb hts hown hK hP hwf hj1 (hts _ u_376) d_Num_copy_26 ?_
  obtain ⟨M4, eM4, h⟩ := st_ob h
  refine p_Num_3 eM4 hx hb hts hown hK hP hD hwf hS hj0 (hts _ u_376) d_Num_copy_29 (fun H locs hP hD hwf hS => ?_)
  have hkp := kp_L eM4 hkp
  refine lv_aload_n hx hb d_Num_copy_32 rfl (lv_at hl 0 rfl) ?_
  refine lv_aload_n hx hb d_Num_copy_33 rfl (lv_at hl 1 rfl) ?_
  refine g_Num_4 hx hb hts hown hK hP hwf hj1 (hts _ u_379) d_Num_copy_34 ?_
  obtain ⟨M5, eM5, h⟩ := st_ob h
  refine p_Num_4 eM5 hx hb hts hown hK hP hD hwf hS hj0 (hts _ u_379) d_Num_copy_37 (fun H locs hP hD hwf hS => ?_)
  have hkp := kp_L eM5 hkp
  refine lv_aload_n hx hb d_Num_copy_40 rfl (lv_at hl 0 rfl) ?_
  refine lv_aload_n hx hb d_Num_copy_41 rfl (lv_at hl 1 rfl) ?_
  refine g_Num_5 hx hb hts hown hK hP hwf hj1 (hts _ u_381) d_Num_copy_42 ?_
  obtain ⟨M6, eM6, h⟩ := st_ob h
  refine p_Num_5 eM6 hx hb hts hown hK hP hD hwf hS hj0 (hts _ u_381) d_Num_copy_45 (fun H locs hP hD hwf hS => ?_)
  have hkp := kp_L eM6 hkp
  exact me_retv (me_kp M0) h hx hb hr hlocks hwf hkp hP hK hD hS d_Num_copy_48
theorem d_Cell_copy_0 : decode prog_2_method_3_code 0 = .ok (.aload_n 0, 1) := by decide +kernel
theorem d_Cell_copy_1 : decode prog_2_method_3_code 1 = .ok (.aload_n 1, 1) := by decide +kernel
theorem d_Cell_copy_2 : decode prog_2_method_3_code 2 = .ok (.getfield 18, 3) := by decide +kernel
theorem d_Cell_copy_5 : decode prog_2_method_3_code 5 = .ok (.putfield 18, 3) := by decide +kernel
theorem d_Cell_copy_8 : decode prog_2_method_3_code 8 = .ok (.aload_n 0, 1) := by decide +kernel
theorem d_Cell_copy_9 : decode prog_2_method_3_code 9 = .ok (.aload_n 1, 1) := by decide +kernel
theorem d_Cell_copy_10 : decode prog_2_method_3_code 10 = .ok (.getfield 22, 3) := by decide +kernel
theorem d_Cell_copy_13 : decode prog_2_method_3_code 13 = .ok (.putfield 22, 3) := by decide +kernel
theorem d_Cell_copy_16 : decode prog_2_method_3_code 16 = .ok (.aload_n 0, 1) := by decide +kernel
theorem d_Cell_copy_17 : decode prog_2_method_3_code 17 = .ok (.getfield 18, 3) := by decide +kernel
theorem d_Cell_copy_20 : decode prog_2_method_3_code 20 = .ok (.ifCond .ne 4, 3) := by decide +kernel
theorem d_Cell_copy_24 : decode prog_2_method_3_code 24 = .ok (.aload_n 0, 1) := by decide +kernel
theorem d_Cell_copy_25 : decode prog_2_method_3_code 25 = .ok (.aload_n 1, 1) := by decide +kernel
theorem d_Cell_copy_26 : decode prog_2_method_3_code 26 = .ok (.getfield 25, 3) := by decide +kernel
theorem d_Cell_copy_29 : decode prog_2_method_3_code 29 = .ok (.putfield 25, 3) := by decide +kernel
theorem d_Cell_copy_32 : decode prog_2_method_3_code 32 = .ok (.aload_n 0, 1) := by decide +kernel
theorem d_Cell_copy_33 : decode prog_2_method_3_code 33 = .ok (.aload_n 1, 1) := by decide +kernel
theorem d_Cell_copy_34 : decode prog_2_method_3_code 34 = .ok (.getfield 28, 3) := by decide +kernel
theorem d_Cell_copy_37 : decode prog_2_method_3_code 37 = .ok (.putfield 28, 3) := by decide +kernel
theorem d_Cell_copy_40 : decode prog_2_method_3_code 40 = .ok (.aload_n 0, 1) := by decide +kernel
theorem d_Cell_copy_41 : decode prog_2_method_3_code 41 = .ok (.aload_n 1, 1) := by decide +kernel
theorem d_Cell_copy_42 : decode prog_2_method_3_code 42 = .ok (.getfield 31, 3) := by decide +kernel
theorem d_Cell_copy_45 : decode prog_2_method_3_code 45 = .ok (.putfield 31, 3) := by decide +kernel
theorem d_Cell_copy_48 : decode prog_2_method_3_code 48 = .ok (.aload_n 0, 1) := by decide +kernel
theorem d_Cell_copy_49 : decode prog_2_method_3_code 49 = .ok (.aload_n 1, 1) := by decide +kernel
theorem d_Cell_copy_50 : decode prog_2_method_3_code 50 = .ok (.getfield 34, 3) := by decide +kernel
theorem d_Cell_copy_53 : decode prog_2_method_3_code 53 = .ok (.putfield 34, 3) := by decide +kernel
theorem d_Cell_copy_56 : decode prog_2_method_3_code 56 = .ok (.aload_n 0, 1) := by decide +kernel
theorem d_Cell_copy_57 : decode prog_2_method_3_code 57 = .ok (.getfield 18, 3) := by decide +kernel
theorem d_Cell_copy_60 : decode prog_2_method_3_code 60 = .ok (.iconst 1, 1) := by decide +kernel
theorem d_Cell_copy_61 : decode prog_2_method_3_code 61 = .ok (.if_icmp .eq 20, 3) := by decide +kernel
theorem d_Cell_copy_81 : decode prog_2_method_3_code 81 = .ok (.aload_n 0, 1) := by decide +kernel
theorem d_Cell_copy_82 : decode prog_2_method_3_code 82 = .ok (.getfield 12, 3) := by decide +kernel
theorem d_Cell_copy_85 : decode prog_2_method_3_code 85 = .ok (.aload_n 1, 1) := by decide +kernel
theorem d_Cell_copy_86 : decode prog_2_method_3_code 86 = .ok (.getfield 12, 3) := by decide +kernel
theorem d_Cell_copy_89 : decode prog_2_method_3_code 89 = .ok (.invokevirtual 37, 3) := by decide +kernel
theorem u_1082 : Cond.methodLink "FilterGuard$Cell" 37 ⟨"FilterGuard$Num", "copy", "(LFilterGuard$Num;)V"⟩ ∈ fg_g := fg_in (List.mem_of_getElem? (i := 1082) (by decide +kernel)) rfl
theorem u_1085 : Cond.code ⟨"FilterGuard$Num", "copy", "(LFilterGuard$Num;)V"⟩ prog_8_method_6_code 2 none ∈ fg_g := fg_in (List.mem_of_getElem? (i := 1085) (by decide +kernel)) rfl
theorem u_1083 : Cond.instanceMethod ⟨"FilterGuard$Num", "copy", "(LFilterGuard$Num;)V"⟩ ∈ fg_g := fg_in (List.mem_of_getElem? (i := 1083) (by decide +kernel)) rfl
theorem u_1084 : Cond.selects "FilterGuard$Num" ⟨"FilterGuard$Num", "copy", "(LFilterGuard$Num;)V"⟩ ⟨"FilterGuard$Num", "copy", "(LFilterGuard$Num;)V"⟩ ∈ fg_g := fg_in (List.mem_of_getElem? (i := 1084) (by decide +kernel)) rfl
theorem d_Cell_copy_92 : decode prog_2_method_3_code 92 = .ok (.return_, 1) := by decide +kernel
theorem d_Cell_copy_64 : decode prog_2_method_3_code 64 = .ok (.aload_n 0, 1) := by decide +kernel
theorem d_Cell_copy_65 : decode prog_2_method_3_code 65 = .ok (.getfield 18, 3) := by decide +kernel
theorem d_Cell_copy_68 : decode prog_2_method_3_code 68 = .ok (.iconst 4, 1) := by decide +kernel
theorem d_Cell_copy_69 : decode prog_2_method_3_code 69 = .ok (.if_icmp .eq 12, 3) := by decide +kernel
theorem d_Cell_copy_72 : decode prog_2_method_3_code 72 = .ok (.aload_n 0, 1) := by decide +kernel
theorem d_Cell_copy_73 : decode prog_2_method_3_code 73 = .ok (.getfield 18, 3) := by decide +kernel
theorem d_Cell_copy_76 : decode prog_2_method_3_code 76 = .ok (.bipush 7, 2) := by decide +kernel
theorem d_Cell_copy_78 : decode prog_2_method_3_code 78 = .ok (.if_icmp .ne 14, 3) := by decide +kernel
theorem d_Cell_copy_23 : decode prog_2_method_3_code 23 = .ok (.return_, 1) := by decide +kernel
abbrev y_Cell_copy : MethodName := ⟨"FilterGuard$Cell", "copy", "(LFilterGuard$Cell;)V"⟩
def f_Cell_copy (M0 : me_M) (j0 : Nat) (j1 : Nat) : Option me_M := st (wI M0 10 j0 0 (mI M0 10 j1 0)) (fun (M1 : me_M) => st (wI M1 10 j0 5 (mI M1 10 j1 5)) (fun (M2 : me_M) => (if (mI M2 10 j0 0) = 0 then some M2 else st (wI M2 10 j0 1 (mI M2 10 j1 1)) (fun (M4 : me_M) => st (wI M4 10 j0 2 (mI M4 10 j1 2)) (fun (M5 : me_M) => st (wI M5 10 j0 3 (mI M5 10 j1 3)) (fun (M6 : me_M) => st (wI M6 10 j0 4 (mI M6 10 j1 4)) (fun (M7 : me_M) => (if (mI M7 10 j0 0) = 1 then bd (mR M0 10 j0 6) (fun (j9 : Nat) => bd (mR M0 10 j1 6) (fun (j11 : Nat) => bd (f_Num_copy M7 j9 j11) (fun (M13 : me_M) => some M13))) else (if (mI M7 10 j0 0) = 4 then bd (mR M0 10 j0 6) (fun (j15 : Nat) => bd (mR M0 10 j1 6) (fun (j17 : Nat) => bd (f_Num_copy M7 j15 j17) (fun (M19 : me_M) => some M19))) else (if (mI M7 10 j0 0) = 7 then bd (mR M0 10 j0 6) (fun (j21 : Nat) => bd (mR M0 10 j1 6) (fun (j23 : Nat) => bd (f_Num_copy M7 j21 j23) (fun (M25 : me_M) => some M25))) else some M7))))))))))
def rm_Cell_copy : Room := { frames := 2, cells := 0, slots := 0, locals := 41 }
abbrev q_Cell_copy (D : va_G) (ad : Nat → Nat → Nat) (ca : Nat → ClassId) (N : Nat → Nat) (M0 MZ : me_M) (A : Nat → Prop) : Array Value → Jvm.State → Outcome → Jvm.State → Prop := va_Qv (fun (_ : Unit) => me_wf N MZ ∧ me_kp M0 MZ) (fg_B D A (fun _ => me_W ad ca MZ) (fun _ => [])) A
set_option maxHeartbeats 4000000 in
set_option maxRecDepth 100000 in
theorem c_Cell_copy (l : Launch) (D : va_G) (ad : Nat → Nat → Nat) (ca : Nat → ClassId) (N : Nat → Nat) (M0 MZ : me_M) (j0 : Nat) (j1 : Nat) (h : f_Cell_copy M0 j0 j1 = (some MZ)) (hwf : me_wf N M0) (hj0 : j0 < N 10) (hj1 : j1 < N 10) (sz : Nat) : Met l y_Cell_copy (fg_w y_Cell_copy prog_2_method_3_code 2 none) rm_Cell_copy (va_Pc [.ref (ad 10 j0), .ref (ad 10 j1)] (fz_P D (me_T ca) (me_W ad ca M0) sz)) (q_Cell_copy D ad ca N M0 MZ (va_A (me_W ad ca M0) sz)) rm_Cell_copy.cells rm_Cell_copy.slots (va_A (me_W ad ca M0) sz) := by
  refine fz_enter (fun A => q_Cell_copy D ad ca N M0 MZ A) (by decide +kernel) (Nat.le_of_ble_eq_true rfl) ?_
  intro p e s m below meth c ls A hx hb hml hown hts hr hlocks hin hP hK hD hS hA hX hl hz
  have hl : lv_has ls 2 [(0, .ref (ad 10 j0)), (1, .ref (ad 10 j1))] := hl
  unfold f_Cell_copy at h
  have hkp : me_kp M0 M0 := me_kp.rf
  have hkb := hkp
  refine lv_aload_n hx hb d_Cell_copy_0 rfl (lv_at hl 0 rfl) ?_
  refine lv_aload_n hx hb d_Cell_copy_1 rfl (lv_at hl 1 rfl) ?_
  refine g_Cell_0 hx hb hts hown hK hP hwf hj1 (hts _ u_420) d_Cell_copy_2 ?_
  obtain ⟨M1, eM1, h⟩ := st_ob h
  refine p_Cell_0 eM1 hx hb hts hown hK hP hD hwf hS hj0 (hts _ u_420) d_Cell_copy_5 (fun H locs hP hD hwf hS => ?_)
  have hkp := kp_I eM1 hkp
  refine lv_aload_n hx hb d_Cell_copy_8 rfl (lv_at hl 0 rfl) ?_
  refine lv_aload_n hx hb d_Cell_copy_9 rfl (lv_at hl 1 rfl) ?_
  refine g_Cell_5 hx hb hts hown hK hP hwf hj1 (hts _ u_433) d_Cell_copy_10 ?_
  obtain ⟨M2, eM2, h⟩ := st_ob h
  refine p_Cell_5 eM2 hx hb hts hown hK hP hD hwf hS hj0 (hts _ u_433) d_Cell_copy_13 (fun H locs hP hD hwf hS => ?_)
  have hkp := kp_I eM2 hkp
  refine lv_aload_n hx hb d_Cell_copy_16 rfl (lv_at hl 0 rfl) ?_
  refine g_Cell_0 hx hb hts hown hK hP hwf hj0 (hts _ u_420) d_Cell_copy_17 ?_
  refine lv_if_ne (tgt := 24) hx hb d_Cell_copy_20 (by decide) (fun c3 => ?_) (fun c3 => ?_)
  · have h := if_f c3 h
    refine lv_aload_n hx hb d_Cell_copy_24 rfl (lv_at hl 0 rfl) ?_
    refine lv_aload_n hx hb d_Cell_copy_25 rfl (lv_at hl 1 rfl) ?_
    refine g_Cell_1 hx hb hts hown hK hP hwf hj1 (hts _ u_424) d_Cell_copy_26 ?_
    obtain ⟨M4, eM4, h⟩ := st_ob h
    refine p_Cell_1 eM4 hx hb hts hown hK hP hD hwf hS hj0 (hts _ u_424) d_Cell_copy_29 (fun H locs hP hD hwf hS => ?_)
    have hkp := kp_I eM4 hkp
    refine lv_aload_n hx hb d_Cell_copy_32 rfl (lv_at hl 0 rfl) ?_
    refine lv_aload_n hx hb d_Cell_copy_33 rfl (lv_at hl 1 rfl) ?_
    refine g_Cell_2 hx hb hts hown hK hP hwf hj1 (hts _ u_426) d_Cell_copy_34 ?_
    obtain ⟨M5, eM5, h⟩ := st_ob h
    refine p_Cell_2 eM5 hx hb hts hown hK hP hD hwf hS hj0 (hts _ u_426) d_Cell_copy_37 (fun H locs hP hD hwf hS => ?_)
    have hkp := kp_I eM5 hkp
    refine lv_aload_n hx hb d_Cell_copy_40 rfl (lv_at hl 0 rfl) ?_
    refine lv_aload_n hx hb d_Cell_copy_41 rfl (lv_at hl 1 rfl) ?_
    refine g_Cell_3 hx hb hts hown hK hP hwf hj1 (hts _ u_428) d_Cell_copy_42 ?_
    obtain ⟨M6, eM6, h⟩ := st_ob h
    refine p_Cell_3 eM6 hx hb hts hown hK hP hD hwf hS hj0 (hts _ u_428) d_Cell_copy_45 (fun H locs hP hD hwf hS => ?_)
    have hkp := kp_I eM6 hkp
    refine lv_aload_n hx hb d_Cell_copy_48 rfl (lv_at hl 0 rfl) ?_
    refine lv_aload_n hx hb d_Cell_copy_49 rfl (lv_at hl 1 rfl) ?_
    refine g_Cell_4 hx hb hts hown hK hP hwf hj1 (hts _ u_431) d_Cell_copy_50 ?_
    obtain ⟨M7, eM7, h⟩ := st_ob h
    refine p_Cell_4 eM7 hx hb hts hown hK hP hD hwf hS hj0 (hts _ u_431) d_Cell_copy_53 (fun H locs hP hD hwf hS => ?_)
    have hkp := kp_I eM7 hkp
    refine lv_aload_n hx hb d_Cell_copy_56 rfl (lv_at hl 0 rfl) ?_
    refine g_Cell_0 hx hb hts hown hK hP hwf hj0 (hts _ u_420) d_Cell_copy_57 ?_
    refine lv_iconst (v := 1) hx hb d_Cell_copy_60 (by decide) ?_
    refine lv_icmp_eq (tgt := 81) hx hb d_Cell_copy_61 (by decide) (fun c8 => ?_) (fun c8 => ?_)
    · have h := if_t c8 h
      refine lv_aload_n hx hb d_Cell_copy_81 rfl (lv_at hl 0 rfl) ?_
      refine g_Cell_6 hx hb hts hown hK hP hwf hj0 (hts _ u_435) d_Cell_copy_82 ?_
      obtain ⟨j9, e10, h⟩ := bd_ob h
      have hj9 : j9 < N 11 := (hwf.2.1 10 j0 6 _ (kp_r hkb hkp e10) (by decide) hj0)
      refine me_opt (j := j9) (kp_r hkb hkp e10) ?_
      refine lv_aload_n hx hb d_Cell_copy_85 rfl (lv_at hl 1 rfl) ?_
      refine g_Cell_6 hx hb hts hown hK hP hwf hj1 (hts _ u_435) d_Cell_copy_86 ?_
      obtain ⟨j11, e12, h⟩ := bd_ob h
      have hj11 : j11 < N 11 := (hwf.2.1 10 j1 6 _ (kp_r hkb hkp e12) (by decide) hj1)
      refine me_opt (j := j11) (kp_r hkb hkp e12) ?_
      obtain ⟨M13, eM13, h⟩ := bd_ob h
      refine me_thenv0 (M1 := M13) (me_runV (C := "FilterGuard$Num") (As := [.ref (ad 11 j11)]) (rest := []) ⟨hx, hb, hml, hown, hts⟩ (c_Num_copy l D ad ca N M7 M13 j9 j11 eM13 hwf hj9 hj11 _) rfl (by show fg_nm y_Num_copy 1; decide +kernel) u_1082 u_1083 u_1084 u_187 u_1085 ⟨Nat.le_of_ble_eq_true rfl, Nat.le_of_ble_eq_true rfl⟩ hX hz hK hP hD hwf hS hA hj9 (by decide) rfl rfl rfl hl.1 (Nat.le_of_ble_eq_true rfl) d_Cell_copy_89 ⟨Nat.le_of_ble_eq_true rfl, Nat.le_of_ble_eq_true rfl⟩) hP hD hK hS hA rfl rfl (fun H locs hw hP hD hS => ?_)
      obtain ⟨hwf, hk9⟩ := hw
      have hkp := hkp.tr hk9
      exact me_retv (me_kp M0) h hx hb hr hlocks hwf hkp hP hK hD hS d_Cell_copy_92
    have h := if_f c8 h
    refine lv_aload_n hx hb d_Cell_copy_64 rfl (lv_at hl 0 rfl) ?_
    refine g_Cell_0 hx hb hts hown hK hP hwf hj0 (hts _ u_420) d_Cell_copy_65 ?_
    refine lv_iconst (v := 4) hx hb d_Cell_copy_68 (by decide) ?_
    refine lv_icmp_eq (tgt := 81) hx hb d_Cell_copy_69 (by decide) (fun c14 => ?_) (fun c14 => ?_)
    · have h := if_t c14 h
      refine lv_aload_n hx hb d_Cell_copy_81 rfl (lv_at hl 0 rfl) ?_
      refine g_Cell_6 hx hb hts hown hK hP hwf hj0 (hts _ u_435) d_Cell_copy_82 ?_
      obtain ⟨j15, e16, h⟩ := bd_ob h
      have hj15 : j15 < N 11 := (hwf.2.1 10 j0 6 _ (kp_r hkb hkp e16) (by decide) hj0)
      refine me_opt (j := j15) (kp_r hkb hkp e16) ?_
      refine lv_aload_n hx hb d_Cell_copy_85 rfl (lv_at hl 1 rfl) ?_
      refine g_Cell_6 hx hb hts hown hK hP hwf hj1 (hts _ u_435) d_Cell_copy_86 ?_
      obtain ⟨j17, e18, h⟩ := bd_ob h
      have hj17 : j17 < N 11 := (hwf.2.1 10 j1 6 _ (kp_r hkb hkp e18) (by decide) hj1)
      refine me_opt (j := j17) (kp_r hkb hkp e18) ?_
      obtain ⟨M19, eM19, h⟩ := bd_ob h
      refine me_thenv0 (M1 := M19) (me_runV (C := "FilterGuard$Num") (As := [.ref (ad 11 j17)]) (rest := []) ⟨hx, hb, hml, hown, hts⟩ (c_Num_copy l D ad ca N M7 M19 j15 j17 eM19 hwf hj15 hj17 _) rfl (by show fg_nm y_Num_copy 1; decide +kernel) u_1082 u_1083 u_1084 u_187 u_1085 ⟨Nat.le_of_ble_eq_true rfl, Nat.le_of_ble_eq_true rfl⟩ hX hz hK hP hD hwf hS hA hj15 (by decide) rfl rfl rfl hl.1 (Nat.le_of_ble_eq_true rfl) d_Cell_copy_89 ⟨Nat.le_of_ble_eq_true rfl, Nat.le_of_ble_eq_true rfl⟩) hP hD hK hS hA rfl rfl (fun H locs hw hP hD hS => ?_)
      obtain ⟨hwf, hk9⟩ := hw
      have hkp := hkp.tr hk9
      exact me_retv (me_kp M0) h hx hb hr hlocks hwf hkp hP hK hD hS d_Cell_copy_92
    have h := if_f c14 h
    refine lv_aload_n hx hb d_Cell_copy_72 rfl (lv_at hl 0 rfl) ?_
    refine g_Cell_0 hx hb hts hown hK hP hwf hj0 (hts _ u_420) d_Cell_copy_73 ?_
    refine lv_bipush (v := 7) hx hb d_Cell_copy_76 (by decide) ?_
    refine lv_icmp_ne (tgt := 92) hx hb d_Cell_copy_78 (by decide) (fun c20 => ?_) (fun c20 => ?_)
    · have h := if_f c20 h
      exact me_retv (me_kp M0) h hx hb hr hlocks hwf hkp hP hK hD hS d_Cell_copy_92
    have h := if_t c20 h
    refine lv_aload_n hx hb d_Cell_copy_81 rfl (lv_at hl 0 rfl) ?_
    refine g_Cell_6 hx hb hts hown hK hP hwf hj0 (hts _ u_435) d_Cell_copy_82 ?_
    obtain ⟨j21, e22, h⟩ := bd_ob h
    have hj21 : j21 < N 11 := (hwf.2.1 10 j0 6 _ (kp_r hkb hkp e22) (by decide) hj0)
    refine me_opt (j := j21) (kp_r hkb hkp e22) ?_
    refine lv_aload_n hx hb d_Cell_copy_85 rfl (lv_at hl 1 rfl) ?_
    refine g_Cell_6 hx hb hts hown hK hP hwf hj1 (hts _ u_435) d_Cell_copy_86 ?_
    obtain ⟨j23, e24, h⟩ := bd_ob h
    have hj23 : j23 < N 11 := (hwf.2.1 10 j1 6 _ (kp_r hkb hkp e24) (by decide) hj1)
    refine me_opt (j := j23) (kp_r hkb hkp e24) ?_
    obtain ⟨M25, eM25, h⟩ := bd_ob h
    refine me_thenv0 (M1 := M25) (me_runV (C := "FilterGuard$Num") (As := [.ref (ad 11 j23)]) (rest := []) ⟨hx, hb, hml, hown, hts⟩ (c_Num_copy l D ad ca N M7 M25 j21 j23 eM25 hwf hj21 hj23 _) rfl (by show fg_nm y_Num_copy 1; decide +kernel) u_1082 u_1083 u_1084 u_187 u_1085 ⟨Nat.le_of_ble_eq_true rfl, Nat.le_of_ble_eq_true rfl⟩ hX hz hK hP hD hwf hS hA hj21 (by decide) rfl rfl rfl hl.1 (Nat.le_of_ble_eq_true rfl) d_Cell_copy_89 ⟨Nat.le_of_ble_eq_true rfl, Nat.le_of_ble_eq_true rfl⟩) hP hD hK hS hA rfl rfl (fun H locs hw hP hD hS => ?_)
    obtain ⟨hwf, hk9⟩ := hw
    have hkp := hkp.tr hk9
    exact me_retv (me_kp M0) h hx hb hr hlocks hwf hkp hP hK hD hS d_Cell_copy_92
  have h := if_t c3 h
  exact me_retv (me_kp M0) h hx hb hr hlocks hwf hkp hP hK hD hS d_Cell_copy_23
theorem d_State_copy_10 : decode prog_10_method_3_code 10 = .ok (.iload_n 2, 1) := by decide +kernel
theorem d_State_copy_11 : decode prog_10_method_3_code 11 = .ok (.aload_n 1, 1) := by decide +kernel
theorem d_State_copy_12 : decode prog_10_method_3_code 12 = .ok (.getfield 17, 3) := by decide +kernel
theorem d_State_copy_15 : decode prog_10_method_3_code 15 = .ok (.if_icmp .ge 24, 3) := by decide +kernel
theorem d_State_copy_39 : decode prog_10_method_3_code 39 = .ok (.aload_n 0, 1) := by decide +kernel
theorem d_State_copy_40 : decode prog_10_method_3_code 40 = .ok (.aload_n 1, 1) := by decide +kernel
theorem d_State_copy_41 : decode prog_10_method_3_code 41 = .ok (.getfield 17, 3) := by decide +kernel
theorem d_State_copy_44 : decode prog_10_method_3_code 44 = .ok (.putfield 17, 3) := by decide +kernel
theorem d_State_copy_47 : decode prog_10_method_3_code 47 = .ok (.aload_n 0, 1) := by decide +kernel
theorem d_State_copy_48 : decode prog_10_method_3_code 48 = .ok (.aload_n 1, 1) := by decide +kernel
theorem d_State_copy_49 : decode prog_10_method_3_code 49 = .ok (.getfield 30, 3) := by decide +kernel
theorem g_State_2 {p : Program} {l : Launch} {e : Env} {R : Room} {s : Jvm.State} {m : MethodId} {args : Array Value} {below : List Frame} {meth : Method} {c : Code} {H : Heap} {locs : List Loc} {cells slots : Nat} {Q : Jvm.State → Prop} {cc : ByteArray} {pc : Nat} {ls : Array Slot} {rest : List Value} {D : va_G} {ad : Nat → Nat → Nat} {ca : Nat → ClassId} {M : me_M} {N : Nat → Nat} {own : String} {index j : Nat} (hexec : p.tables.exec = Jvm.exec) (hb : c.code = cc) (hts : ∀ w ∈ fg_g, w.before args s = true) (hown : s.vm.findClass own = some m.cls) (hK : va_K D classes (me_T ca) s) (hP : va_P D classes (me_W ad ca M) H) (hwf : me_wf N M) (hj : j < N 9) (hlink : (Cond.fieldLink own index "FilterGuard$State" "at" "I").before args s = true) (hdg : decode cc pc = .ok (.getfield index, 3)) (kk : W p l e R s m args below meth c H locs cells slots Q (F0 m (pc + 3) ls (.int (mI M 9 j 2) :: rest))) : W p l e R s m args below meth c H locs cells slots Q (F0 m pc ls (.ref (ad 9 j) :: rest)) := me_get (k := 9) (f := 2) (C := "FilterGuard$State") (T := F_State) (Nf := 5) hexec hb hts i_State hown hK hP hwf hj (by decide) rfl (by decide) (by decide) hlink (fun _ h9 => h9) hdg kk
theorem d_State_copy_52 : decode prog_10_method_3_code 52 = .ok (.putfield 30, 3) := by decide +kernel
theorem d_State_copy_55 : decode prog_10_method_3_code 55 = .ok (.return_, 1) := by decide +kernel
theorem d_State_copy_18 : decode prog_10_method_3_code 18 = .ok (.aload_n 0, 1) := by decide +kernel
theorem d_State_copy_19 : decode prog_10_method_3_code 19 = .ok (.getfield 11, 3) := by decide +kernel
theorem d_State_copy_22 : decode prog_10_method_3_code 22 = .ok (.iload_n 2, 1) := by decide +kernel
theorem d_State_copy_23 : decode prog_10_method_3_code 23 = .ok (.aaload, 1) := by decide +kernel
theorem d_State_copy_24 : decode prog_10_method_3_code 24 = .ok (.aload_n 1, 1) := by decide +kernel
theorem d_State_copy_25 : decode prog_10_method_3_code 25 = .ok (.getfield 11, 3) := by decide +kernel
theorem d_State_copy_28 : decode prog_10_method_3_code 28 = .ok (.iload_n 2, 1) := by decide +kernel
theorem d_State_copy_29 : decode prog_10_method_3_code 29 = .ok (.aaload, 1) := by decide +kernel
theorem d_State_copy_30 : decode prog_10_method_3_code 30 = .ok (.invokevirtual 33, 3) := by decide +kernel
theorem u_1078 : Cond.methodLink "FilterGuard$State" 33 ⟨"FilterGuard$Cell", "copy", "(LFilterGuard$Cell;)V"⟩ ∈ fg_g := fg_in (List.mem_of_getElem? (i := 1078) (by decide +kernel)) rfl
theorem u_1081 : Cond.code ⟨"FilterGuard$Cell", "copy", "(LFilterGuard$Cell;)V"⟩ prog_2_method_3_code 2 none ∈ fg_g := fg_in (List.mem_of_getElem? (i := 1081) (by decide +kernel)) rfl
theorem u_1079 : Cond.instanceMethod ⟨"FilterGuard$Cell", "copy", "(LFilterGuard$Cell;)V"⟩ ∈ fg_g := fg_in (List.mem_of_getElem? (i := 1079) (by decide +kernel)) rfl
theorem u_1080 : Cond.selects "FilterGuard$Cell" ⟨"FilterGuard$Cell", "copy", "(LFilterGuard$Cell;)V"⟩ ⟨"FilterGuard$Cell", "copy", "(LFilterGuard$Cell;)V"⟩ ∈ fg_g := fg_in (List.mem_of_getElem? (i := 1080) (by decide +kernel)) rfl
theorem d_State_copy_33 : decode prog_10_method_3_code 33 = .ok (.iinc 2 1, 3) := by decide +kernel
theorem d_State_copy_36 : decode prog_10_method_3_code 36 = .ok (.goto (-26), 3) := by decide +kernel
theorem d_State_copy_0 : decode prog_10_method_3_code 0 = .ok (.aload_n 0, 1) := by decide +kernel
theorem d_State_copy_1 : decode prog_10_method_3_code 1 = .ok (.aload_n 1, 1) := by decide +kernel
theorem d_State_copy_2 : decode prog_10_method_3_code 2 = .ok (.getfield 17, 3) := by decide +kernel
theorem d_State_copy_5 : decode prog_10_method_3_code 5 = .ok (.invokevirtual 22, 3) := by decide +kernel
theorem d_State_copy_8 : decode prog_10_method_3_code 8 = .ok (.iconst 0, 1) := by decide +kernel
theorem d_State_copy_9 : decode prog_10_method_3_code 9 = .ok (.istore_n 2, 1) := by decide +kernel
abbrev y_State_copy : MethodName := ⟨"FilterGuard$State", "copy", "(LFilterGuard$State;)V"⟩
def f_State_copy_l10 (j0 : Nat) (j1 : Nat) : Nat → me_M → Int32 → Option me_M
  | 0, _, _ => none
  | fu + 1, M, y2 => (if (mI M 9 j1 1) ≤ y2 then st (wI M 9 j0 1 (mI M 9 j1 1)) (fun (M2 : me_M) => st (wI M2 9 j0 2 (mI M2 9 j1 2)) (fun (M3 : me_M) => some M3)) else bd (mR M 9 j0 0) (fun (j4 : Nat) => gd (¬ (y2 < 0 ∨ mZ M 18 j4 ≤ y2.toNatClampNeg)) (bd (mR M 18 j4 y2.toNatClampNeg) (fun (j7 : Nat) => bd (mR M 9 j1 0) (fun (j9 : Nat) => gd (¬ (y2 < 0 ∨ mZ M 18 j9 ≤ y2.toNatClampNeg)) (bd (mR M 18 j9 y2.toNatClampNeg) (fun (j12 : Nat) => bd (f_Cell_copy M j7 j12) (fun (M14 : me_M) => f_State_copy_l10 j0 j1 fu M14 (y2 + 1)))))))))
def f_State_copy (M0 : me_M) (j0 : Nat) (j1 : Nat) : Option me_M := bd (f_State_clearFrom M0 j0 (mI M0 9 j1 1)) (fun (M15 : me_M) => f_State_copy_l10 j0 j1 fuel M15 (0 : Int32))
def rm_State_copy : Room := { frames := 3, cells := 0, slots := 0, locals := 62 }
abbrev q_State_copy (D : va_G) (ad : Nat → Nat → Nat) (ca : Nat → ClassId) (N : Nat → Nat) (M0 MZ : me_M) (A : Nat → Prop) : Array Value → Jvm.State → Outcome → Jvm.State → Prop := va_Qv (fun (_ : Unit) => me_wf N MZ ∧ me_kp M0 MZ) (fg_B D A (fun _ => me_W ad ca MZ) (fun _ => [])) A
set_option maxHeartbeats 4000000 in
set_option maxRecDepth 100000 in
theorem c_State_copy (l : Launch) (D : va_G) (ad : Nat → Nat → Nat) (ca : Nat → ClassId) (N : Nat → Nat) (M0 MZ : me_M) (j0 : Nat) (j1 : Nat) (h : f_State_copy M0 j0 j1 = (some MZ)) (hwf : me_wf N M0) (hj0 : j0 < N 9) (hj1 : j1 < N 9) (sz : Nat) : Met l y_State_copy (fg_w y_State_copy prog_10_method_3_code 3 none) rm_State_copy (va_Pc [.ref (ad 9 j0), .ref (ad 9 j1)] (fz_P D (me_T ca) (me_W ad ca M0) sz)) (q_State_copy D ad ca N M0 MZ (va_A (me_W ad ca M0) sz)) rm_State_copy.cells rm_State_copy.slots (va_A (me_W ad ca M0) sz) := by
  refine fz_enter (fun A => q_State_copy D ad ca N M0 MZ A) (by decide +kernel) (Nat.le_of_ble_eq_true rfl) ?_
  intro p e s m below meth c ls A hx hb hml hown hts hr hlocks hin hP hK hD hS hA hX hl hz
  have hl : lv_has ls 3 [(0, .ref (ad 9 j0)), (1, .ref (ad 9 j1))] := hl
  unfold f_State_copy at h
  have hkp : me_kp M0 M0 := me_kp.rf
  have hkb := hkp
  have b_10 : ∀ (fu : Nat), ∀ (M : me_M) (y2 : Int32) (H : Heap) (locs : List Loc) (ls : Array Slot), f_State_copy_l10 j0 j1 fu M y2 = (some MZ) → me_wf N M → me_kp M0 M → va_P D classes (me_W ad ca M) H → va_D A (me_W ad ca M) → va_S A s.heap H locs → lv_has ls 3 [(0, .ref (ad 9 j0)), (1, .ref (ad 9 j1)), (2, .int y2)] → W p l e rm_State_copy s m [.ref (ad 9 j0), .ref (ad 9 j1)].toArray below meth c H locs 0 0 (MQ below (q_State_copy D ad ca N M0 MZ A) [.ref (ad 9 j0), .ref (ad 9 j1)].toArray s rm_State_copy.cells rm_State_copy.slots A) (F0 m 10 ls []) := by
    intro fu
    induction fu with
    | zero =>
      intro M y2 H locs ls h hwf hkp hP hD hS hl
      cases h
    | succ fu ih =>
      intro M y2 H locs ls h hwf hkp hP hD hS hl
      unfold f_State_copy_l10 at h
      have hkb := hkp
      refine lv_iload_n hx hb d_State_copy_10 rfl (lv_at hl 2 rfl) ?_
      refine lv_aload_n hx hb d_State_copy_11 rfl (lv_at hl 1 rfl) ?_
      refine g_State_1 hx hb hts hown hK hP hwf hj1 (hts _ u_527) d_State_copy_12 ?_
      refine lv_icmp_ge (tgt := 39) hx hb d_State_copy_15 (by decide) (fun c1 => ?_) (fun c1 => ?_)
      · have h := if_t c1 h
        refine lv_aload_n hx hb d_State_copy_39 rfl (lv_at hl 0 rfl) ?_
        refine lv_aload_n hx hb d_State_copy_40 rfl (lv_at hl 1 rfl) ?_
        refine g_State_1 hx hb hts hown hK hP hwf hj1 (hts _ u_527) d_State_copy_41 ?_
        obtain ⟨M2, eM2, h⟩ := st_ob h
        refine p_State_1 eM2 hx hb hts hown hK hP hD hwf hS hj0 (hts _ u_527) d_State_copy_44 (fun H locs hP hD hwf hS => ?_)
        have hkp := kp_I eM2 hkp
        refine lv_aload_n hx hb d_State_copy_47 rfl (lv_at hl 0 rfl) ?_
        refine lv_aload_n hx hb d_State_copy_48 rfl (lv_at hl 1 rfl) ?_
        refine g_State_2 hx hb hts hown hK hP hwf hj1 (hts _ u_530) d_State_copy_49 ?_
        obtain ⟨M3, eM3, h⟩ := st_ob h
        refine p_State_2 eM3 hx hb hts hown hK hP hD hwf hS hj0 (hts _ u_530) d_State_copy_52 (fun H locs hP hD hwf hS => ?_)
        have hkp := kp_I eM3 hkp
        exact me_retv (me_kp M0) h hx hb hr hlocks hwf hkp hP hK hD hS d_State_copy_55
      have h := if_f c1 h
      refine lv_aload_n hx hb d_State_copy_18 rfl (lv_at hl 0 rfl) ?_
      refine g_State_0 hx hb hts hown hK hP hwf hj0 (hts _ u_523) d_State_copy_19 ?_
      obtain ⟨j4, e5, h⟩ := bd_ob h
      have hj4 : j4 < N 18 := (hwf.2.1 9 j0 0 _ e5 (by decide) hj0)
      refine me_opt (j := j4) e5 ?_
      refine lv_iload_n hx hb d_State_copy_22 rfl (lv_at hl 2 rfl) ?_
      obtain ⟨g6, h⟩ := gd_ob h
      refine me_aald (k := 18) (t := 10) hx hb hK hP hwf hj4 (by decide) (by decide) rfl (fun _ => rfl) g6 d_State_copy_23 ?_
      obtain ⟨j7, e8, h⟩ := bd_ob h
      have hj7 : j7 < N 10 := (hwf.2.1 18 j4 y2.toNatClampNeg _ e8 (by decide) hj4)
      refine me_opt (j := j7) e8 ?_
      refine lv_aload_n hx hb d_State_copy_24 rfl (lv_at hl 1 rfl) ?_
      refine g_State_0 hx hb hts hown hK hP hwf hj1 (hts _ u_523) d_State_copy_25 ?_
      obtain ⟨j9, e10, h⟩ := bd_ob h
      have hj9 : j9 < N 18 := (hwf.2.1 9 j1 0 _ e10 (by decide) hj1)
      refine me_opt (j := j9) e10 ?_
      refine lv_iload_n hx hb d_State_copy_28 rfl (lv_at hl 2 rfl) ?_
      obtain ⟨g11, h⟩ := gd_ob h
      refine me_aald (k := 18) (t := 10) hx hb hK hP hwf hj9 (by decide) (by decide) rfl (fun _ => rfl) g11 d_State_copy_29 ?_
      obtain ⟨j12, e13, h⟩ := bd_ob h
      have hj12 : j12 < N 10 := (hwf.2.1 18 j9 y2.toNatClampNeg _ e13 (by decide) hj9)
      refine me_opt (j := j12) e13 ?_
      obtain ⟨M14, eM14, h⟩ := bd_ob h
      refine me_thenv0 (M1 := M14) (me_runV (C := "FilterGuard$Cell") (As := [.ref (ad 10 j12)]) (rest := []) ⟨hx, hb, hml, hown, hts⟩ (c_Cell_copy l D ad ca N M M14 j7 j12 eM14 hwf hj7 hj12 _) rfl (by show fg_nm y_Cell_copy 1; decide +kernel) u_1078 u_1079 u_1080 u_188 u_1081 ⟨Nat.le_of_ble_eq_true rfl, Nat.le_of_ble_eq_true rfl⟩ hX hz hK hP hD hwf hS hA hj7 (by decide) rfl rfl rfl hl.1 (Nat.le_of_ble_eq_true rfl) d_State_copy_30 ⟨Nat.le_of_ble_eq_true rfl, Nat.le_of_ble_eq_true rfl⟩) hP hD hK hS hA rfl rfl (fun H locs hw hP hD hS => ?_)
      obtain ⟨hwf, hk9⟩ := hw
      have hkp := hkp.tr hk9
      refine lv_iinc (v := y2 + 1) (lv' := [(2, .int (y2 + 1)), (0, .ref (ad 9 j0)), (1, .ref (ad 9 j1))]) hx hb d_State_copy_33 hl (k := 2) rfl (by rfl) (by decide) rfl (fun ls hl => ?_)
      refine lv_goto (tgt := 10) hx hb d_State_copy_36 (by decide) ?_
      exact ih M14 (y2 + 1) _ _ _ h hwf hkp hP hD hS (lv_sub hl [1, 2, 0] rfl)
  refine lv_aload_n hx hb d_State_copy_0 rfl (lv_at hl 0 rfl) ?_
  refine lv_aload_n hx hb d_State_copy_1 rfl (lv_at hl 1 rfl) ?_
  refine g_State_1 hx hb hts hown hK hP hwf hj1 (hts _ u_527) d_State_copy_2 ?_
  obtain ⟨M15, eM15, h⟩ := bd_ob h
  refine me_thenv0 (M1 := M15) (me_runV (C := "FilterGuard$State") (As := [.int (mI M0 9 j1 1)]) (rest := []) ⟨hx, hb, hml, hown, hts⟩ (c_State_clearFrom l D ad ca N M0 M15 j0 (mI M0 9 j1 1) eM15 hwf hj0 _) rfl (by show fg_nm y_State_clearFrom 1; decide +kernel) u_1024 u_1026 u_12 u_189 u_1027 ⟨Nat.le_of_ble_eq_true rfl, Nat.le_of_ble_eq_true rfl⟩ hX hz hK hP hD hwf hS hA hj0 (by decide) rfl rfl rfl hl.1 (Nat.le_of_ble_eq_true rfl) d_State_copy_5 ⟨Nat.le_of_ble_eq_true rfl, Nat.le_of_ble_eq_true rfl⟩) hP hD hK hS hA rfl rfl (fun H locs hw hP hD hS => ?_)
  obtain ⟨hwf, hk9⟩ := hw
  have hkp := hkp.tr hk9
  refine lv_iconst (v := 0) hx hb d_State_copy_8 (by decide) ?_
  refine lv_istore_n (lv' := [(2, .int 0), (0, .ref (ad 9 j0)), (1, .ref (ad 9 j1))]) hx hb d_State_copy_9 rfl hl (by decide) rfl (fun ls hl => ?_)
  exact b_10 _ M15 (0 : Int32) _ _ _ h hwf hkp hP hD hS (lv_sub hl [1, 2, 0] rfl)
theorem d_Explorer_meetKept_124 : decode prog_5_method_5_code 124 = .ok (.astore_n 1, 1) := by decide +kernel
theorem d_Explorer_meetKept_125 : decode prog_5_method_5_code 125 = .ok (.aload_n 1, 1) := by decide +kernel
theorem d_Explorer_meetKept_126 : decode prog_5_method_5_code 126 = .ok (.aload_n 0, 1) := by decide +kernel
theorem d_Explorer_meetKept_127 : decode prog_5_method_5_code 127 = .ok (.getfield 45, 3) := by decide +kernel
theorem d_Explorer_meetKept_130 : decode prog_5_method_5_code 130 = .ok (.invokevirtual 117, 3) := by decide +kernel
theorem u_1074 : Cond.methodLink "FilterGuard$Explorer" 117 ⟨"FilterGuard$State", "copy", "(LFilterGuard$State;)V"⟩ ∈ fg_g := fg_in (List.mem_of_getElem? (i := 1074) (by decide +kernel)) rfl
theorem u_1077 : Cond.code ⟨"FilterGuard$State", "copy", "(LFilterGuard$State;)V"⟩ prog_10_method_3_code 3 none ∈ fg_g := fg_in (List.mem_of_getElem? (i := 1077) (by decide +kernel)) rfl
theorem u_1075 : Cond.instanceMethod ⟨"FilterGuard$State", "copy", "(LFilterGuard$State;)V"⟩ ∈ fg_g := fg_in (List.mem_of_getElem? (i := 1075) (by decide +kernel)) rfl
theorem u_1076 : Cond.selects "FilterGuard$State" ⟨"FilterGuard$State", "copy", "(LFilterGuard$State;)V"⟩ ⟨"FilterGuard$State", "copy", "(LFilterGuard$State;)V"⟩ ∈ fg_g := fg_in (List.mem_of_getElem? (i := 1076) (by decide +kernel)) rfl
theorem d_Explorer_meetKept_133 : decode prog_5_method_5_code 133 = .ok (.aload_n 1, 1) := by decide +kernel
theorem d_Explorer_meetKept_134 : decode prog_5_method_5_code 134 = .ok (.iconst 1, 1) := by decide +kernel
theorem d_Explorer_meetKept_135 : decode prog_5_method_5_code 135 = .ok (.putfield 114, 3) := by decide +kernel
theorem u_534 : Cond.fieldLink "FilterGuard$Explorer" 114 "FilterGuard$State" "isOpen" "Z" ∈ fg_g := fg_in (List.mem_of_getElem? (i := 534) (by decide +kernel)) rfl
theorem p_State_4 {p : Program} {l : Launch} {e : Env} {R : Room} {s : Jvm.State} {m : MethodId} {args : Array Value} {below : List Frame} {meth : Method} {c : Code} {H : Heap} {locs : List Loc} {cells slots : Nat} {Q : Jvm.State → Prop} {cc : ByteArray} {pc : Nat} {ls : Array Slot} {rest : List Value} {D : va_G} {A : Nat → Prop} {H0 : Heap} {ad : Nat → Nat → Nat} {ca : Nat → ClassId} {M M1 : me_M} {N : Nat → Nat} {own : String} {index j : Nat} {v : Int32} (he : M1 = wI M 9 j 4 v) (hexec : p.tables.exec = Jvm.exec) (hb : c.code = cc) (hts : ∀ w ∈ fg_g, w.before args s = true) (hown : s.vm.findClass own = some m.cls) (hK : va_K D classes (me_T ca) s) (hP : va_P D classes (me_W ad ca M) H) (hD : va_D A (me_W ad ca M)) (hwf : me_wf N M) (hS : va_S A H0 H locs) (hj : j < N 9) (hv : v = 1 ∨ v = 0) (hlink : (Cond.fieldLink own index "FilterGuard$State" "isOpen" "Z").before args s = true) (hdg : decode cc pc = .ok (.putfield index, 3)) (kk : ∀ (H1 : Heap) (locs1 : List Loc), va_P D classes (me_W ad ca M1) H1 → va_D A (me_W ad ca M1) → me_wf N M1 → va_S A H0 H1 locs1 → W p l e R s m args below meth c H1 locs1 cells slots Q (F0 m (pc + 3) ls rest)) : W p l e R s m args below meth c H locs cells slots Q (F0 m pc ls (.int v :: .ref (ad 9 j) :: rest)) := by
  subst he
  exact me_put (M1 := wI M 9 j 4 v) (k := 9) (f := 4) (C := "FilterGuard$State") (T := F_State) (Nf := 5) hexec hb hts i_State t_State t_State_ok n_State hown hK hP hD hwf hS hj (by decide) rfl (by decide) (by decide) hlink (fun _ h9 => h9) rfl (me_nz hv) (me_fz hv) rfl (fun a b h => me_wIE h) (me_fIw (by decide) (by decide)) hdg (fun H1 locs1 a1 a2 a3 => kk H1 locs1 a1 a2 (me_wfI hwf (fun z => absurd z (by decide)) (fun _ => hv)) a3)
theorem d_Explorer_meetKept_138 : decode prog_5_method_5_code 138 = .ok (.aload_n 1, 1) := by decide +kernel
theorem d_Explorer_meetKept_139 : decode prog_5_method_5_code 139 = .ok (.aload_n 0, 1) := by decide +kernel
theorem d_Explorer_meetKept_140 : decode prog_5_method_5_code 140 = .ok (.getfield 49, 3) := by decide +kernel
theorem g_Explorer_9 {p : Program} {l : Launch} {e : Env} {R : Room} {s : Jvm.State} {m : MethodId} {args : Array Value} {below : List Frame} {meth : Method} {c : Code} {H : Heap} {locs : List Loc} {cells slots : Nat} {Q : Jvm.State → Prop} {cc : ByteArray} {pc : Nat} {ls : Array Slot} {rest : List Value} {D : va_G} {ad : Nat → Nat → Nat} {ca : Nat → ClassId} {M : me_M} {N : Nat → Nat} {own : String} {index j : Nat} (hexec : p.tables.exec = Jvm.exec) (hb : c.code = cc) (hts : ∀ w ∈ fg_g, w.before args s = true) (hown : s.vm.findClass own = some m.cls) (hK : va_K D classes (me_T ca) s) (hP : va_P D classes (me_W ad ca M) H) (hwf : me_wf N M) (hj : j < N 4) (hlink : (Cond.fieldLink own index "FilterGuard$Explorer" "waitingCount" "I").before args s = true) (hdg : decode cc pc = .ok (.getfield index, 3)) (kk : W p l e R s m args below meth c H locs cells slots Q (F0 m (pc + 3) ls (.int (mI M 4 j 9) :: rest))) : W p l e R s m args below meth c H locs cells slots Q (F0 m pc ls (.ref (ad 4 j) :: rest)) := me_get (k := 4) (f := 9) (C := "FilterGuard$Explorer") (T := F_Explorer) (Nf := 15) hexec hb hts i_Explorer hown hK hP hwf hj (by decide) rfl (by decide) (by decide) hlink (fun _ h9 => h9) hdg kk
theorem d_Explorer_meetKept_143 : decode prog_5_method_5_code 143 = .ok (.putfield 121, 3) := by decide +kernel
theorem u_533 : Cond.fieldLink "FilterGuard$Explorer" 121 "FilterGuard$State" "waitingThen" "I" ∈ fg_g := fg_in (List.mem_of_getElem? (i := 533) (by decide +kernel)) rfl
theorem p_State_3 {p : Program} {l : Launch} {e : Env} {R : Room} {s : Jvm.State} {m : MethodId} {args : Array Value} {below : List Frame} {meth : Method} {c : Code} {H : Heap} {locs : List Loc} {cells slots : Nat} {Q : Jvm.State → Prop} {cc : ByteArray} {pc : Nat} {ls : Array Slot} {rest : List Value} {D : va_G} {A : Nat → Prop} {H0 : Heap} {ad : Nat → Nat → Nat} {ca : Nat → ClassId} {M M1 : me_M} {N : Nat → Nat} {own : String} {index j : Nat} {v : Int32} (he : M1 = wI M 9 j 3 v) (hexec : p.tables.exec = Jvm.exec) (hb : c.code = cc) (hts : ∀ w ∈ fg_g, w.before args s = true) (hown : s.vm.findClass own = some m.cls) (hK : va_K D classes (me_T ca) s) (hP : va_P D classes (me_W ad ca M) H) (hD : va_D A (me_W ad ca M)) (hwf : me_wf N M) (hS : va_S A H0 H locs) (hj : j < N 9) (hlink : (Cond.fieldLink own index "FilterGuard$State" "waitingThen" "I").before args s = true) (hdg : decode cc pc = .ok (.putfield index, 3)) (kk : ∀ (H1 : Heap) (locs1 : List Loc), va_P D classes (me_W ad ca M1) H1 → va_D A (me_W ad ca M1) → me_wf N M1 → va_S A H0 H1 locs1 → W p l e R s m args below meth c H1 locs1 cells slots Q (F0 m (pc + 3) ls rest)) : W p l e R s m args below meth c H locs cells slots Q (F0 m pc ls (.int v :: .ref (ad 9 j) :: rest)) := by
  subst he
  exact me_put (M1 := wI M 9 j 3 v) (k := 9) (f := 3) (C := "FilterGuard$State") (T := F_State) (Nf := 5) hexec hb hts i_State t_State t_State_ok n_State hown hK hP hD hwf hS hj (by decide) rfl (by decide) (by decide) hlink (fun _ h9 => h9) rfl rfl rfl rfl (fun a b h => me_wIE h) (me_fIw (by decide) (by decide)) hdg (fun H1 locs1 a1 a2 a3 => kk H1 locs1 a1 a2 (me_wfI hwf (fun z => absurd z (by decide)) (fun z => absurd z (by decide))) a3)
theorem d_Explorer_meetKept_146 : decode prog_5_method_5_code 146 = .ok (.aload_n 0, 1) := by decide +kernel
theorem d_Explorer_meetKept_147 : decode prog_5_method_5_code 147 = .ok (.getfield 11, 3) := by decide +kernel
theorem g_Explorer_3 {p : Program} {l : Launch} {e : Env} {R : Room} {s : Jvm.State} {m : MethodId} {args : Array Value} {below : List Frame} {meth : Method} {c : Code} {H : Heap} {locs : List Loc} {cells slots : Nat} {Q : Jvm.State → Prop} {cc : ByteArray} {pc : Nat} {ls : Array Slot} {rest : List Value} {D : va_G} {ad : Nat → Nat → Nat} {ca : Nat → ClassId} {M : me_M} {N : Nat → Nat} {own : String} {index j : Nat} (hexec : p.tables.exec = Jvm.exec) (hb : c.code = cc) (hts : ∀ w ∈ fg_g, w.before args s = true) (hown : s.vm.findClass own = some m.cls) (hK : va_K D classes (me_T ca) s) (hP : va_P D classes (me_W ad ca M) H) (hwf : me_wf N M) (hj : j < N 4) (hlink : (Cond.fieldLink own index "FilterGuard$Explorer" "kept" "[LFilterGuard$State;").before args s = true) (hdg : decode cc pc = .ok (.getfield index, 3)) (kk : W p l e R s m args below meth c H locs cells slots Q (F0 m (pc + 3) ls (va_rf ((mR M 4 j 3).map (ad 17)) :: rest))) : W p l e R s m args below meth c H locs cells slots Q (F0 m pc ls (.ref (ad 4 j) :: rest)) := me_get (k := 4) (f := 3) (C := "FilterGuard$Explorer") (T := F_Explorer) (Nf := 15) hexec hb hts i_Explorer hown hK hP hwf hj (by decide) rfl (by decide) (by decide) hlink (fun _ h9 => h9) hdg kk
theorem d_Explorer_meetKept_150 : decode prog_5_method_5_code 150 = .ok (.aload_n 0, 1) := by decide +kernel
theorem d_Explorer_meetKept_151 : decode prog_5_method_5_code 151 = .ok (.getfield 53, 3) := by decide +kernel
theorem g_Explorer_11 {p : Program} {l : Launch} {e : Env} {R : Room} {s : Jvm.State} {m : MethodId} {args : Array Value} {below : List Frame} {meth : Method} {c : Code} {H : Heap} {locs : List Loc} {cells slots : Nat} {Q : Jvm.State → Prop} {cc : ByteArray} {pc : Nat} {ls : Array Slot} {rest : List Value} {D : va_G} {ad : Nat → Nat → Nat} {ca : Nat → ClassId} {M : me_M} {N : Nat → Nat} {own : String} {index j : Nat} (hexec : p.tables.exec = Jvm.exec) (hb : c.code = cc) (hts : ∀ w ∈ fg_g, w.before args s = true) (hown : s.vm.findClass own = some m.cls) (hK : va_K D classes (me_T ca) s) (hP : va_P D classes (me_W ad ca M) H) (hwf : me_wf N M) (hj : j < N 4) (hlink : (Cond.fieldLink own index "FilterGuard$Explorer" "keptCount" "I").before args s = true) (hdg : decode cc pc = .ok (.getfield index, 3)) (kk : W p l e R s m args below meth c H locs cells slots Q (F0 m (pc + 3) ls (.int (mI M 4 j 11) :: rest))) : W p l e R s m args below meth c H locs cells slots Q (F0 m pc ls (.ref (ad 4 j) :: rest)) := me_get (k := 4) (f := 11) (C := "FilterGuard$Explorer") (T := F_Explorer) (Nf := 15) hexec hb hts i_Explorer hown hK hP hwf hj (by decide) rfl (by decide) (by decide) hlink (fun _ h9 => h9) hdg kk
theorem d_Explorer_meetKept_154 : decode prog_5_method_5_code 154 = .ok (.aload_n 1, 1) := by decide +kernel
theorem d_Explorer_meetKept_155 : decode prog_5_method_5_code 155 = .ok (.aastore, 1) := by decide +kernel
theorem d_Explorer_meetKept_156 : decode prog_5_method_5_code 156 = .ok (.aload_n 0, 1) := by decide +kernel
theorem d_Explorer_meetKept_157 : decode prog_5_method_5_code 157 = .ok (.dup, 1) := by decide +kernel
theorem d_Explorer_meetKept_158 : decode prog_5_method_5_code 158 = .ok (.getfield 53, 3) := by decide +kernel
theorem d_Explorer_meetKept_161 : decode prog_5_method_5_code 161 = .ok (.iconst 1, 1) := by decide +kernel
theorem d_Explorer_meetKept_162 : decode prog_5_method_5_code 162 = .ok (.iadd, 1) := by decide +kernel
theorem d_Explorer_meetKept_163 : decode prog_5_method_5_code 163 = .ok (.putfield 53, 3) := by decide +kernel
theorem d_Explorer_meetKept_166 : decode prog_5_method_5_code 166 = .ok (.iconst 0, 1) := by decide +kernel
theorem d_Explorer_meetKept_167 : decode prog_5_method_5_code 167 = .ok (.ireturn, 1) := by decide +kernel
theorem d_Explorer_meetKept_2 : decode prog_5_method_5_code 2 = .ok (.iload_n 1, 1) := by decide +kernel
theorem d_Explorer_meetKept_3 : decode prog_5_method_5_code 3 = .ok (.aload_n 0, 1) := by decide +kernel
theorem d_Explorer_meetKept_4 : decode prog_5_method_5_code 4 = .ok (.getfield 53, 3) := by decide +kernel
theorem d_Explorer_meetKept_7 : decode prog_5_method_5_code 7 = .ok (.if_icmp .ge 76, 3) := by decide +kernel
theorem d_Explorer_meetKept_83 : decode prog_5_method_5_code 83 = .ok (.aload_n 0, 1) := by decide +kernel
theorem d_Explorer_meetKept_84 : decode prog_5_method_5_code 84 = .ok (.getfield 53, 3) := by decide +kernel
theorem d_Explorer_meetKept_87 : decode prog_5_method_5_code 87 = .ok (.sipush 200, 3) := by decide +kernel
theorem d_Explorer_meetKept_90 : decode prog_5_method_5_code 90 = .ok (.if_icmp .ge 76, 3) := by decide +kernel
theorem d_Explorer_meetKept_93 : decode prog_5_method_5_code 93 = .ok (.aload_n 0, 1) := by decide +kernel
theorem d_Explorer_meetKept_94 : decode prog_5_method_5_code 94 = .ok (.getfield 11, 3) := by decide +kernel
theorem d_Explorer_meetKept_97 : decode prog_5_method_5_code 97 = .ok (.aload_n 0, 1) := by decide +kernel
theorem d_Explorer_meetKept_98 : decode prog_5_method_5_code 98 = .ok (.getfield 53, 3) := by decide +kernel
theorem d_Explorer_meetKept_101 : decode prog_5_method_5_code 101 = .ok (.aaload, 1) := by decide +kernel
theorem d_Explorer_meetKept_102 : decode prog_5_method_5_code 102 = .ok (.ifnonnull 13, 3) := by decide +kernel
theorem d_Explorer_meetKept_105 : decode prog_5_method_5_code 105 = .ok (.new 9, 3) := by decide +kernel
theorem d_Explorer_meetKept_108 : decode prog_5_method_5_code 108 = .ok (.dup, 1) := by decide +kernel
theorem d_Explorer_meetKept_109 : decode prog_5_method_5_code 109 = .ok (.invokespecial 44, 3) := by decide +kernel
theorem d_Explorer_meetKept_112 : decode prog_5_method_5_code 112 = .ok (.goto 12, 3) := by decide +kernel
theorem d_Explorer_meetKept_115 : decode prog_5_method_5_code 115 = .ok (.aload_n 0, 1) := by decide +kernel
theorem d_Explorer_meetKept_116 : decode prog_5_method_5_code 116 = .ok (.getfield 11, 3) := by decide +kernel
theorem d_Explorer_meetKept_119 : decode prog_5_method_5_code 119 = .ok (.aload_n 0, 1) := by decide +kernel
theorem d_Explorer_meetKept_120 : decode prog_5_method_5_code 120 = .ok (.getfield 53, 3) := by decide +kernel
theorem d_Explorer_meetKept_123 : decode prog_5_method_5_code 123 = .ok (.aaload, 1) := by decide +kernel
theorem oc_n2 {α β : Type} {o : Option α} {x y : β} {f : α → β} (e : o = none) (h : oc o x f = y) : x = y := by subst e; exact h
theorem oc_s2 {α β : Type} {o : Option α} {j : α} {x y : β} {f : α → β} (e : o = some j) (h : oc o x f = y) : f j = y := by subst e; exact h
theorem d_Explorer_meetKept_10 : decode prog_5_method_5_code 10 = .ok (.aload_n 0, 1) := by decide +kernel
theorem d_Explorer_meetKept_11 : decode prog_5_method_5_code 11 = .ok (.getfield 11, 3) := by decide +kernel
theorem d_Explorer_meetKept_14 : decode prog_5_method_5_code 14 = .ok (.iload_n 1, 1) := by decide +kernel
theorem d_Explorer_meetKept_15 : decode prog_5_method_5_code 15 = .ok (.aaload, 1) := by decide +kernel
theorem d_Explorer_meetKept_16 : decode prog_5_method_5_code 16 = .ok (.getfield 65, 3) := by decide +kernel
theorem u_531 : Cond.fieldLink "FilterGuard$Explorer" 65 "FilterGuard$State" "at" "I" ∈ fg_g := fg_in (List.mem_of_getElem? (i := 531) (by decide +kernel)) rfl
theorem d_Explorer_meetKept_19 : decode prog_5_method_5_code 19 = .ok (.aload_n 0, 1) := by decide +kernel
theorem d_Explorer_meetKept_20 : decode prog_5_method_5_code 20 = .ok (.getfield 45, 3) := by decide +kernel
theorem d_Explorer_meetKept_23 : decode prog_5_method_5_code 23 = .ok (.getfield 65, 3) := by decide +kernel
theorem d_Explorer_meetKept_26 : decode prog_5_method_5_code 26 = .ok (.if_icmp .ne 51, 3) := by decide +kernel
theorem d_Explorer_meetKept_77 : decode prog_5_method_5_code 77 = .ok (.iinc 1 1, 3) := by decide +kernel
theorem d_Explorer_meetKept_80 : decode prog_5_method_5_code 80 = .ok (.goto (-78), 3) := by decide +kernel
theorem d_Explorer_meetKept_29 : decode prog_5_method_5_code 29 = .ok (.aload_n 0, 1) := by decide +kernel
theorem d_Explorer_meetKept_30 : decode prog_5_method_5_code 30 = .ok (.aload_n 0, 1) := by decide +kernel
theorem d_Explorer_meetKept_31 : decode prog_5_method_5_code 31 = .ok (.getfield 11, 3) := by decide +kernel
theorem d_Explorer_meetKept_34 : decode prog_5_method_5_code 34 = .ok (.iload_n 1, 1) := by decide +kernel
theorem d_Explorer_meetKept_35 : decode prog_5_method_5_code 35 = .ok (.aaload, 1) := by decide +kernel
theorem d_Explorer_meetKept_36 : decode prog_5_method_5_code 36 = .ok (.invokevirtual 110, 3) := by decide +kernel
theorem u_1049 : Cond.methodLink "FilterGuard$Explorer" 110 ⟨"FilterGuard$Explorer", "isWithin", "(LFilterGuard$State;)Z"⟩ ∈ fg_g := fg_in (List.mem_of_getElem? (i := 1049) (by decide +kernel)) rfl
theorem u_1052 : Cond.code ⟨"FilterGuard$Explorer", "isWithin", "(LFilterGuard$State;)Z"⟩ prog_5_method_6_code 5 (some .boolean) ∈ fg_g := fg_in (List.mem_of_getElem? (i := 1052) (by decide +kernel)) rfl
theorem u_1051 : Cond.instanceMethod ⟨"FilterGuard$Explorer", "isWithin", "(LFilterGuard$State;)Z"⟩ ∈ fg_g := fg_in (List.mem_of_getElem? (i := 1051) (by decide +kernel)) rfl
theorem u_14 : Cond.selects "FilterGuard$Explorer" ⟨"FilterGuard$Explorer", "isWithin", "(LFilterGuard$State;)Z"⟩ ⟨"FilterGuard$Explorer", "isWithin", "(LFilterGuard$State;)Z"⟩ ∈ fg_g := fg_in (List.mem_of_getElem? (i := 14) (by decide +kernel)) rfl
theorem d_Explorer_meetKept_39 : decode prog_5_method_5_code 39 = .ok (.ifCond .eq 38, 3) := by decide +kernel
theorem d_Explorer_meetKept_42 : decode prog_5_method_5_code 42 = .ok (.aload_n 0, 1) := by decide +kernel
theorem d_Explorer_meetKept_43 : decode prog_5_method_5_code 43 = .ok (.aload_n 0, 1) := by decide +kernel
theorem d_Explorer_meetKept_44 : decode prog_5_method_5_code 44 = .ok (.getfield 11, 3) := by decide +kernel
theorem d_Explorer_meetKept_47 : decode prog_5_method_5_code 47 = .ok (.iload_n 1, 1) := by decide +kernel
theorem d_Explorer_meetKept_48 : decode prog_5_method_5_code 48 = .ok (.aaload, 1) := by decide +kernel
theorem d_Explorer_meetKept_49 : decode prog_5_method_5_code 49 = .ok (.getfield 114, 3) := by decide +kernel
theorem g_State_4 {p : Program} {l : Launch} {e : Env} {R : Room} {s : Jvm.State} {m : MethodId} {args : Array Value} {below : List Frame} {meth : Method} {c : Code} {H : Heap} {locs : List Loc} {cells slots : Nat} {Q : Jvm.State → Prop} {cc : ByteArray} {pc : Nat} {ls : Array Slot} {rest : List Value} {D : va_G} {ad : Nat → Nat → Nat} {ca : Nat → ClassId} {M : me_M} {N : Nat → Nat} {own : String} {index j : Nat} (hexec : p.tables.exec = Jvm.exec) (hb : c.code = cc) (hts : ∀ w ∈ fg_g, w.before args s = true) (hown : s.vm.findClass own = some m.cls) (hK : va_K D classes (me_T ca) s) (hP : va_P D classes (me_W ad ca M) H) (hwf : me_wf N M) (hj : j < N 9) (hlink : (Cond.fieldLink own index "FilterGuard$State" "isOpen" "Z").before args s = true) (hdg : decode cc pc = .ok (.getfield index, 3)) (kk : W p l e R s m args below meth c H locs cells slots Q (F0 m (pc + 3) ls (.int (mI M 9 j 4) :: rest))) : W p l e R s m args below meth c H locs cells slots Q (F0 m pc ls (.ref (ad 9 j) :: rest)) := me_get (k := 9) (f := 4) (C := "FilterGuard$State") (T := F_State) (Nf := 5) hexec hb hts i_State hown hK hP hwf hj (by decide) rfl (by decide) (by decide) hlink (fun _ h9 => h9) hdg kk
theorem d_Explorer_meetKept_52 : decode prog_5_method_5_code 52 = .ok (.ifCond .ne 7, 3) := by decide +kernel
theorem d_Explorer_meetKept_59 : decode prog_5_method_5_code 59 = .ok (.iconst 0, 1) := by decide +kernel
theorem d_Explorer_meetKept_60 : decode prog_5_method_5_code 60 = .ok (.putfield 75, 3) := by decide +kernel
theorem u_556 : Cond.fieldLink "FilterGuard$Explorer" 75 "FilterGuard$Explorer" "isThrough" "Z" ∈ fg_g := fg_in (List.mem_of_getElem? (i := 556) (by decide +kernel)) rfl
theorem p_Explorer_10 {p : Program} {l : Launch} {e : Env} {R : Room} {s : Jvm.State} {m : MethodId} {args : Array Value} {below : List Frame} {meth : Method} {c : Code} {H : Heap} {locs : List Loc} {cells slots : Nat} {Q : Jvm.State → Prop} {cc : ByteArray} {pc : Nat} {ls : Array Slot} {rest : List Value} {D : va_G} {A : Nat → Prop} {H0 : Heap} {ad : Nat → Nat → Nat} {ca : Nat → ClassId} {M M1 : me_M} {N : Nat → Nat} {own : String} {index j : Nat} {v : Int32} (he : M1 = wI M 4 j 10 v) (hexec : p.tables.exec = Jvm.exec) (hb : c.code = cc) (hts : ∀ w ∈ fg_g, w.before args s = true) (hown : s.vm.findClass own = some m.cls) (hK : va_K D classes (me_T ca) s) (hP : va_P D classes (me_W ad ca M) H) (hD : va_D A (me_W ad ca M)) (hwf : me_wf N M) (hS : va_S A H0 H locs) (hj : j < N 4) (hv : v = 1 ∨ v = 0) (hlink : (Cond.fieldLink own index "FilterGuard$Explorer" "isThrough" "Z").before args s = true) (hdg : decode cc pc = .ok (.putfield index, 3)) (kk : ∀ (H1 : Heap) (locs1 : List Loc), va_P D classes (me_W ad ca M1) H1 → va_D A (me_W ad ca M1) → me_wf N M1 → va_S A H0 H1 locs1 → W p l e R s m args below meth c H1 locs1 cells slots Q (F0 m (pc + 3) ls rest)) : W p l e R s m args below meth c H locs cells slots Q (F0 m pc ls (.int v :: .ref (ad 4 j) :: rest)) := by
  subst he
  exact me_put (M1 := wI M 4 j 10 v) (k := 4) (f := 10) (C := "FilterGuard$Explorer") (T := F_Explorer) (Nf := 15) hexec hb hts i_Explorer t_Explorer t_Explorer_ok n_Explorer hown hK hP hD hwf hS hj (by decide) rfl (by decide) (by decide) hlink (fun _ h9 => h9) rfl (me_nz hv) (me_fz hv) rfl (fun a b h => me_wIE h) (me_fIw (by decide) (by decide)) hdg (fun H1 locs1 a1 a2 a3 => kk H1 locs1 a1 a2 (me_wfI hwf (fun z => absurd z (by decide)) (fun _ => hv)) a3)
theorem d_Explorer_meetKept_63 : decode prog_5_method_5_code 63 = .ok (.aload_n 0, 1) := by decide +kernel
theorem d_Explorer_meetKept_64 : decode prog_5_method_5_code 64 = .ok (.getfield 75, 3) := by decide +kernel
theorem g_Explorer_10 {p : Program} {l : Launch} {e : Env} {R : Room} {s : Jvm.State} {m : MethodId} {args : Array Value} {below : List Frame} {meth : Method} {c : Code} {H : Heap} {locs : List Loc} {cells slots : Nat} {Q : Jvm.State → Prop} {cc : ByteArray} {pc : Nat} {ls : Array Slot} {rest : List Value} {D : va_G} {ad : Nat → Nat → Nat} {ca : Nat → ClassId} {M : me_M} {N : Nat → Nat} {own : String} {index j : Nat} (hexec : p.tables.exec = Jvm.exec) (hb : c.code = cc) (hts : ∀ w ∈ fg_g, w.before args s = true) (hown : s.vm.findClass own = some m.cls) (hK : va_K D classes (me_T ca) s) (hP : va_P D classes (me_W ad ca M) H) (hwf : me_wf N M) (hj : j < N 4) (hlink : (Cond.fieldLink own index "FilterGuard$Explorer" "isThrough" "Z").before args s = true) (hdg : decode cc pc = .ok (.getfield index, 3)) (kk : W p l e R s m args below meth c H locs cells slots Q (F0 m (pc + 3) ls (.int (mI M 4 j 10) :: rest))) : W p l e R s m args below meth c H locs cells slots Q (F0 m pc ls (.ref (ad 4 j) :: rest)) := me_get (k := 4) (f := 10) (C := "FilterGuard$Explorer") (T := F_Explorer) (Nf := 15) hexec hb hts i_Explorer hown hK hP hwf hj (by decide) rfl (by decide) (by decide) hlink (fun _ h9 => h9) hdg kk
theorem d_Explorer_meetKept_67 : decode prog_5_method_5_code 67 = .ok (.ifCond .eq 7, 3) := by decide +kernel
theorem d_Explorer_meetKept_74 : decode prog_5_method_5_code 74 = .ok (.bipush 19, 2) := by decide +kernel
theorem d_Explorer_meetKept_76 : decode prog_5_method_5_code 76 = .ok (.ireturn, 1) := by decide +kernel
theorem d_Explorer_meetKept_70 : decode prog_5_method_5_code 70 = .ok (.iconst 0, 1) := by decide +kernel
theorem d_Explorer_meetKept_71 : decode prog_5_method_5_code 71 = .ok (.goto 5, 3) := by decide +kernel
theorem d_Explorer_meetKept_55 : decode prog_5_method_5_code 55 = .ok (.iconst 1, 1) := by decide +kernel
theorem d_Explorer_meetKept_56 : decode prog_5_method_5_code 56 = .ok (.goto 4, 3) := by decide +kernel
theorem d_Explorer_meetKept_0 : decode prog_5_method_5_code 0 = .ok (.iconst 0, 1) := by decide +kernel
theorem d_Explorer_meetKept_1 : decode prog_5_method_5_code 1 = .ok (.istore_n 1, 1) := by decide +kernel
abbrev y_Explorer_meetKept : MethodName := ⟨"FilterGuard$Explorer", "meetKept", "()I"⟩
def f_Explorer_meetKept_b124 (j0 : Nat) (M : me_M) (s0 : Nat) : Option (me_M × Int32) := bd (mR M 4 j0 8) (fun (j1 : Nat) => bd (f_State_copy M s0 j1) (fun (M3 : me_M) => st (wI M3 9 s0 4 1) (fun (M4 : me_M) => st (wI M4 9 s0 3 (mI M4 4 j0 9)) (fun (M5 : me_M) => bd (mR M5 4 j0 3) (fun (j6 : Nat) => gd (¬ ((mI M5 4 j0 11) < 0 ∨ mZ M5 17 j6 ≤ (mI M5 4 j0 11).toNatClampNeg)) (st (wR M5 17 j6 (mI M5 4 j0 11).toNatClampNeg (some s0)) (fun (M9 : me_M) => st (wI M9 4 j0 11 ((mI M9 4 j0 11) + 1)) (fun (M10 : me_M) => some (M10, (0 : Int32))))))))))
def f_Explorer_meetKept_l2 (j0 : Nat) : Nat → me_M → Int32 → Option (me_M × Int32)
  | 0, _, _ => none
  | fu + 1, M, y1 => (if (mI M 4 j0 11) ≤ y1 then (if 200 ≤ (mI M 4 j0 11) then some (M, (0 : Int32)) else bd (mR M 4 j0 3) (fun (j13 : Nat) => gd (¬ ((mI M 4 j0 11) < 0 ∨ mZ M 17 j13 ≤ (mI M 4 j0 11).toNatClampNeg)) (oc (mR M 17 j13 ((mI M 4 j0 11).toNatClampNeg)) (gd (me_fit M 9) (st (nO M 9) (fun (M19 : me_M) => bd (f_State_init M19 (mN M 9)) (fun (M21 : me_M) => f_Explorer_meetKept_b124 j0 M21 (mN M 9))))) (fun (_ : Nat) => bd (mR M 17 j13 ((mI M 4 j0 11).toNatClampNeg)) (fun (j22 : Nat) => f_Explorer_meetKept_b124 j0 M j22))))) else bd (mR M 4 j0 3) (fun (j24 : Nat) => gd (¬ (y1 < 0 ∨ mZ M 17 j24 ≤ y1.toNatClampNeg)) (bd (mR M 17 j24 y1.toNatClampNeg) (fun (j27 : Nat) => bd (mR M 4 j0 8) (fun (j29 : Nat) => (if (mI M 9 j27 2) = (mI M 9 j29 2) then b2 (f_Explorer_isWithin M j0 j27) (fun (M32 : me_M) (r33 : Int32) => (if r33 = 0 then f_Explorer_meetKept_l2 j0 fu M32 (y1 + 1) else bd (mR M32 4 j0 3) (fun (j35 : Nat) => gd (¬ (y1 < 0 ∨ mZ M32 17 j35 ≤ y1.toNatClampNeg)) (bd (mR M32 17 j35 y1.toNatClampNeg) (fun (j38 : Nat) => (if (mI M32 9 j38 4) = 0 then st (wI M32 4 j0 10 1) (fun (M45 : me_M) => (if (mI M45 4 j0 10) = 0 then some (M45, (19 : Int32)) else some (M45, (0 : Int32)))) else st (wI M32 4 j0 10 0) (fun (M42 : me_M) => (if (mI M42 4 j0 10) = 0 then some (M42, (19 : Int32)) else some (M42, (0 : Int32)))))))))) else f_Explorer_meetKept_l2 j0 fu M (y1 + 1)))))))
def f_Explorer_meetKept (M0 : me_M) (j0 : Nat) : Option (me_M × Int32) := f_Explorer_meetKept_l2 j0 fuel M0 (0 : Int32)
def rm_Explorer_meetKept (N0 : Nat → Nat) : Room := { frames := 5, cells := me_CL - me_cN N0, slots := me_SL - me_sN N0, locals := 110 }
abbrev q_Explorer_meetKept (D : va_G) (ad0 : Nat → Nat → Nat) (ca : Nat → ClassId) (N0 : Nat → Nat) (MZ : me_M) (RZ : Int32) (A : Nat → Prop) : Array Value → Jvm.State → Outcome → Jvm.State → Prop := va_Qi (fun r (u : Nat → Nat → Nat) => r = RZ ∧ al_P ad0 N0 MZ u ∧ True) (fg_B D A (fun u => me_W u ca MZ) (fun _ => [])) A
set_option maxHeartbeats 4000000 in
set_option maxRecDepth 100000 in
theorem c_Explorer_meetKept (l : Launch) (D : va_G) (ad0 : Nat → Nat → Nat) (ca : Nat → ClassId) (N0 : Nat → Nat) (M0 MZ : me_M) (RZ : Int32) (j0 : Nat) (h : f_Explorer_meetKept M0 j0 = (some (MZ, RZ))) (hwf : me_wf N0 M0) (hcl : me_cN N0 ≤ me_CL ∧ me_sN N0 ≤ me_SL) (hj0 : j0 < N0 4) (sz : Nat) : Met l y_Explorer_meetKept (fg_w y_Explorer_meetKept prog_5_method_5_code 2 (some .int)) (rm_Explorer_meetKept N0) (va_Pc [.ref (ad0 4 j0)] (fz_P D (me_T ca) (me_W ad0 ca M0) sz)) (q_Explorer_meetKept D ad0 ca N0 MZ RZ (va_A (me_W ad0 ca M0) sz)) (me_cN (mN MZ) - me_cN N0) (me_sN (mN MZ) - me_sN N0) (va_A (me_W ad0 ca M0) sz) := by
  refine fz_enter (fun A => q_Explorer_meetKept D ad0 ca N0 MZ RZ A) (by decide +kernel) (Nat.le_of_ble_eq_true rfl) ?_
  intro p e s m below meth c ls A hx hb hml hown hts hr hlocks hin hP hK hD hS hA hX hl hz
  refine W.widen (k := me_cN N0 - me_cN N0) (n := me_sN N0 - me_sN N0) (Nat.zero_le _) (Nat.zero_le _) ?_
  unfold f_Explorer_meetKept at h
  have hok : me_ok N0 N0 := me_ok.rf hcl
  have b_124 : ∀ (ad : Nat → Nat → Nat) (N : Nat → Nat) (M : me_M) (s0 : Nat) (H : Heap) (locs : List Loc) (ls : Array Slot), f_Explorer_meetKept_b124 j0 M s0 = (some (MZ, RZ)) → (s0 < N 9) → me_wf N M → me_ok N0 N → (∀ a b, b < N0 a → ad a b = ad0 a b) → va_P D classes (me_W ad ca M) H → va_D A (me_W ad ca M) → va_S A s.heap H locs → lv_has ls 2 [(0, .ref (ad 4 j0))] → W p l e (rm_Explorer_meetKept N0) s m [.ref (ad0 4 j0)].toArray below meth c H locs (me_cN N - me_cN N0) (me_sN N - me_sN N0) (MQ below (q_Explorer_meetKept D ad0 ca N0 MZ RZ A) [.ref (ad0 4 j0)].toArray s (me_cN (mN MZ) - me_cN N0) (me_sN (mN MZ) - me_sN N0) A) (F0 m 124 ls [.ref (ad 9 s0)]) := by
    intro ad N M s0 H locs ls h hs0 hwf hok hext0 hP hD hS hl
    unfold f_Explorer_meetKept_b124 at h
    have hj0 : j0 < N 4 := Nat.lt_of_lt_of_le hj0 (hok.2.2.2.2 4)
    refine lv_astore_n (lv' := [(1, .ref (ad 9 s0)), (0, .ref (ad 4 j0))]) hx hb d_Explorer_meetKept_124 rfl hl (by decide) rfl (fun ls hl => ?_)
    refine lv_aload_n hx hb d_Explorer_meetKept_125 rfl (lv_at hl 0 rfl) ?_
    refine lv_aload_n hx hb d_Explorer_meetKept_126 rfl (lv_at hl 1 rfl) ?_
    refine g_Explorer_8 hx hb hts hown hK hP hwf hj0 (hts _ u_554) d_Explorer_meetKept_127 ?_
    obtain ⟨j1, e2, h⟩ := bd_ob h
    have hj1 : j1 < N 9 := (hwf.2.1 4 j0 8 _ e2 (by decide) hj0)
    refine me_opt (j := j1) e2 ?_
    obtain ⟨M3, eM3, h⟩ := bd_ob h
    refine me_thenv0 (M1 := M3) (me_runV (C := "FilterGuard$State") (As := [.ref (ad 9 j1)]) (rest := []) ⟨hx, hb, hml, hown, hts⟩ (c_State_copy l D ad ca N M M3 s0 j1 eM3 hwf hs0 hj1 _) rfl (by show fg_nm y_State_copy 1; decide +kernel) u_1074 u_1075 u_1076 u_189 u_1077 ⟨Nat.le_of_ble_eq_true rfl, Nat.le_of_ble_eq_true rfl⟩ hX hz hK hP hD hwf hS hA hs0 (by decide) rfl rfl rfl hl.1 (Nat.le_of_ble_eq_true rfl) d_Explorer_meetKept_130 (al_f hok)) hP hD hK hS hA rfl rfl (fun H locs hw hP hD hS => ?_)
    obtain ⟨hwf, hk9⟩ := hw
    refine lv_aload_n hx hb d_Explorer_meetKept_133 rfl (lv_at hl 0 rfl) ?_
    refine lv_iconst (v := 1) hx hb d_Explorer_meetKept_134 (by decide) ?_
    obtain ⟨M4, eM4, h⟩ := st_ob h
    refine p_State_4 eM4 hx hb hts hown hK hP hD hwf hS hs0 (by decide) (hts _ u_534) d_Explorer_meetKept_135 (fun H locs hP hD hwf hS => ?_)
    refine lv_aload_n hx hb d_Explorer_meetKept_138 rfl (lv_at hl 0 rfl) ?_
    refine lv_aload_n hx hb d_Explorer_meetKept_139 rfl (lv_at hl 1 rfl) ?_
    refine g_Explorer_9 hx hb hts hown hK hP hwf hj0 (hts _ u_555) d_Explorer_meetKept_140 ?_
    obtain ⟨M5, eM5, h⟩ := st_ob h
    refine p_State_3 eM5 hx hb hts hown hK hP hD hwf hS hs0 (hts _ u_533) d_Explorer_meetKept_143 (fun H locs hP hD hwf hS => ?_)
    refine lv_aload_n hx hb d_Explorer_meetKept_146 rfl (lv_at hl 1 rfl) ?_
    refine g_Explorer_3 hx hb hts hown hK hP hwf hj0 (hts _ u_549) d_Explorer_meetKept_147 ?_
    obtain ⟨j6, e7, h⟩ := bd_ob h
    have hj6 : j6 < N 17 := (hwf.2.1 4 j0 3 _ e7 (by decide) hj0)
    refine me_opt (j := j6) e7 ?_
    refine lv_aload_n hx hb d_Explorer_meetKept_150 rfl (lv_at hl 1 rfl) ?_
    refine g_Explorer_11 hx hb hts hown hK hP hwf hj0 (hts _ u_557) d_Explorer_meetKept_151 ?_
    refine lv_aload_n hx hb d_Explorer_meetKept_154 rfl (lv_at hl 0 rfl) ?_
    obtain ⟨g8, h⟩ := gd_ob h
    obtain ⟨M9, eM9, h⟩ := st_ob h
    refine me_aast (k := 17) (t := 9) eM9 hx hb hK hP hD hwf hS hj6 hs0 (by decide) (by decide) (by decide) rfl rfl (fun _ => rfl) g8 d_Explorer_meetKept_155 (fun H locs hP hD hwf hS => ?_)
    refine lv_aload_n hx hb d_Explorer_meetKept_156 rfl (lv_at hl 1 rfl) ?_
    refine lv_dup hx hb d_Explorer_meetKept_157 rfl ?_
    refine g_Explorer_11 hx hb hts hown hK hP hwf hj0 (hts _ u_557) d_Explorer_meetKept_158 ?_
    refine lv_iconst (v := 1) hx hb d_Explorer_meetKept_161 (by decide) ?_
    refine lv_iadd hx hb d_Explorer_meetKept_162 ?_
    obtain ⟨M10, eM10, h⟩ := st_ob h
    refine p_Explorer_11 eM10 hx hb hts hown hK hP hD hwf hS hj0 (hts _ u_557) d_Explorer_meetKept_163 (fun H locs hP hD hwf hS => ?_)
    refine lv_iconst (v := 0) hx hb d_Explorer_meetKept_166 (by decide) ?_
    exact al_reti h hx hb hr hlocks hwf hok hext0 hP hK hD hS d_Explorer_meetKept_167
  have b_2 : ∀ (fu : Nat), ∀ (ad : Nat → Nat → Nat) (N : Nat → Nat) (M : me_M) (y1 : Int32) (H : Heap) (locs : List Loc) (ls : Array Slot), f_Explorer_meetKept_l2 j0 fu M y1 = (some (MZ, RZ)) → me_wf N M → me_ok N0 N → (∀ a b, b < N0 a → ad a b = ad0 a b) → va_P D classes (me_W ad ca M) H → va_D A (me_W ad ca M) → va_S A s.heap H locs → lv_has ls 2 [(0, .ref (ad 4 j0)), (1, .int y1)] → W p l e (rm_Explorer_meetKept N0) s m [.ref (ad0 4 j0)].toArray below meth c H locs (me_cN N - me_cN N0) (me_sN N - me_sN N0) (MQ below (q_Explorer_meetKept D ad0 ca N0 MZ RZ A) [.ref (ad0 4 j0)].toArray s (me_cN (mN MZ) - me_cN N0) (me_sN (mN MZ) - me_sN N0) A) (F0 m 2 ls []) := by
    intro fu
    induction fu with
    | zero =>
      intro ad N M y1 H locs ls h hwf hok hext0 hP hD hS hl
      cases h
    | succ fu ih =>
      intro ad N M y1 H locs ls h hwf hok hext0 hP hD hS hl
      unfold f_Explorer_meetKept_l2 at h
      have hj0 : j0 < N 4 := Nat.lt_of_lt_of_le hj0 (hok.2.2.2.2 4)
      refine lv_iload_n hx hb d_Explorer_meetKept_2 rfl (lv_at hl 1 rfl) ?_
      refine lv_aload_n hx hb d_Explorer_meetKept_3 rfl (lv_at hl 0 rfl) ?_
      refine g_Explorer_11 hx hb hts hown hK hP hwf hj0 (hts _ u_557) d_Explorer_meetKept_4 ?_
      refine lv_icmp_ge (tgt := 83) hx hb d_Explorer_meetKept_7 (by decide) (fun c11 => ?_) (fun c11 => ?_)
      · have h := if_t c11 h
        refine lv_aload_n hx hb d_Explorer_meetKept_83 rfl (lv_at hl 0 rfl) ?_
        refine g_Explorer_11 hx hb hts hown hK hP hwf hj0 (hts _ u_557) d_Explorer_meetKept_84 ?_
        refine lv_sipush (v := 200) hx hb d_Explorer_meetKept_87 (by decide) ?_
        refine lv_icmp_ge (tgt := 166) hx hb d_Explorer_meetKept_90 (by decide) (fun c12 => ?_) (fun c12 => ?_)
        · have h := if_t c12 h
          refine lv_iconst (v := 0) hx hb d_Explorer_meetKept_166 (by decide) ?_
          exact al_reti h hx hb hr hlocks hwf hok hext0 hP hK hD hS d_Explorer_meetKept_167
        have h := if_f c12 h
        refine lv_aload_n hx hb d_Explorer_meetKept_93 rfl (lv_at hl 0 rfl) ?_
        refine g_Explorer_3 hx hb hts hown hK hP hwf hj0 (hts _ u_549) d_Explorer_meetKept_94 ?_
        obtain ⟨j13, e14, h⟩ := bd_ob h
        have hj13 : j13 < N 17 := (hwf.2.1 4 j0 3 _ e14 (by decide) hj0)
        refine me_opt (j := j13) e14 ?_
        refine lv_aload_n hx hb d_Explorer_meetKept_97 rfl (lv_at hl 0 rfl) ?_
        refine g_Explorer_11 hx hb hts hown hK hP hwf hj0 (hts _ u_557) d_Explorer_meetKept_98 ?_
        obtain ⟨g15, h⟩ := gd_ob h
        refine me_aald (k := 17) (t := 9) hx hb hK hP hwf hj13 (by decide) (by decide) rfl (fun _ => rfl) g15 d_Explorer_meetKept_101 ?_
        rcases e17 : (mR M 17 j13 ((mI M 4 j0 11).toNatClampNeg)) with _ | j16
        · have h := oc_n2 e17 h
          refine lv_ifnonnullN hx hb d_Explorer_meetKept_102 ?_
          obtain ⟨g18, h⟩ := gd_ob h
          obtain ⟨M19, eM19, h⟩ := st_ob h
          refine al_new (k := 9) (fs := [.null, .int 0, .int 0, .int 0, .int 0]) (C := "FilterGuard$State") (T := F_State) (Nf := 5) eM19 g18 hx hb hts i_State t_State t_State_ok hown (hts _ u_347) (hts _ u_515) (hts _ u_189) hK hP hD hwf hok hS hA (by decide) rfl (by decide) z_State rfl rfl rfl d_Explorer_meetKept_105 (fun ad N H hext hNN hn20 hwf hok1 hP hD hS => ?_)
          have hext0 := al_ext hext hext0 hok
          have hok := hok1
          have hl : lv_has ls 2 [(0, .ref (ad 4 j0)), (1, .int y1)] := by rw [hext 4 j0 hj0]; exact hl
          have hj0 : j0 < N 4 := Nat.lt_of_lt_of_le hj0 (hNN 4)
          refine lv_dup hx hb d_Explorer_meetKept_108 rfl ?_
          obtain ⟨M21, eM21, h⟩ := bd_ob h
          refine al_thenv (M1 := M21) (al_runI (As := []) (rest := [.ref (ad 9 (mN M 9))]) ⟨hx, hb, hml, hown, hts⟩ (c_State_init l D ad ca N M19 M21 (mN M 9) eM21 hwf ⟨hok.2.2.1, hok.2.2.2.1⟩ hn20 _) rfl (by show fg_nm y_State_init 0; decide +kernel) u_516 u_517 u_189 u_518 ⟨Nat.le_of_ble_eq_true rfl, Nat.le_of_ble_eq_true rfl⟩ hX hz hK hP hD hS hA rfl hl.1 (Nat.le_of_ble_eq_true rfl) d_Explorer_meetKept_109 (al_g hok)) hP hD hok hK hS hA (fun ad N H locs hext hNN hwf hok1 heN hq9 hP hD hS => ?_)
          have hext0 := al_ext hext hext0 hok
          have hok := hok1
          have hl : lv_has ls 2 [(0, .ref (ad 4 j0)), (1, .int y1)] := by rw [hext 4 j0 hj0]; exact hl
          refine W.eq (g2 := F0 m 112 ls [.ref (ad 9 (mN M 9))]) (by rw [hext 9 (mN M 9) hn20]) ?_
          have hj0 : j0 < N 4 := Nat.lt_of_lt_of_le hj0 (hNN 4)
          have hn20 : (mN M 9) < N 9 := Nat.lt_of_lt_of_le hn20 (hNN 9)
          refine lv_goto (tgt := 124) hx hb d_Explorer_meetKept_112 (by decide) ?_
          exact b_124 ad N M21 (mN M 9) _ _ _ h hn20 hwf hok hext0 hP hD hS (lv_sub hl [0] rfl)
        have h := oc_s2 e17 h
        refine lv_ifnonnull (tgt := 115) hx hb d_Explorer_meetKept_102 (by decide) ?_
        refine lv_aload_n hx hb d_Explorer_meetKept_115 rfl (lv_at hl 0 rfl) ?_
        refine g_Explorer_3 hx hb hts hown hK hP hwf hj0 (hts _ u_549) d_Explorer_meetKept_116 ?_
        refine me_opt (j := j13) e14 ?_
        refine lv_aload_n hx hb d_Explorer_meetKept_119 rfl (lv_at hl 0 rfl) ?_
        refine g_Explorer_11 hx hb hts hown hK hP hwf hj0 (hts _ u_557) d_Explorer_meetKept_120 ?_
        refine me_aald (k := 17) (t := 9) hx hb hK hP hwf hj13 (by decide) (by decide) rfl (fun _ => rfl) g15 d_Explorer_meetKept_123 ?_
        obtain ⟨j22, e23, h⟩ := bd_ob h
        have hj22 : j22 < N 9 := (hwf.2.1 17 j13 ((mI M 4 j0 11).toNatClampNeg) _ e23 (by decide) hj13)
        refine me_opt (j := j22) e23 ?_
        exact b_124 ad N M j22 _ _ _ h hj22 hwf hok hext0 hP hD hS (lv_sub hl [0] rfl)
      have h := if_f c11 h
      refine lv_aload_n hx hb d_Explorer_meetKept_10 rfl (lv_at hl 0 rfl) ?_
      refine g_Explorer_3 hx hb hts hown hK hP hwf hj0 (hts _ u_549) d_Explorer_meetKept_11 ?_
      obtain ⟨j24, e25, h⟩ := bd_ob h
      have hj24 : j24 < N 17 := (hwf.2.1 4 j0 3 _ e25 (by decide) hj0)
      refine me_opt (j := j24) e25 ?_
      refine lv_iload_n hx hb d_Explorer_meetKept_14 rfl (lv_at hl 1 rfl) ?_
      obtain ⟨g26, h⟩ := gd_ob h
      refine me_aald (k := 17) (t := 9) hx hb hK hP hwf hj24 (by decide) (by decide) rfl (fun _ => rfl) g26 d_Explorer_meetKept_15 ?_
      obtain ⟨j27, e28, h⟩ := bd_ob h
      have hj27 : j27 < N 9 := (hwf.2.1 17 j24 y1.toNatClampNeg _ e28 (by decide) hj24)
      refine me_opt (j := j27) e28 ?_
      refine g_State_2 hx hb hts hown hK hP hwf hj27 (hts _ u_531) d_Explorer_meetKept_16 ?_
      refine lv_aload_n hx hb d_Explorer_meetKept_19 rfl (lv_at hl 0 rfl) ?_
      refine g_Explorer_8 hx hb hts hown hK hP hwf hj0 (hts _ u_554) d_Explorer_meetKept_20 ?_
      obtain ⟨j29, e30, h⟩ := bd_ob h
      have hj29 : j29 < N 9 := (hwf.2.1 4 j0 8 _ e30 (by decide) hj0)
      refine me_opt (j := j29) e30 ?_
      refine g_State_2 hx hb hts hown hK hP hwf hj29 (hts _ u_531) d_Explorer_meetKept_23 ?_
      refine lv_icmp_ne (tgt := 77) hx hb d_Explorer_meetKept_26 (by decide) (fun c31 => ?_) (fun c31 => ?_)
      · have h := if_f c31 h
        refine lv_iinc (v := y1 + 1) (lv' := [(1, .int (y1 + 1)), (0, .ref (ad 4 j0))]) hx hb d_Explorer_meetKept_77 hl (k := 1) rfl (by rfl) (by decide) rfl (fun ls hl => ?_)
        refine lv_goto (tgt := 2) hx hb d_Explorer_meetKept_80 (by decide) ?_
        exact ih ad N M (y1 + 1) _ _ _ h hwf hok hext0 hP hD hS (lv_sub hl [1, 0] rfl)
      have h := if_t c31 h
      refine lv_aload_n hx hb d_Explorer_meetKept_29 rfl (lv_at hl 0 rfl) ?_
      refine lv_aload_n hx hb d_Explorer_meetKept_30 rfl (lv_at hl 0 rfl) ?_
      refine g_Explorer_3 hx hb hts hown hK hP hwf hj0 (hts _ u_549) d_Explorer_meetKept_31 ?_
      refine me_opt (j := j24) e25 ?_
      refine lv_iload_n hx hb d_Explorer_meetKept_34 rfl (lv_at hl 1 rfl) ?_
      refine me_aald (k := 17) (t := 9) hx hb hK hP hwf hj24 (by decide) (by decide) rfl (fun _ => rfl) g26 d_Explorer_meetKept_35 ?_
      refine me_opt (j := j27) e28 ?_
      obtain ⟨M32, r33, eM32, h⟩ := b2_ob h
      refine me_theni0 (M1 := M32) (me_runV (C := "FilterGuard$Explorer") (As := [.ref (ad 9 j27)]) (rest := []) ⟨hx, hb, hml, hown, hts⟩ (c_Explorer_isWithin l D ad ca N M M32 r33 j0 j27 eM32 hwf hj0 hj27 _) rfl (by show fg_nm y_Explorer_isWithin 1; decide +kernel) u_1049 u_1051 u_14 u_184 u_1052 ⟨Nat.le_of_ble_eq_true rfl, Nat.le_of_ble_eq_true rfl⟩ hX hz hK hP hD hwf hS hA hj0 (by decide) rfl rfl rfl hl.1 (Nat.le_of_ble_eq_true rfl) d_Explorer_meetKept_36 (al_f hok)) hP hD hK hS hA rfl rfl (fun H locs hw hP hD hS => ?_)
      obtain ⟨hwf, hk9, zr33⟩ := hw
      refine lv_if_eq (tgt := 77) hx hb d_Explorer_meetKept_39 (by decide) (fun c34 => ?_) (fun c34 => ?_)
      · have h := if_t c34 h
        refine lv_iinc (v := y1 + 1) (lv' := [(1, .int (y1 + 1)), (0, .ref (ad 4 j0))]) hx hb d_Explorer_meetKept_77 hl (k := 1) rfl (by rfl) (by decide) rfl (fun ls hl => ?_)
        refine lv_goto (tgt := 2) hx hb d_Explorer_meetKept_80 (by decide) ?_
        exact ih ad N M32 (y1 + 1) _ _ _ h hwf hok hext0 hP hD hS (lv_sub hl [1, 0] rfl)
      have h := if_f c34 h
      refine lv_aload_n hx hb d_Explorer_meetKept_42 rfl (lv_at hl 0 rfl) ?_
      refine lv_aload_n hx hb d_Explorer_meetKept_43 rfl (lv_at hl 0 rfl) ?_
      refine g_Explorer_3 hx hb hts hown hK hP hwf hj0 (hts _ u_549) d_Explorer_meetKept_44 ?_
      obtain ⟨j35, e36, h⟩ := bd_ob h
      have hj35 : j35 < N 17 := (hwf.2.1 4 j0 3 _ e36 (by decide) hj0)
      refine me_opt (j := j35) e36 ?_
      refine lv_iload_n hx hb d_Explorer_meetKept_47 rfl (lv_at hl 1 rfl) ?_
      obtain ⟨g37, h⟩ := gd_ob h
      refine me_aald (k := 17) (t := 9) hx hb hK hP hwf hj35 (by decide) (by decide) rfl (fun _ => rfl) g37 d_Explorer_meetKept_48 ?_
      obtain ⟨j38, e39, h⟩ := bd_ob h
      have hj38 : j38 < N 9 := (hwf.2.1 17 j35 y1.toNatClampNeg _ e39 (by decide) hj35)
      refine me_opt (j := j38) e39 ?_
      refine g_State_4 hx hb hts hown hK hP hwf hj38 (hts _ u_534) d_Explorer_meetKept_49 ?_
      have z40 := (hwf.2.2.2 9 j38 4 rfl)
      refine lv_if_ne (tgt := 59) hx hb d_Explorer_meetKept_52 (by decide) (fun c41 => ?_) (fun c41 => ?_)
      · have h := if_f c41 h
        refine lv_iconst (v := 0) hx hb d_Explorer_meetKept_59 (by decide) ?_
        obtain ⟨M42, eM42, h⟩ := st_ob h
        refine p_Explorer_10 eM42 hx hb hts hown hK hP hD hwf hS hj0 (by decide) (hts _ u_556) d_Explorer_meetKept_60 (fun H locs hP hD hwf hS => ?_)
        refine lv_aload_n hx hb d_Explorer_meetKept_63 rfl (lv_at hl 0 rfl) ?_
        refine g_Explorer_10 hx hb hts hown hK hP hwf hj0 (hts _ u_556) d_Explorer_meetKept_64 ?_
        have z43 := (hwf.2.2.2 4 j0 10 rfl)
        refine lv_if_eq (tgt := 74) hx hb d_Explorer_meetKept_67 (by decide) (fun c44 => ?_) (fun c44 => ?_)
        · have h := if_t c44 h
          refine lv_bipush (v := 19) hx hb d_Explorer_meetKept_74 (by decide) ?_
          exact al_reti h hx hb hr hlocks hwf hok hext0 hP hK hD hS d_Explorer_meetKept_76
        have h := if_f c44 h
        refine lv_iconst (v := 0) hx hb d_Explorer_meetKept_70 (by decide) ?_
        refine lv_goto (tgt := 76) hx hb d_Explorer_meetKept_71 (by decide) ?_
        exact al_reti h hx hb hr hlocks hwf hok hext0 hP hK hD hS d_Explorer_meetKept_76
      have h := if_t c41 h
      refine lv_iconst (v := 1) hx hb d_Explorer_meetKept_55 (by decide) ?_
      refine lv_goto (tgt := 60) hx hb d_Explorer_meetKept_56 (by decide) ?_
      obtain ⟨M45, eM45, h⟩ := st_ob h
      refine p_Explorer_10 eM45 hx hb hts hown hK hP hD hwf hS hj0 (by decide) (hts _ u_556) d_Explorer_meetKept_60 (fun H locs hP hD hwf hS => ?_)
      refine lv_aload_n hx hb d_Explorer_meetKept_63 rfl (lv_at hl 0 rfl) ?_
      refine g_Explorer_10 hx hb hts hown hK hP hwf hj0 (hts _ u_556) d_Explorer_meetKept_64 ?_
      have z46 := (hwf.2.2.2 4 j0 10 rfl)
      refine lv_if_eq (tgt := 74) hx hb d_Explorer_meetKept_67 (by decide) (fun c47 => ?_) (fun c47 => ?_)
      · have h := if_t c47 h
        refine lv_bipush (v := 19) hx hb d_Explorer_meetKept_74 (by decide) ?_
        exact al_reti h hx hb hr hlocks hwf hok hext0 hP hK hD hS d_Explorer_meetKept_76
      have h := if_f c47 h
      refine lv_iconst (v := 0) hx hb d_Explorer_meetKept_70 (by decide) ?_
      refine lv_goto (tgt := 76) hx hb d_Explorer_meetKept_71 (by decide) ?_
      exact al_reti h hx hb hr hlocks hwf hok hext0 hP hK hD hS d_Explorer_meetKept_76
  obtain ⟨ad, N, hext0, hok, hwf, hP, hD, hN9, had9, hj0⟩ : ∃ (ad : Nat → Nat → Nat) (N : Nat → Nat), (∀ a b, b < N0 a → ad a b = ad0 a b) ∧ me_ok N0 N ∧ me_wf N M0 ∧ va_P D classes (me_W ad ca M0) s.heap ∧ va_D A (me_W ad ca M0) ∧ N = N0 ∧ ad = ad0 ∧ j0 < N 4 := ⟨ad0, N0, fun _ _ _ => rfl, hok, hwf, hP, hD, rfl, rfl, hj0⟩
  have hl : lv_has ls 2 [(0, .ref (ad 4 j0))] := by rw [had9]; exact hl
  have hcs : W p l e (rm_Explorer_meetKept N0) s m [.ref (ad0 4 j0)].toArray below meth c s.heap [] (me_cN N - me_cN N0) (me_sN N - me_sN N0) (MQ below (q_Explorer_meetKept D ad0 ca N0 MZ RZ A) [.ref (ad0 4 j0)].toArray s (me_cN (mN MZ) - me_cN N0) (me_sN (mN MZ) - me_sN N0) A) (F0 m 0 ls []) := by
    clear had9
    refine lv_iconst (v := 0) hx hb d_Explorer_meetKept_0 (by decide) ?_
    refine lv_istore_n (lv' := [(1, .int 0), (0, .ref (ad 4 j0))]) hx hb d_Explorer_meetKept_1 rfl hl (by decide) rfl (fun ls hl => ?_)
    exact b_2 _ ad N M0 (0 : Int32) _ _ _ h hwf hok hext0 hP hD hS (lv_sub hl [1, 0] rfl)
  rw [hN9] at hcs
  exact hcs
