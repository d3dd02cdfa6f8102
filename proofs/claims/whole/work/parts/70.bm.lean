theorem d_G_areaOf_0 : decode prog_1_method_20_code 0 = .ok (.lload_n 0, 1) := by decide +kernel
theorem d_G_areaOf_1 : decode prog_1_method_20_code 1 = .ok (.ldc2_w 240, 3) := by decide +kernel
theorem u_1696 : Cond.constantLong "FilterGuard" 240 549755813888 ∈ fg_g := fg_in (List.mem_of_getElem? (i := 1696) (by decide +kernel)) rfl
theorem d_G_areaOf_4 : decode prog_1_method_20_code 4 = .ok (.ladd, 1) := by decide +kernel
theorem d_G_areaOf_5 : decode prog_1_method_20_code 5 = .ok (.bipush 40, 2) := by decide +kernel
theorem d_G_areaOf_7 : decode prog_1_method_20_code 7 = .ok (.lshr, 1) := by decide +kernel
theorem d_G_areaOf_8 : decode prog_1_method_20_code 8 = .ok (.l2i, 1) := by decide +kernel
theorem d_G_areaOf_9 : decode prog_1_method_20_code 9 = .ok (.ireturn, 1) := by decide +kernel
abbrev y_G_areaOf : MethodName := ⟨"FilterGuard", "areaOf", "(J)I"⟩
def f_G_areaOf (x0 : Int64) : Option Int32 := some ((jlshr (x0 + 549755813888) (40 : Int32)).toInt32)
def rm_G_areaOf : Room := { frames := 1, cells := 0, slots := 0, locals := 20 }
abbrev q_G_areaOf (D : va_G) (RZ : Int32) (A : Nat → Prop) : Array Value → Jvm.State → Outcome → Jvm.State → Prop := va_Qi (fun r (_ : Unit) => r = RZ ∧ True) (fg_B D A (fun _ => []) (fun _ => [])) A
set_option maxHeartbeats 4000000 in
set_option maxRecDepth 100000 in
theorem c_G_areaOf (l : Launch) (D : va_G) (RZ : Int32) (x0 : Int64) (h : f_G_areaOf x0 = (some RZ)) (sz : Nat) : Met l y_G_areaOf (fg_w y_G_areaOf prog_1_method_20_code 2 (some .int)) rm_G_areaOf (va_Pc [.long x0] (fg_P D [] [] sz)) (q_G_areaOf D RZ (va_A [] sz)) rm_G_areaOf.cells rm_G_areaOf.slots (va_A [] sz) := by
  refine fg_enter (fun A => q_G_areaOf D RZ A) (by decide +kernel) (Nat.le_of_ble_eq_true rfl) ?_
  intro p e s m below meth c ls A hx hb hml hown hts hr hlocks hin hP hK hD hS hA hX hl
  have hl : lv_has ls 2 [(0, .long x0)] := hl
  unfold f_G_areaOf at h
  refine lv_lload_n hx hb d_G_areaOf_0 rfl (lv_at hl 0 rfl) ?_
  refine lv_ldc2 hx hb hown (hts _ u_1696) d_G_areaOf_1 ?_
  refine lv_ladd hx hb d_G_areaOf_4 ?_
  refine lv_bipush (v := 40) hx hb d_G_areaOf_5 (by decide) ?_
  refine lv_lshr (v := jlshr (x0 + 549755813888) (40 : Int32)) hx hb d_G_areaOf_7 rfl ?_
  refine lv_l2i (v := (jlshr (x0 + 549755813888) (40 : Int32)).toInt32) hx hb d_G_areaOf_8 rfl ?_
  exact me_preti h hx hb hr hlocks hK hS d_G_areaOf_9
theorem d_Machine_locateValue_0 : decode prog_7_method_13_code 0 = .ok (.iload_n 1, 1) := by decide +kernel
theorem d_Machine_locateValue_1 : decode prog_7_method_13_code 1 = .ok (.iconst 4, 1) := by decide +kernel
theorem d_Machine_locateValue_2 : decode prog_7_method_13_code 2 = .ok (.if_icmp .ge 12, 3) := by decide +kernel
theorem d_Machine_locateValue_14 : decode prog_7_method_13_code 14 = .ok (.iconst 0, 1) := by decide +kernel
theorem d_Machine_locateValue_15 : decode prog_7_method_13_code 15 = .ok (.ireturn, 1) := by decide +kernel
theorem d_Machine_locateValue_5 : decode prog_7_method_13_code 5 = .ok (.aload_n 0, 1) := by decide +kernel
theorem d_Machine_locateValue_6 : decode prog_7_method_13_code 6 = .ok (.getfield 35, 3) := by decide +kernel
theorem g_Machine_2 {p : Program} {l : Launch} {e : Env} {R : Room} {s : Jvm.State} {m : MethodId} {args : Array Value} {below : List Frame} {meth : Method} {c : Code} {H : Heap} {locs : List Loc} {cells slots : Nat} {Q : Jvm.State → Prop} {cc : ByteArray} {pc : Nat} {ls : Array Slot} {rest : List Value} {D : va_G} {ad : Nat → Nat → Nat} {ca : Nat → ClassId} {M : me_M} {N : Nat → Nat} {own : String} {index j : Nat} (hexec : p.tables.exec = Jvm.exec) (hb : c.code = cc) (hts : ∀ w ∈ fg_g, w.before args s = true) (hown : s.vm.findClass own = some m.cls) (hK : va_K D classes (me_T ca) s) (hP : va_P D classes (me_W ad ca M) H) (hwf : me_wf N M) (hj : j < N 5) (hlink : (Cond.fieldLink own index "FilterGuard$Machine" "stores" "[LFilterGuard$Store;").before args s = true) (hdg : decode cc pc = .ok (.getfield index, 3)) (kk : W p l e R s m args below meth c H locs cells slots Q (F0 m (pc + 3) ls (va_rf ((mR M 5 j 2).map (ad 19)) :: rest))) : W p l e R s m args below meth c H locs cells slots Q (F0 m pc ls (.ref (ad 5 j) :: rest)) := me_get (k := 5) (f := 2) (C := "FilterGuard$Machine") (T := F_Machine) (Nf := 20) hexec hb hts i_Machine hown hK hP hwf hj (by decide) rfl (by decide) (by decide) hlink (fun _ h9 => h9) hdg kk
theorem d_Machine_locateValue_9 : decode prog_7_method_13_code 9 = .ok (.iload_n 1, 1) := by decide +kernel
theorem d_Machine_locateValue_10 : decode prog_7_method_13_code 10 = .ok (.aaload, 1) := by decide +kernel
theorem d_Machine_locateValue_11 : decode prog_7_method_13_code 11 = .ok (.ifnonnull 5, 3) := by decide +kernel
theorem d_Machine_locateValue_16 : decode prog_7_method_13_code 16 = .ok (.aload_n 0, 1) := by decide +kernel
theorem d_Machine_locateValue_17 : decode prog_7_method_13_code 17 = .ok (.getfield 35, 3) := by decide +kernel
theorem d_Machine_locateValue_20 : decode prog_7_method_13_code 20 = .ok (.iload_n 1, 1) := by decide +kernel
theorem d_Machine_locateValue_21 : decode prog_7_method_13_code 21 = .ok (.aaload, 1) := by decide +kernel
theorem d_Machine_locateValue_22 : decode prog_7_method_13_code 22 = .ok (.astore 5, 2) := by decide +kernel
theorem d_Machine_locateValue_24 : decode prog_7_method_13_code 24 = .ok (.lload_n 2, 1) := by decide +kernel
theorem d_Machine_locateValue_25 : decode prog_7_method_13_code 25 = .ok (.ldc2_w 231, 3) := by decide +kernel
theorem u_1702 : Cond.constantLong "FilterGuard$Machine" 231 524288 ∈ fg_g := fg_in (List.mem_of_getElem? (i := 1702) (by decide +kernel)) rfl
theorem d_Machine_locateValue_28 : decode prog_7_method_13_code 28 = .ok (.ladd, 1) := by decide +kernel
theorem d_Machine_locateValue_29 : decode prog_7_method_13_code 29 = .ok (.bipush 20, 2) := by decide +kernel
theorem d_Machine_locateValue_31 : decode prog_7_method_13_code 31 = .ok (.lshr, 1) := by decide +kernel
theorem d_Machine_locateValue_32 : decode prog_7_method_13_code 32 = .ok (.lstore 6, 2) := by decide +kernel
theorem d_Machine_locateValue_34 : decode prog_7_method_13_code 34 = .ok (.lload_n 2, 1) := by decide +kernel
theorem d_Machine_locateValue_35 : decode prog_7_method_13_code 35 = .ok (.lload 6, 2) := by decide +kernel
theorem d_Machine_locateValue_37 : decode prog_7_method_13_code 37 = .ok (.bipush 20, 2) := by decide +kernel
theorem d_Machine_locateValue_39 : decode prog_7_method_13_code 39 = .ok (.lshl, 1) := by decide +kernel
theorem d_Machine_locateValue_40 : decode prog_7_method_13_code 40 = .ok (.lsub, 1) := by decide +kernel
theorem d_Machine_locateValue_41 : decode prog_7_method_13_code 41 = .ok (.lstore 8, 2) := by decide +kernel
theorem d_Machine_locateValue_43 : decode prog_7_method_13_code 43 = .ok (.aload_n 0, 1) := by decide +kernel
theorem d_Machine_locateValue_44 : decode prog_7_method_13_code 44 = .ok (.aload 5, 2) := by decide +kernel
theorem d_Machine_locateValue_46 : decode prog_7_method_13_code 46 = .ok (.getfield 233, 3) := by decide +kernel
theorem u_916 : Cond.fieldLink "FilterGuard$Machine" 233 "FilterGuard$Store" "values" "[B" ∈ fg_g := fg_in (List.mem_of_getElem? (i := 916) (by decide +kernel)) rfl
theorem d_Machine_locateValue_49 : decode prog_7_method_13_code 49 = .ok (.putfield 51, 3) := by decide +kernel
theorem d_Machine_locateValue_52 : decode prog_7_method_13_code 52 = .ok (.aload_n 0, 1) := by decide +kernel
theorem d_Machine_locateValue_53 : decode prog_7_method_13_code 53 = .ok (.lload 6, 2) := by decide +kernel
theorem d_Machine_locateValue_55 : decode prog_7_method_13_code 55 = .ok (.aload 5, 2) := by decide +kernel
theorem d_Machine_locateValue_57 : decode prog_7_method_13_code 57 = .ok (.getfield 238, 3) := by decide +kernel
theorem u_909 : Cond.fieldLink "FilterGuard$Machine" 238 "FilterGuard$Store" "valueBytes" "I" ∈ fg_g := fg_in (List.mem_of_getElem? (i := 909) (by decide +kernel)) rfl
theorem d_Machine_locateValue_60 : decode prog_7_method_13_code 60 = .ok (.i2l, 1) := by decide +kernel
theorem d_Machine_locateValue_61 : decode prog_7_method_13_code 61 = .ok (.lmul, 1) := by decide +kernel
theorem d_Machine_locateValue_62 : decode prog_7_method_13_code 62 = .ok (.lload 8, 2) := by decide +kernel
theorem d_Machine_locateValue_64 : decode prog_7_method_13_code 64 = .ok (.ladd, 1) := by decide +kernel
theorem d_Machine_locateValue_65 : decode prog_7_method_13_code 65 = .ok (.l2i, 1) := by decide +kernel
theorem d_Machine_locateValue_66 : decode prog_7_method_13_code 66 = .ok (.putfield 64, 3) := by decide +kernel
theorem d_Machine_locateValue_69 : decode prog_7_method_13_code 69 = .ok (.lload 6, 2) := by decide +kernel
theorem d_Machine_locateValue_71 : decode prog_7_method_13_code 71 = .ok (.lconst 0, 1) := by decide +kernel
theorem d_Machine_locateValue_72 : decode prog_7_method_13_code 72 = .ok (.lcmp, 1) := by decide +kernel
theorem d_Machine_locateValue_73 : decode prog_7_method_13_code 73 = .ok (.ifCond .lt 42, 3) := by decide +kernel
theorem d_Machine_locateValue_115 : decode prog_7_method_13_code 115 = .ok (.iconst 0, 1) := by decide +kernel
theorem d_Machine_locateValue_116 : decode prog_7_method_13_code 116 = .ok (.ireturn, 1) := by decide +kernel
theorem d_Machine_locateValue_76 : decode prog_7_method_13_code 76 = .ok (.lload 6, 2) := by decide +kernel
theorem d_Machine_locateValue_78 : decode prog_7_method_13_code 78 = .ok (.aload 5, 2) := by decide +kernel
theorem d_Machine_locateValue_80 : decode prog_7_method_13_code 80 = .ok (.getfield 241, 3) := by decide +kernel
theorem u_913 : Cond.fieldLink "FilterGuard$Machine" 241 "FilterGuard$Store" "entries" "I" ∈ fg_g := fg_in (List.mem_of_getElem? (i := 913) (by decide +kernel)) rfl
theorem d_Machine_locateValue_83 : decode prog_7_method_13_code 83 = .ok (.i2l, 1) := by decide +kernel
theorem d_Machine_locateValue_84 : decode prog_7_method_13_code 84 = .ok (.lcmp, 1) := by decide +kernel
theorem d_Machine_locateValue_85 : decode prog_7_method_13_code 85 = .ok (.ifCond .ge 30, 3) := by decide +kernel
theorem d_Machine_locateValue_88 : decode prog_7_method_13_code 88 = .ok (.lload 8, 2) := by decide +kernel
theorem d_Machine_locateValue_90 : decode prog_7_method_13_code 90 = .ok (.lconst 0, 1) := by decide +kernel
theorem d_Machine_locateValue_91 : decode prog_7_method_13_code 91 = .ok (.lcmp, 1) := by decide +kernel
theorem d_Machine_locateValue_92 : decode prog_7_method_13_code 92 = .ok (.ifCond .lt 23, 3) := by decide +kernel
theorem d_Machine_locateValue_95 : decode prog_7_method_13_code 95 = .ok (.lload 8, 2) := by decide +kernel
theorem d_Machine_locateValue_97 : decode prog_7_method_13_code 97 = .ok (.iload 4, 2) := by decide +kernel
theorem d_Machine_locateValue_99 : decode prog_7_method_13_code 99 = .ok (.i2l, 1) := by decide +kernel
theorem d_Machine_locateValue_100 : decode prog_7_method_13_code 100 = .ok (.ladd, 1) := by decide +kernel
theorem d_Machine_locateValue_101 : decode prog_7_method_13_code 101 = .ok (.aload 5, 2) := by decide +kernel
theorem d_Machine_locateValue_103 : decode prog_7_method_13_code 103 = .ok (.getfield 238, 3) := by decide +kernel
theorem d_Machine_locateValue_106 : decode prog_7_method_13_code 106 = .ok (.i2l, 1) := by decide +kernel
theorem d_Machine_locateValue_107 : decode prog_7_method_13_code 107 = .ok (.lcmp, 1) := by decide +kernel
theorem d_Machine_locateValue_108 : decode prog_7_method_13_code 108 = .ok (.ifCond .gt 7, 3) := by decide +kernel
theorem d_Machine_locateValue_111 : decode prog_7_method_13_code 111 = .ok (.iconst 1, 1) := by decide +kernel
theorem d_Machine_locateValue_112 : decode prog_7_method_13_code 112 = .ok (.goto 4, 3) := by decide +kernel
abbrev y_Machine_locateValue : MethodName := ⟨"FilterGuard$Machine", "locateValue", "(IJI)Z"⟩
def f_Machine_locateValue (M0 : me_M) (j0 : Nat) (x1 : Int32) (x2 : Int64) (x4 : Int32) : Option (me_M × Int32) := (if 4 ≤ x1 then some (M0, (0 : Int32)) else bd (mR M0 5 j0 2) (fun (j2 : Nat) => gd (¬ (x1 < 0 ∨ mZ M0 19 j2 ≤ x1.toNatClampNeg)) (oc (mR M0 19 j2 x1.toNatClampNeg) (some (M0, (0 : Int32))) (fun (_ : Nat) => bd (mR M0 19 j2 x1.toNatClampNeg) (fun (j7 : Nat) => st (jlshr (x2 + 524288) (20 : Int32)) (fun (v9 : Int64) => st (x2 - (jlshl v9 (20 : Int32))) (fun (v10 : Int64) => bd (mR M0 12 j7 5) (fun (j11 : Nat) => st (wR M0 5 j0 18 (some j11)) (fun (M13 : me_M) => st (wI M13 5 j0 19 (((v9 * ((mI M13 12 j7 2).toInt64)) + v10).toInt32)) (fun (M14 : me_M) => (if v9 < 0 then some (M14, (0 : Int32)) else (if v9 < ((mI M14 12 j7 3).toInt64) then (if v10 < 0 then some (M14, (0 : Int32)) else (if ((mI M14 12 j7 2).toInt64) < (v10 + x4.toInt64) then some (M14, (0 : Int32)) else some (M14, (1 : Int32)))) else some (M14, (0 : Int32))))))))))))))
def rm_Machine_locateValue : Room := { frames := 1, cells := 0, slots := 0, locals := 20 }
abbrev q_Machine_locateValue (D : va_G) (ad : Nat → Nat → Nat) (ca : Nat → ClassId) (N : Nat → Nat) (M0 MZ : me_M) (RZ : Int32) (A : Nat → Prop) : Array Value → Jvm.State → Outcome → Jvm.State → Prop := va_Qi (fun r (_ : Unit) => r = RZ ∧ me_wf N MZ ∧ me_kz M0 MZ ∧ (RZ = 1 ∨ RZ = 0)) (fg_B D A (fun _ => me_W ad ca MZ) (fun _ => [])) A
set_option maxHeartbeats 4000000 in
set_option maxRecDepth 100000 in
theorem c_Machine_locateValue (l : Launch) (D : va_G) (ad : Nat → Nat → Nat) (ca : Nat → ClassId) (N : Nat → Nat) (M0 MZ : me_M) (RZ : Int32) (j0 : Nat) (x1 : Int32) (x2 : Int64) (x4 : Int32) (h : f_Machine_locateValue M0 j0 x1 x2 x4 = (some (MZ, RZ))) (hwf : me_wf N M0) (hj0 : j0 < N 5) (sz : Nat) : Met l y_Machine_locateValue (fg_w y_Machine_locateValue prog_7_method_13_code 10 (some .boolean)) rm_Machine_locateValue (va_Pc [.ref (ad 5 j0), .int x1, .long x2, .int x4] (fz_P D (me_T ca) (me_W ad ca M0) sz)) (q_Machine_locateValue D ad ca N M0 MZ RZ (va_A (me_W ad ca M0) sz)) rm_Machine_locateValue.cells rm_Machine_locateValue.slots (va_A (me_W ad ca M0) sz) := by
  refine fz_enter (fun A => q_Machine_locateValue D ad ca N M0 MZ RZ A) (by decide +kernel) (Nat.le_of_ble_eq_true rfl) ?_
  intro p e s m below meth c ls A hx hb hml hown hts hr hlocks hin hP hK hD hS hA hX hl hz
  have hl : lv_has ls 10 [(0, .ref (ad 5 j0)), (1, .int x1), (2, .long x2), (4, .int x4)] := hl
  unfold f_Machine_locateValue at h
  have hkp : me_kz M0 M0 := me_kz.rf
  have hkb := hkp
  refine lv_iload_n hx hb d_Machine_locateValue_0 rfl (lv_at hl 1 rfl) ?_
  refine lv_iconst (v := 4) hx hb d_Machine_locateValue_1 (by decide) ?_
  refine lv_icmp_ge (tgt := 14) hx hb d_Machine_locateValue_2 (by decide) (fun c1 => ?_) (fun c1 => ?_)
  · have h := if_t c1 h
    refine lv_iconst (v := 0) hx hb d_Machine_locateValue_14 (by decide) ?_
    exact me_retz (me_kz M0) h (by decide) hx hb hr hlocks hwf hkp hP hK hD hS d_Machine_locateValue_15
  have h := if_f c1 h
  refine lv_aload_n hx hb d_Machine_locateValue_5 rfl (lv_at hl 0 rfl) ?_
  refine g_Machine_2 hx hb hts hown hK hP hwf hj0 (hts _ u_625) d_Machine_locateValue_6 ?_
  obtain ⟨j2, e3, h⟩ := bd_ob h
  have hj2 : j2 < N 19 := (hwf.2.1 5 j0 2 _ e3 (by decide) hj0)
  refine me_opt (j := j2) e3 ?_
  refine lv_iload_n hx hb d_Machine_locateValue_9 rfl (lv_at hl 1 rfl) ?_
  obtain ⟨g4, h⟩ := gd_ob h
  refine me_aald (k := 19) (t := 12) hx hb hK hP hwf hj2 (by decide) (by decide) rfl (fun _ => rfl) g4 d_Machine_locateValue_10 ?_
  rcases e6 : (mR M0 19 j2 x1.toNatClampNeg) with _ | j5
  · have h := oc_n2 e6 h
    refine lv_ifnonnullN hx hb d_Machine_locateValue_11 ?_
    refine lv_iconst (v := 0) hx hb d_Machine_locateValue_14 (by decide) ?_
    exact me_retz (me_kz M0) h (by decide) hx hb hr hlocks hwf hkp hP hK hD hS d_Machine_locateValue_15
  have h := oc_s2 e6 h
  refine lv_ifnonnull (tgt := 16) hx hb d_Machine_locateValue_11 (by decide) ?_
  refine lv_aload_n hx hb d_Machine_locateValue_16 rfl (lv_at hl 0 rfl) ?_
  refine g_Machine_2 hx hb hts hown hK hP hwf hj0 (hts _ u_625) d_Machine_locateValue_17 ?_
  refine me_opt (j := j2) e3 ?_
  refine lv_iload_n hx hb d_Machine_locateValue_20 rfl (lv_at hl 1 rfl) ?_
  refine me_aald (k := 19) (t := 12) hx hb hK hP hwf hj2 (by decide) (by decide) rfl (fun _ => rfl) g4 d_Machine_locateValue_21 ?_
  obtain ⟨j7, e8, h⟩ := bd_ob h
  have hj7 : j7 < N 12 := (hwf.2.1 19 j2 x1.toNatClampNeg _ e8 (by decide) hj2)
  refine me_opt (j := j7) e8 ?_
  refine lv_astore (lv' := [(5, .ref (ad 12 j7)), (0, .ref (ad 5 j0)), (1, .int x1), (2, .long x2), (4, .int x4)]) hx hb d_Machine_locateValue_22 hl (by decide) rfl (fun ls hl => ?_)
  refine lv_lload_n hx hb d_Machine_locateValue_24 rfl (lv_at hl 3 rfl) ?_
  refine lv_ldc2 hx hb hown (hts _ u_1702) d_Machine_locateValue_25 ?_
  refine lv_ladd hx hb d_Machine_locateValue_28 ?_
  refine lv_bipush (v := 20) hx hb d_Machine_locateValue_29 (by decide) ?_
  refine lv_lshr (v := jlshr (x2 + 524288) (20 : Int32)) hx hb d_Machine_locateValue_31 rfl ?_
  obtain ⟨v9, ev9, h⟩ := st_ob h
  refine fg_topl (y := v9) ev9.symm ?_
  refine lv_lstore (lv' := [(6, .long v9), (5, .ref (ad 12 j7)), (0, .ref (ad 5 j0)), (1, .int x1), (2, .long x2), (4, .int x4)]) hx hb d_Machine_locateValue_32 hl (by decide) rfl (fun ls hl => ?_)
  refine lv_lload_n hx hb d_Machine_locateValue_34 rfl (lv_at hl 4 rfl) ?_
  refine lv_lload hx hb d_Machine_locateValue_35 (lv_at hl 0 rfl) ?_
  refine lv_bipush (v := 20) hx hb d_Machine_locateValue_37 (by decide) ?_
  refine lv_lshl (v := jlshl v9 (20 : Int32)) hx hb d_Machine_locateValue_39 rfl ?_
  refine lv_lsub hx hb d_Machine_locateValue_40 ?_
  obtain ⟨v10, ev10, h⟩ := st_ob h
  refine fg_topl (y := v10) ev10.symm ?_
  refine lv_lstore (lv' := [(8, .long v10), (6, .long v9), (5, .ref (ad 12 j7)), (0, .ref (ad 5 j0)), (1, .int x1), (2, .long x2), (4, .int x4)]) hx hb d_Machine_locateValue_41 hl (by decide) rfl (fun ls hl => ?_)
  refine lv_aload_n hx hb d_Machine_locateValue_43 rfl (lv_at hl 3 rfl) ?_
  refine lv_aload hx hb d_Machine_locateValue_44 (lv_at hl 2 rfl) ?_
  refine g_Store_5 hx hb hts hown hK hP hwf hj7 (hts _ u_916) d_Machine_locateValue_46 ?_
  obtain ⟨j11, e12, h⟩ := bd_ob h
  have hj11 : j11 < N 14 := (hwf.2.1 12 j7 5 _ e12 (by decide) hj7)
  refine me_opt (j := j11) e12 ?_
  obtain ⟨M13, eM13, h⟩ := st_ob h
  refine p_Machine_18 eM13 hx hb hts hown hK hP hD hwf hS hj0 hj11 (hts _ u_650) d_Machine_locateValue_49 (fun H locs hP hD hwf hS => ?_)
  have hkp := kz_R eM13 hkp
  refine lv_aload_n hx hb d_Machine_locateValue_52 rfl (lv_at hl 3 rfl) ?_
  refine lv_lload hx hb d_Machine_locateValue_53 (lv_at hl 1 rfl) ?_
  refine lv_aload hx hb d_Machine_locateValue_55 (lv_at hl 2 rfl) ?_
  refine g_Store_2 hx hb hts hown hK hP hwf hj7 (hts _ u_909) d_Machine_locateValue_57 ?_
  refine lv_i2l (v := (mI M13 12 j7 2).toInt64) hx hb d_Machine_locateValue_60 rfl ?_
  refine lv_lmul hx hb d_Machine_locateValue_61 ?_
  refine lv_lload hx hb d_Machine_locateValue_62 (lv_at hl 0 rfl) ?_
  refine lv_ladd hx hb d_Machine_locateValue_64 ?_
  refine lv_l2i (v := ((v9 * ((mI M13 12 j7 2).toInt64)) + v10).toInt32) hx hb d_Machine_locateValue_65 rfl ?_
  obtain ⟨M14, eM14, h⟩ := st_ob h
  refine p_Machine_19 eM14 hx hb hts hown hK hP hD hwf hS hj0 (hts _ u_651) d_Machine_locateValue_66 (fun H locs hP hD hwf hS => ?_)
  have hkp := kz_I eM14 hkp
  refine lv_lload hx hb d_Machine_locateValue_69 (lv_at hl 1 rfl) ?_
  refine lv_lconst (v := 0) hx hb d_Machine_locateValue_71 (by decide) ?_
  refine W.lcmp hx hb d_Machine_locateValue_72 ?_
  refine lv_if_lt (tgt := 115) hx hb d_Machine_locateValue_73 (by decide) (fun c15 => ?_) (fun c15 => ?_)
  · have h := if_t ((lg_cmp_lt _ _).mp c15) h
    refine lv_iconst (v := 0) hx hb d_Machine_locateValue_115 (by decide) ?_
    exact me_retz (me_kz M0) h (by decide) hx hb hr hlocks hwf hkp hP hK hD hS d_Machine_locateValue_116
  have h := if_f (fun z => c15 ((lg_cmp_lt _ _).mpr z)) h
  refine lv_lload hx hb d_Machine_locateValue_76 (lv_at hl 1 rfl) ?_
  refine lv_aload hx hb d_Machine_locateValue_78 (lv_at hl 2 rfl) ?_
  refine g_Store_3 hx hb hts hown hK hP hwf hj7 (hts _ u_913) d_Machine_locateValue_80 ?_
  refine lv_i2l (v := (mI M14 12 j7 3).toInt64) hx hb d_Machine_locateValue_83 rfl ?_
  refine W.lcmp hx hb d_Machine_locateValue_84 ?_
  refine lv_if_ge (tgt := 115) hx hb d_Machine_locateValue_85 (by decide) (fun c16 => ?_) (fun c16 => ?_)
  · have h := if_f (Int64.not_lt.mpr ((lg_cmp_ge _ _).mp c16)) h
    refine lv_iconst (v := 0) hx hb d_Machine_locateValue_115 (by decide) ?_
    exact me_retz (me_kz M0) h (by decide) hx hb hr hlocks hwf hkp hP hK hD hS d_Machine_locateValue_116
  have h := if_t (Int64.not_le.mp (fun z => c16 ((lg_cmp_ge _ _).mpr z))) h
  refine lv_lload hx hb d_Machine_locateValue_88 (lv_at hl 0 rfl) ?_
  refine lv_lconst (v := 0) hx hb d_Machine_locateValue_90 (by decide) ?_
  refine W.lcmp hx hb d_Machine_locateValue_91 ?_
  refine lv_if_lt (tgt := 115) hx hb d_Machine_locateValue_92 (by decide) (fun c17 => ?_) (fun c17 => ?_)
  · have h := if_t ((lg_cmp_lt _ _).mp c17) h
    refine lv_iconst (v := 0) hx hb d_Machine_locateValue_115 (by decide) ?_
    exact me_retz (me_kz M0) h (by decide) hx hb hr hlocks hwf hkp hP hK hD hS d_Machine_locateValue_116
  have h := if_f (fun z => c17 ((lg_cmp_lt _ _).mpr z)) h
  refine lv_lload hx hb d_Machine_locateValue_95 (lv_at hl 0 rfl) ?_
  refine lv_iload hx hb d_Machine_locateValue_97 (lv_at hl 6 rfl) ?_
  refine lv_i2l (v := x4.toInt64) hx hb d_Machine_locateValue_99 rfl ?_
  refine lv_ladd hx hb d_Machine_locateValue_100 ?_
  refine lv_aload hx hb d_Machine_locateValue_101 (lv_at hl 2 rfl) ?_
  refine g_Store_2 hx hb hts hown hK hP hwf hj7 (hts _ u_909) d_Machine_locateValue_103 ?_
  refine lv_i2l (v := (mI M14 12 j7 2).toInt64) hx hb d_Machine_locateValue_106 rfl ?_
  refine W.lcmp hx hb d_Machine_locateValue_107 ?_
  refine lv_if_gt (tgt := 115) hx hb d_Machine_locateValue_108 (by decide) (fun c18 => ?_) (fun c18 => ?_)
  · have h := if_t ((lg_cmp_gt _ _).mp c18) h
    refine lv_iconst (v := 0) hx hb d_Machine_locateValue_115 (by decide) ?_
    exact me_retz (me_kz M0) h (by decide) hx hb hr hlocks hwf hkp hP hK hD hS d_Machine_locateValue_116
  have h := if_f (fun z => c18 ((lg_cmp_gt _ _).mpr z)) h
  refine lv_iconst (v := 1) hx hb d_Machine_locateValue_111 (by decide) ?_
  refine lv_goto (tgt := 116) hx hb d_Machine_locateValue_112 (by decide) ?_
  exact me_retz (me_kz M0) h (by decide) hx hb hr hlocks hwf hkp hP hK hD hS d_Machine_locateValue_116
theorem d_Machine_locate_117 : decode prog_7_method_12_code 117 = .ok (.aload_n 0, 1) := by decide +kernel
theorem d_Machine_locate_118 : decode prog_7_method_12_code 118 = .ok (.lload 7, 2) := by decide +kernel
theorem d_Machine_locate_120 : decode prog_7_method_12_code 120 = .ok (.lload 5, 2) := by decide +kernel
theorem d_Machine_locate_122 : decode prog_7_method_12_code 122 = .ok (.ladd, 1) := by decide +kernel
theorem d_Machine_locate_123 : decode prog_7_method_12_code 123 = .ok (.l2i, 1) := by decide +kernel
theorem d_Machine_locate_124 : decode prog_7_method_12_code 124 = .ok (.putfield 64, 3) := by decide +kernel
theorem d_Machine_locate_127 : decode prog_7_method_12_code 127 = .ok (.lload 5, 2) := by decide +kernel
theorem d_Machine_locate_129 : decode prog_7_method_12_code 129 = .ok (.lload 7, 2) := by decide +kernel
theorem d_Machine_locate_131 : decode prog_7_method_12_code 131 = .ok (.lneg, 1) := by decide +kernel
theorem d_Machine_locate_132 : decode prog_7_method_12_code 132 = .ok (.lcmp, 1) := by decide +kernel
theorem d_Machine_locate_133 : decode prog_7_method_12_code 133 = .ok (.ifCond .lt 21, 3) := by decide +kernel
theorem d_Machine_locate_154 : decode prog_7_method_12_code 154 = .ok (.iconst 0, 1) := by decide +kernel
theorem d_Machine_locate_155 : decode prog_7_method_12_code 155 = .ok (.ireturn, 1) := by decide +kernel
theorem d_Machine_locate_136 : decode prog_7_method_12_code 136 = .ok (.lload 7, 2) := by decide +kernel
theorem d_Machine_locate_138 : decode prog_7_method_12_code 138 = .ok (.lload 5, 2) := by decide +kernel
theorem d_Machine_locate_140 : decode prog_7_method_12_code 140 = .ok (.ladd, 1) := by decide +kernel
theorem d_Machine_locate_141 : decode prog_7_method_12_code 141 = .ok (.iload_n 3, 1) := by decide +kernel
theorem d_Machine_locate_142 : decode prog_7_method_12_code 142 = .ok (.i2l, 1) := by decide +kernel
theorem d_Machine_locate_143 : decode prog_7_method_12_code 143 = .ok (.ladd, 1) := by decide +kernel
theorem d_Machine_locate_144 : decode prog_7_method_12_code 144 = .ok (.lload 9, 2) := by decide +kernel
theorem d_Machine_locate_146 : decode prog_7_method_12_code 146 = .ok (.lcmp, 1) := by decide +kernel
theorem d_Machine_locate_147 : decode prog_7_method_12_code 147 = .ok (.ifCond .gt 7, 3) := by decide +kernel
theorem d_Machine_locate_150 : decode prog_7_method_12_code 150 = .ok (.iconst 1, 1) := by decide +kernel
theorem d_Machine_locate_151 : decode prog_7_method_12_code 151 = .ok (.goto 4, 3) := by decide +kernel
theorem d_Machine_locate_0 : decode prog_7_method_12_code 0 = .ok (.lload_n 1, 1) := by decide +kernel
theorem d_Machine_locate_1 : decode prog_7_method_12_code 1 = .ok (.invokestatic 219, 3) := by decide +kernel
theorem o_1693 : Cond.methodLinkNest "FilterGuard$Machine" 219 ⟨"FilterGuard", "areaOf", "(J)I"⟩ "FilterGuard" ∈ lw_tbl := List.mem_of_getElem? (i := 1693) (by decide +kernel)
theorem u_1695 : Cond.code ⟨"FilterGuard", "areaOf", "(J)I"⟩ prog_1_method_20_code 2 (some .int) ∈ fg_g := fg_in (List.mem_of_getElem? (i := 1695) (by decide +kernel)) rfl
theorem u_1694 : Cond.static ⟨"FilterGuard", "areaOf", "(J)I"⟩ ∈ fg_g := fg_in (List.mem_of_getElem? (i := 1694) (by decide +kernel)) rfl
theorem d_Machine_locate_4 : decode prog_7_method_12_code 4 = .ok (.istore 4, 2) := by decide +kernel
theorem d_Machine_locate_6 : decode prog_7_method_12_code 6 = .ok (.lload_n 1, 1) := by decide +kernel
theorem d_Machine_locate_7 : decode prog_7_method_12_code 7 = .ok (.iload 4, 2) := by decide +kernel
theorem d_Machine_locate_9 : decode prog_7_method_12_code 9 = .ok (.invokestatic 123, 3) := by decide +kernel
theorem d_Machine_locate_12 : decode prog_7_method_12_code 12 = .ok (.lsub, 1) := by decide +kernel
theorem d_Machine_locate_13 : decode prog_7_method_12_code 13 = .ok (.lstore 5, 2) := by decide +kernel
theorem d_Machine_locate_15 : decode prog_7_method_12_code 15 = .ok (.lconst 0, 1) := by decide +kernel
theorem d_Machine_locate_16 : decode prog_7_method_12_code 16 = .ok (.lstore 7, 2) := by decide +kernel
theorem d_Machine_locate_18 : decode prog_7_method_12_code 18 = .ok (.iload 4, 2) := by decide +kernel
theorem d_Machine_locate_20 : decode prog_7_method_12_code 20 = .ok (.iconst 1, 1) := by decide +kernel
theorem d_Machine_locate_21 : decode prog_7_method_12_code 21 = .ok (.if_icmp .ne 19, 3) := by decide +kernel
theorem d_Machine_locate_40 : decode prog_7_method_12_code 40 = .ok (.iload 4, 2) := by decide +kernel
theorem d_Machine_locate_42 : decode prog_7_method_12_code 42 = .ok (.iconst 2, 1) := by decide +kernel
theorem d_Machine_locate_43 : decode prog_7_method_12_code 43 = .ok (.if_icmp .ne 24, 3) := by decide +kernel
theorem d_Machine_locate_67 : decode prog_7_method_12_code 67 = .ok (.iload 4, 2) := by decide +kernel
theorem d_Machine_locate_69 : decode prog_7_method_12_code 69 = .ok (.iconst 3, 1) := by decide +kernel
theorem d_Machine_locate_70 : decode prog_7_method_12_code 70 = .ok (.if_icmp .ne 21, 3) := by decide +kernel
theorem d_Machine_locate_91 : decode prog_7_method_12_code 91 = .ok (.iload 4, 2) := by decide +kernel
theorem d_Machine_locate_93 : decode prog_7_method_12_code 93 = .ok (.iconst 4, 1) := by decide +kernel
theorem d_Machine_locate_94 : decode prog_7_method_12_code 94 = .ok (.if_icmp .lt 21, 3) := by decide +kernel
theorem d_Machine_locate_115 : decode prog_7_method_12_code 115 = .ok (.iconst 0, 1) := by decide +kernel
theorem d_Machine_locate_116 : decode prog_7_method_12_code 116 = .ok (.ireturn, 1) := by decide +kernel
theorem d_Machine_locate_97 : decode prog_7_method_12_code 97 = .ok (.aload_n 0, 1) := by decide +kernel
theorem d_Machine_locate_98 : decode prog_7_method_12_code 98 = .ok (.iload 4, 2) := by decide +kernel
theorem d_Machine_locate_100 : decode prog_7_method_12_code 100 = .ok (.iconst 4, 1) := by decide +kernel
theorem d_Machine_locate_101 : decode prog_7_method_12_code 101 = .ok (.isub, 1) := by decide +kernel
theorem d_Machine_locate_102 : decode prog_7_method_12_code 102 = .ok (.lload 5, 2) := by decide +kernel
theorem d_Machine_locate_104 : decode prog_7_method_12_code 104 = .ok (.iload_n 3, 1) := by decide +kernel
theorem d_Machine_locate_105 : decode prog_7_method_12_code 105 = .ok (.invokevirtual 227, 3) := by decide +kernel
theorem u_1698 : Cond.methodLink "FilterGuard$Machine" 227 ⟨"FilterGuard$Machine", "locateValue", "(IJI)Z"⟩ ∈ fg_g := fg_in (List.mem_of_getElem? (i := 1698) (by decide +kernel)) rfl
theorem u_1701 : Cond.code ⟨"FilterGuard$Machine", "locateValue", "(IJI)Z"⟩ prog_7_method_13_code 10 (some .boolean) ∈ fg_g := fg_in (List.mem_of_getElem? (i := 1701) (by decide +kernel)) rfl
theorem u_1700 : Cond.instanceMethod ⟨"FilterGuard$Machine", "locateValue", "(IJI)Z"⟩ ∈ fg_g := fg_in (List.mem_of_getElem? (i := 1700) (by decide +kernel)) rfl
theorem u_81 : Cond.selects "FilterGuard$Machine" ⟨"FilterGuard$Machine", "locateValue", "(IJI)Z"⟩ ⟨"FilterGuard$Machine", "locateValue", "(IJI)Z"⟩ ∈ fg_g := fg_in (List.mem_of_getElem? (i := 81) (by decide +kernel)) rfl
theorem d_Machine_locate_108 : decode prog_7_method_12_code 108 = .ok (.ifCond .eq 7, 3) := by decide +kernel
theorem d_Machine_locate_111 : decode prog_7_method_12_code 111 = .ok (.iconst 1, 1) := by decide +kernel
theorem d_Machine_locate_112 : decode prog_7_method_12_code 112 = .ok (.goto 4, 3) := by decide +kernel
theorem d_Machine_locate_73 : decode prog_7_method_12_code 73 = .ok (.aload_n 0, 1) := by decide +kernel
theorem d_Machine_locate_74 : decode prog_7_method_12_code 74 = .ok (.aload_n 0, 1) := by decide +kernel
theorem d_Machine_locate_75 : decode prog_7_method_12_code 75 = .ok (.getfield 22, 3) := by decide +kernel
theorem d_Machine_locate_78 : decode prog_7_method_12_code 78 = .ok (.putfield 51, 3) := by decide +kernel
theorem d_Machine_locate_81 : decode prog_7_method_12_code 81 = .ok (.aload_n 0, 1) := by decide +kernel
theorem d_Machine_locate_82 : decode prog_7_method_12_code 82 = .ok (.getfield 60, 3) := by decide +kernel
theorem d_Machine_locate_85 : decode prog_7_method_12_code 85 = .ok (.i2l, 1) := by decide +kernel
theorem d_Machine_locate_86 : decode prog_7_method_12_code 86 = .ok (.lstore 9, 2) := by decide +kernel
theorem d_Machine_locate_88 : decode prog_7_method_12_code 88 = .ok (.goto 29, 3) := by decide +kernel
theorem d_Machine_locate_46 : decode prog_7_method_12_code 46 = .ok (.aload_n 0, 1) := by decide +kernel
theorem d_Machine_locate_47 : decode prog_7_method_12_code 47 = .ok (.aload_n 0, 1) := by decide +kernel
theorem d_Machine_locate_48 : decode prog_7_method_12_code 48 = .ok (.getfield 15, 3) := by decide +kernel
theorem d_Machine_locate_51 : decode prog_7_method_12_code 51 = .ok (.putfield 51, 3) := by decide +kernel
theorem d_Machine_locate_54 : decode prog_7_method_12_code 54 = .ok (.ldc2_w 225, 3) := by decide +kernel
theorem u_1688 : Cond.constantLong "FilterGuard$Machine" 225 512 ∈ fg_g := fg_in (List.mem_of_getElem? (i := 1688) (by decide +kernel)) rfl
theorem d_Machine_locate_57 : decode prog_7_method_12_code 57 = .ok (.lstore 7, 2) := by decide +kernel
theorem d_Machine_locate_59 : decode prog_7_method_12_code 59 = .ok (.ldc2_w 225, 3) := by decide +kernel
theorem d_Machine_locate_62 : decode prog_7_method_12_code 62 = .ok (.lstore 9, 2) := by decide +kernel
theorem d_Machine_locate_64 : decode prog_7_method_12_code 64 = .ok (.goto 53, 3) := by decide +kernel
theorem d_Machine_locate_24 : decode prog_7_method_12_code 24 = .ok (.aload_n 0, 1) := by decide +kernel
theorem d_Machine_locate_25 : decode prog_7_method_12_code 25 = .ok (.aload_n 0, 1) := by decide +kernel
theorem d_Machine_locate_26 : decode prog_7_method_12_code 26 = .ok (.getfield 9, 3) := by decide +kernel
theorem d_Machine_locate_29 : decode prog_7_method_12_code 29 = .ok (.putfield 51, 3) := by decide +kernel
theorem d_Machine_locate_32 : decode prog_7_method_12_code 32 = .ok (.ldc2_w 223, 3) := by decide +kernel
theorem u_1697 : Cond.constantLong "FilterGuard$Machine" 223 64 ∈ fg_g := fg_in (List.mem_of_getElem? (i := 1697) (by decide +kernel)) rfl
theorem d_Machine_locate_35 : decode prog_7_method_12_code 35 = .ok (.lstore 9, 2) := by decide +kernel
theorem d_Machine_locate_37 : decode prog_7_method_12_code 37 = .ok (.goto 80, 3) := by decide +kernel
abbrev y_Machine_locate : MethodName := ⟨"FilterGuard$Machine", "locate", "(JI)Z"⟩
def f_Machine_locate_b117 (j0 : Nat) (x3 : Int32) (M : me_M) (y5 : Int64) (y7 : Int64) (y9 : Int64) : Option (me_M × Int32) := st (wI M 5 j0 19 ((y7 + y5).toInt32)) (fun (M1 : me_M) => (if y5 < (-y7) then some (M1, (0 : Int32)) else (if y9 < ((y7 + y5) + x3.toInt64) then some (M1, (0 : Int32)) else some (M1, (1 : Int32)))))
def f_Machine_locate (M0 : me_M) (j0 : Nat) (x1 : Int64) (x3 : Int32) : Option (me_M × Int32) := bd (f_G_areaOf x1) (fun (r4 : Int32) => bd (f_G_baseOf r4) (fun (r5 : Int64) => st (x1 - r5) (fun (v6 : Int64) => (if r4 = 1 then bd (mR M0 5 j0 4) (fun (j21 : Nat) => st (wR M0 5 j0 18 (some j21)) (fun (M23 : me_M) => f_Machine_locate_b117 j0 x3 M23 v6 (0 : Int64) (64 : Int64))) else (if r4 = 2 then bd (mR M0 5 j0 5) (fun (j18 : Nat) => st (wR M0 5 j0 18 (some j18)) (fun (M20 : me_M) => f_Machine_locate_b117 j0 x3 M20 v6 (512 : Int64) (512 : Int64))) else (if r4 = 3 then bd (mR M0 5 j0 7) (fun (j14 : Nat) => st (wR M0 5 j0 18 (some j14)) (fun (M16 : me_M) => st ((mI M16 5 j0 8).toInt64) (fun (v17 : Int64) => f_Machine_locate_b117 j0 x3 M16 v6 (0 : Int64) v17))) else (if r4 < 4 then some (M0, (0 : Int32)) else b2 (f_Machine_locateValue M0 j0 (r4 - 4) v6 x3) (fun (M11 : me_M) (r12 : Int32) => (if r12 = 0 then some (M11, (0 : Int32)) else some (M11, (1 : Int32)))))))))))
def rm_Machine_locate : Room := { frames := 2, cells := 0, slots := 0, locals := 49 }
abbrev q_Machine_locate (D : va_G) (ad : Nat → Nat → Nat) (ca : Nat → ClassId) (N : Nat → Nat) (M0 MZ : me_M) (RZ : Int32) (A : Nat → Prop) : Array Value → Jvm.State → Outcome → Jvm.State → Prop := va_Qi (fun r (_ : Unit) => r = RZ ∧ me_wf N MZ ∧ me_kz M0 MZ ∧ (RZ = 1 ∨ RZ = 0)) (fg_B D A (fun _ => me_W ad ca MZ) (fun _ => [])) A
set_option maxHeartbeats 4000000 in
set_option maxRecDepth 100000 in
theorem c_Machine_locate (l : Launch) (D : va_G) (ad : Nat → Nat → Nat) (ca : Nat → ClassId) (N : Nat → Nat) (M0 MZ : me_M) (RZ : Int32) (j0 : Nat) (x1 : Int64) (x3 : Int32) (h : f_Machine_locate M0 j0 x1 x3 = (some (MZ, RZ))) (hwf : me_wf N M0) (hj0 : j0 < N 5) (sz : Nat) : Met l y_Machine_locate (fg_w y_Machine_locate prog_7_method_12_code 11 (some .boolean)) rm_Machine_locate (va_Pc [.ref (ad 5 j0), .long x1, .int x3] (fz_P D (me_T ca) (me_W ad ca M0) sz)) (q_Machine_locate D ad ca N M0 MZ RZ (va_A (me_W ad ca M0) sz)) rm_Machine_locate.cells rm_Machine_locate.slots (va_A (me_W ad ca M0) sz) := by
  refine fz_enter (fun A => q_Machine_locate D ad ca N M0 MZ RZ A) (by decide +kernel) (Nat.le_of_ble_eq_true rfl) ?_
  intro p e s m below meth c ls A hx hb hml hown hts hr hlocks hin hP hK hD hS hA hX hl hz
  have hl : lv_has ls 11 [(0, .ref (ad 5 j0)), (1, .long x1), (3, .int x3)] := hl
  unfold f_Machine_locate at h
  have hkp : me_kz M0 M0 := me_kz.rf
  have hkb := hkp
  have b_117 : ∀ (M : me_M) (y5 : Int64) (y7 : Int64) (y9 : Int64) (H : Heap) (locs : List Loc) (ls : Array Slot), f_Machine_locate_b117 j0 x3 M y5 y7 y9 = (some (MZ, RZ)) → me_wf N M → me_kz M0 M → va_P D classes (me_W ad ca M) H → va_D A (me_W ad ca M) → va_S A s.heap H locs → lv_has ls 11 [(0, .ref (ad 5 j0)), (3, .int x3), (5, .long y5), (7, .long y7), (9, .long y9)] → W p l e rm_Machine_locate s m [.ref (ad 5 j0), .long x1, .int x3].toArray below meth c H locs 0 0 (MQ below (q_Machine_locate D ad ca N M0 MZ RZ A) [.ref (ad 5 j0), .long x1, .int x3].toArray s rm_Machine_locate.cells rm_Machine_locate.slots A) (F0 m 117 ls []) := by
    intro M y5 y7 y9 H locs ls h hwf hkp hP hD hS hl
    unfold f_Machine_locate_b117 at h
    have hkb := hkp
    refine lv_aload_n hx hb d_Machine_locate_117 rfl (lv_at hl 0 rfl) ?_
    refine lv_lload hx hb d_Machine_locate_118 (lv_at hl 3 rfl) ?_
    refine lv_lload hx hb d_Machine_locate_120 (lv_at hl 2 rfl) ?_
    refine lv_ladd hx hb d_Machine_locate_122 ?_
    refine lv_l2i (v := (y7 + y5).toInt32) hx hb d_Machine_locate_123 rfl ?_
    obtain ⟨M1, eM1, h⟩ := st_ob h
    refine p_Machine_19 eM1 hx hb hts hown hK hP hD hwf hS hj0 (hts _ u_651) d_Machine_locate_124 (fun H locs hP hD hwf hS => ?_)
    have hkp := kz_I eM1 hkp
    refine lv_lload hx hb d_Machine_locate_127 (lv_at hl 2 rfl) ?_
    refine lv_lload hx hb d_Machine_locate_129 (lv_at hl 3 rfl) ?_
    refine lv_lneg hx hb d_Machine_locate_131 ?_
    refine W.lcmp hx hb d_Machine_locate_132 ?_
    refine lv_if_lt (tgt := 154) hx hb d_Machine_locate_133 (by decide) (fun c2 => ?_) (fun c2 => ?_)
    · have h := if_t ((lg_cmp_lt _ _).mp c2) h
      refine lv_iconst (v := 0) hx hb d_Machine_locate_154 (by decide) ?_
      exact me_retz (me_kz M0) h (by decide) hx hb hr hlocks hwf hkp hP hK hD hS d_Machine_locate_155
    have h := if_f (fun z => c2 ((lg_cmp_lt _ _).mpr z)) h
    refine lv_lload hx hb d_Machine_locate_136 (lv_at hl 3 rfl) ?_
    refine lv_lload hx hb d_Machine_locate_138 (lv_at hl 2 rfl) ?_
    refine lv_ladd hx hb d_Machine_locate_140 ?_
    refine lv_iload_n hx hb d_Machine_locate_141 rfl (lv_at hl 1 rfl) ?_
    refine lv_i2l (v := x3.toInt64) hx hb d_Machine_locate_142 rfl ?_
    refine lv_ladd hx hb d_Machine_locate_143 ?_
    refine lv_lload hx hb d_Machine_locate_144 (lv_at hl 4 rfl) ?_
    refine W.lcmp hx hb d_Machine_locate_146 ?_
    refine lv_if_gt (tgt := 154) hx hb d_Machine_locate_147 (by decide) (fun c3 => ?_) (fun c3 => ?_)
    · have h := if_t ((lg_cmp_gt _ _).mp c3) h
      refine lv_iconst (v := 0) hx hb d_Machine_locate_154 (by decide) ?_
      exact me_retz (me_kz M0) h (by decide) hx hb hr hlocks hwf hkp hP hK hD hS d_Machine_locate_155
    have h := if_f (fun z => c3 ((lg_cmp_gt _ _).mpr z)) h
    refine lv_iconst (v := 1) hx hb d_Machine_locate_150 (by decide) ?_
    refine lv_goto (tgt := 155) hx hb d_Machine_locate_151 (by decide) ?_
    exact me_retz (me_kz M0) h (by decide) hx hb hr hlocks hwf hkp hP hK hD hS d_Machine_locate_155
  refine lv_lload_n hx hb d_Machine_locate_0 rfl (lv_at hl 1 rfl) ?_
  obtain ⟨r4, er4, h⟩ := bd_ob h
  refine me_pani' (r0 := r4) (fg_runSN (wc := []) (tc := []) (A2 := A) (As := [.long x1]) (rest := []) ⟨hx, hb, hml, hown, hts⟩ (c_G_areaOf l D r4 x1 er4 _) (by show fg_nm y_G_areaOf 1; decide +kernel) o_1693 u_1694 u_181 u_1695 ⟨Nat.le_of_ble_eq_true rfl, Nat.le_of_ble_eq_true rfl⟩ hX me_P0 (hK.sub (tys' := []) [] rfl) me_D0 rfl hl.1 (Nat.le_of_ble_eq_true rfl) d_Machine_locate_1 ⟨Nat.le_of_ble_eq_true rfl, Nat.le_of_ble_eq_true rfl⟩) hP hD hK hS hA rfl rfl (fun H locs hw hP hD hS => ?_)
  refine lv_istore (lv' := [(4, .int r4), (0, .ref (ad 5 j0)), (1, .long x1), (3, .int x3)]) hx hb d_Machine_locate_4 hl (by decide) rfl (fun ls hl => ?_)
  refine lv_lload_n hx hb d_Machine_locate_6 rfl (lv_at hl 2 rfl) ?_
  refine lv_iload hx hb d_Machine_locate_7 (lv_at hl 0 rfl) ?_
  obtain ⟨r5, er5, h⟩ := bd_ob h
  refine me_panl' (r0 := r5) (fg_runSN (wc := []) (tc := []) (A2 := A) (As := [.int r4]) (rest := [.long x1]) ⟨hx, hb, hml, hown, hts⟩ (c_G_baseOf l D r5 r4 er5 _) (by show fg_nm y_G_baseOf 1; decide +kernel) o_1586 u_1587 u_181 u_1588 ⟨Nat.le_of_ble_eq_true rfl, Nat.le_of_ble_eq_true rfl⟩ hX me_P0 (hK.sub (tys' := []) [] rfl) me_D0 rfl hl.1 (Nat.le_of_ble_eq_true rfl) d_Machine_locate_9 ⟨Nat.le_of_ble_eq_true rfl, Nat.le_of_ble_eq_true rfl⟩) hP hD hK hS hA rfl rfl (fun H locs hw hP hD hS => ?_)
  refine lv_lsub hx hb d_Machine_locate_12 ?_
  obtain ⟨v6, ev6, h⟩ := st_ob h
  refine fg_topl (y := v6) ev6.symm ?_
  refine lv_lstore (lv' := [(5, .long v6), (4, .int r4), (0, .ref (ad 5 j0)), (1, .long x1), (3, .int x3)]) hx hb d_Machine_locate_13 hl (by decide) rfl (fun ls hl => ?_)
  refine lv_lconst (v := 0) hx hb d_Machine_locate_15 (by decide) ?_
  refine lv_lstore (lv' := [(7, .long 0), (5, .long v6), (4, .int r4), (0, .ref (ad 5 j0)), (1, .long x1), (3, .int x3)]) hx hb d_Machine_locate_16 hl (by decide) rfl (fun ls hl => ?_)
  refine lv_iload hx hb d_Machine_locate_18 (lv_at hl 2 rfl) ?_
  refine lv_iconst (v := 1) hx hb d_Machine_locate_20 (by decide) ?_
  refine lv_icmp_ne (tgt := 40) hx hb d_Machine_locate_21 (by decide) (fun c7 => ?_) (fun c7 => ?_)
  · have h := if_f c7 h
    refine lv_iload hx hb d_Machine_locate_40 (lv_at hl 2 rfl) ?_
    refine lv_iconst (v := 2) hx hb d_Machine_locate_42 (by decide) ?_
    refine lv_icmp_ne (tgt := 67) hx hb d_Machine_locate_43 (by decide) (fun c8 => ?_) (fun c8 => ?_)
    · have h := if_f c8 h
      refine lv_iload hx hb d_Machine_locate_67 (lv_at hl 2 rfl) ?_
      refine lv_iconst (v := 3) hx hb d_Machine_locate_69 (by decide) ?_
      refine lv_icmp_ne (tgt := 91) hx hb d_Machine_locate_70 (by decide) (fun c9 => ?_) (fun c9 => ?_)
      · have h := if_f c9 h
        refine lv_iload hx hb d_Machine_locate_91 (lv_at hl 2 rfl) ?_
        refine lv_iconst (v := 4) hx hb d_Machine_locate_93 (by decide) ?_
        refine lv_icmp_lt (tgt := 115) hx hb d_Machine_locate_94 (by decide) (fun c10 => ?_) (fun c10 => ?_)
        · have h := if_t c10 h
          refine lv_iconst (v := 0) hx hb d_Machine_locate_115 (by decide) ?_
          exact me_retz (me_kz M0) h (by decide) hx hb hr hlocks hwf hkp hP hK hD hS d_Machine_locate_116
        have h := if_f c10 h
        refine lv_aload_n hx hb d_Machine_locate_97 rfl (lv_at hl 3 rfl) ?_
        refine lv_iload hx hb d_Machine_locate_98 (lv_at hl 2 rfl) ?_
        refine lv_iconst (v := 4) hx hb d_Machine_locate_100 (by decide) ?_
        refine lv_isub hx hb d_Machine_locate_101 ?_
        refine lv_lload hx hb d_Machine_locate_102 (lv_at hl 1 rfl) ?_
        refine lv_iload_n hx hb d_Machine_locate_104 rfl (lv_at hl 5 rfl) ?_
        obtain ⟨M11, r12, eM11, h⟩ := b2_ob h
        refine me_theni0 (M1 := M11) (me_runV (C := "FilterGuard$Machine") (As := [.int (r4 - 4), .long v6, .int x3]) (rest := []) ⟨hx, hb, hml, hown, hts⟩ (c_Machine_locateValue l D ad ca N M0 M11 r12 j0 (r4 - 4) v6 x3 eM11 hwf hj0 _) rfl (by show fg_nm y_Machine_locateValue 3; decide +kernel) u_1698 u_1700 u_81 u_190 u_1701 ⟨Nat.le_of_ble_eq_true rfl, Nat.le_of_ble_eq_true rfl⟩ hX hz hK hP hD hwf hS hA hj0 (by decide) rfl rfl rfl hl.1 (Nat.le_of_ble_eq_true rfl) d_Machine_locate_105 ⟨Nat.le_of_ble_eq_true rfl, Nat.le_of_ble_eq_true rfl⟩) hP hD hK hS hA rfl rfl (fun H locs hw hP hD hS => ?_)
        obtain ⟨hwf, hk9, zr12⟩ := hw
        have hkp := hkp.tr hk9
        refine lv_if_eq (tgt := 115) hx hb d_Machine_locate_108 (by decide) (fun c13 => ?_) (fun c13 => ?_)
        · have h := if_t c13 h
          refine lv_iconst (v := 0) hx hb d_Machine_locate_115 (by decide) ?_
          exact me_retz (me_kz M0) h (by decide) hx hb hr hlocks hwf hkp hP hK hD hS d_Machine_locate_116
        have h := if_f c13 h
        refine lv_iconst (v := 1) hx hb d_Machine_locate_111 (by decide) ?_
        refine lv_goto (tgt := 116) hx hb d_Machine_locate_112 (by decide) ?_
        exact me_retz (me_kz M0) h (by decide) hx hb hr hlocks hwf hkp hP hK hD hS d_Machine_locate_116
      have h := if_t c9 h
      refine lv_aload_n hx hb d_Machine_locate_73 rfl (lv_at hl 3 rfl) ?_
      refine lv_aload_n hx hb d_Machine_locate_74 rfl (lv_at hl 3 rfl) ?_
      refine g_Machine_7 hx hb hts hown hK hP hwf hj0 (hts _ u_630) d_Machine_locate_75 ?_
      obtain ⟨j14, e15, h⟩ := bd_ob h
      have hj14 : j14 < N 14 := (hwf.2.1 5 j0 7 _ e15 (by decide) hj0)
      refine me_opt (j := j14) e15 ?_
      obtain ⟨M16, eM16, h⟩ := st_ob h
      refine p_Machine_18 eM16 hx hb hts hown hK hP hD hwf hS hj0 hj14 (hts _ u_650) d_Machine_locate_78 (fun H locs hP hD hwf hS => ?_)
      have hkp := kz_R eM16 hkp
      refine lv_aload_n hx hb d_Machine_locate_81 rfl (lv_at hl 3 rfl) ?_
      refine g_Machine_8 hx hb hts hown hK hP hwf hj0 (hts _ u_632) d_Machine_locate_82 ?_
      refine lv_i2l (v := (mI M16 5 j0 8).toInt64) hx hb d_Machine_locate_85 rfl ?_
      obtain ⟨v17, ev17, h⟩ := st_ob h
      refine fg_topl (y := v17) ev17.symm ?_
      refine lv_lstore (lv' := [(9, .long v17), (7, .long 0), (5, .long v6), (4, .int r4), (0, .ref (ad 5 j0)), (1, .long x1), (3, .int x3)]) hx hb d_Machine_locate_86 hl (by decide) rfl (fun ls hl => ?_)
      refine lv_goto (tgt := 117) hx hb d_Machine_locate_88 (by decide) ?_
      exact b_117 M16 v6 (0 : Int64) v17 _ _ _ h hwf hkp hP hD hS (lv_sub hl [4, 6, 2, 1, 0] rfl)
    have h := if_t c8 h
    refine lv_aload_n hx hb d_Machine_locate_46 rfl (lv_at hl 3 rfl) ?_
    refine lv_aload_n hx hb d_Machine_locate_47 rfl (lv_at hl 3 rfl) ?_
    refine g_Machine_5 hx hb hts hown hK hP hwf hj0 (hts _ u_628) d_Machine_locate_48 ?_
    obtain ⟨j18, e19, h⟩ := bd_ob h
    have hj18 : j18 < N 14 := (hwf.2.1 5 j0 5 _ e19 (by decide) hj0)
    refine me_opt (j := j18) e19 ?_
    obtain ⟨M20, eM20, h⟩ := st_ob h
    refine p_Machine_18 eM20 hx hb hts hown hK hP hD hwf hS hj0 hj18 (hts _ u_650) d_Machine_locate_51 (fun H locs hP hD hwf hS => ?_)
    have hkp := kz_R eM20 hkp
    refine lv_ldc2 hx hb hown (hts _ u_1688) d_Machine_locate_54 ?_
    refine lv_lstore (lv' := [(7, .long 512), (5, .long v6), (4, .int r4), (0, .ref (ad 5 j0)), (1, .long x1), (3, .int x3)]) hx hb d_Machine_locate_57 hl (by decide) rfl (fun ls hl => ?_)
    refine lv_ldc2 hx hb hown (hts _ u_1688) d_Machine_locate_59 ?_
    refine lv_lstore (lv' := [(9, .long 512), (7, .long 512), (5, .long v6), (4, .int r4), (0, .ref (ad 5 j0)), (1, .long x1), (3, .int x3)]) hx hb d_Machine_locate_62 hl (by decide) rfl (fun ls hl => ?_)
    refine lv_goto (tgt := 117) hx hb d_Machine_locate_64 (by decide) ?_
    exact b_117 M20 v6 (512 : Int64) (512 : Int64) _ _ _ h hwf hkp hP hD hS (lv_sub hl [4, 6, 2, 1, 0] rfl)
  have h := if_t c7 h
  refine lv_aload_n hx hb d_Machine_locate_24 rfl (lv_at hl 3 rfl) ?_
  refine lv_aload_n hx hb d_Machine_locate_25 rfl (lv_at hl 3 rfl) ?_
  refine g_Machine_4 hx hb hts hown hK hP hwf hj0 (hts _ u_627) d_Machine_locate_26 ?_
  obtain ⟨j21, e22, h⟩ := bd_ob h
  have hj21 : j21 < N 14 := (hwf.2.1 5 j0 4 _ e22 (by decide) hj0)
  refine me_opt (j := j21) e22 ?_
  obtain ⟨M23, eM23, h⟩ := st_ob h
  refine p_Machine_18 eM23 hx hb hts hown hK hP hD hwf hS hj0 hj21 (hts _ u_650) d_Machine_locate_29 (fun H locs hP hD hwf hS => ?_)
  have hkp := kz_R eM23 hkp
  refine lv_ldc2 hx hb hown (hts _ u_1697) d_Machine_locate_32 ?_
  refine lv_lstore (lv' := [(9, .long 64), (7, .long 0), (5, .long v6), (4, .int r4), (0, .ref (ad 5 j0)), (1, .long x1), (3, .int x3)]) hx hb d_Machine_locate_35 hl (by decide) rfl (fun ls hl => ?_)
  refine lv_goto (tgt := 117) hx hb d_Machine_locate_37 (by decide) ?_
  exact b_117 M23 v6 (0 : Int64) (64 : Int64) _ _ _ h hwf hkp hP hD hS (lv_sub hl [4, 6, 2, 1, 0] rfl)
theorem d_Machine_mix_53 : decode prog_7_method_17_code 53 = .ok (.iload 5, 2) := by decide +kernel
theorem d_Machine_mix_55 : decode prog_7_method_17_code 55 = .ok (.i2l, 1) := by decide +kernel
theorem d_Machine_mix_56 : decode prog_7_method_17_code 56 = .ok (.lload_n 1, 1) := by decide +kernel
theorem d_Machine_mix_57 : decode prog_7_method_17_code 57 = .ok (.lcmp, 1) := by decide +kernel
theorem d_Machine_mix_58 : decode prog_7_method_17_code 58 = .ok (.ifCond .ge 33, 3) := by decide +kernel
theorem d_Machine_mix_91 : decode prog_7_method_17_code 91 = .ok (.aload_n 0, 1) := by decide +kernel
theorem d_Machine_mix_92 : decode prog_7_method_17_code 92 = .ok (.getfield 18, 3) := by decide +kernel
theorem d_Machine_mix_95 : decode prog_7_method_17_code 95 = .ok (.iconst 0, 1) := by decide +kernel
theorem d_Machine_mix_96 : decode prog_7_method_17_code 96 = .ok (.iload 4, 2) := by decide +kernel
theorem d_Machine_mix_98 : decode prog_7_method_17_code 98 = .ok (.i2l, 1) := by decide +kernel
theorem d_Machine_mix_99 : decode prog_7_method_17_code 99 = .ok (.ldc2_w 184, 3) := by decide +kernel
theorem d_Machine_mix_102 : decode prog_7_method_17_code 102 = .ok (.land, 1) := by decide +kernel
theorem d_Machine_mix_103 : decode prog_7_method_17_code 103 = .ok (.lastore, 1) := by decide +kernel
theorem d_Machine_mix_104 : decode prog_7_method_17_code 104 = .ok (.iconst 1, 1) := by decide +kernel
theorem d_Machine_mix_105 : decode prog_7_method_17_code 105 = .ok (.ireturn, 1) := by decide +kernel
theorem d_Machine_mix_61 : decode prog_7_method_17_code 61 = .ok (.bipush 31, 2) := by decide +kernel
theorem d_Machine_mix_63 : decode prog_7_method_17_code 63 = .ok (.iload 4, 2) := by decide +kernel
theorem d_Machine_mix_65 : decode prog_7_method_17_code 65 = .ok (.imul, 1) := by decide +kernel
theorem d_Machine_mix_66 : decode prog_7_method_17_code 66 = .ok (.aload_n 0, 1) := by decide +kernel
theorem d_Machine_mix_67 : decode prog_7_method_17_code 67 = .ok (.getfield 51, 3) := by decide +kernel
theorem d_Machine_mix_70 : decode prog_7_method_17_code 70 = .ok (.aload_n 0, 1) := by decide +kernel
theorem d_Machine_mix_71 : decode prog_7_method_17_code 71 = .ok (.getfield 64, 3) := by decide +kernel
theorem d_Machine_mix_74 : decode prog_7_method_17_code 74 = .ok (.iload 5, 2) := by decide +kernel
theorem d_Machine_mix_76 : decode prog_7_method_17_code 76 = .ok (.iadd, 1) := by decide +kernel
theorem d_Machine_mix_77 : decode prog_7_method_17_code 77 = .ok (.baload, 1) := by decide +kernel
theorem d_Machine_mix_78 : decode prog_7_method_17_code 78 = .ok (.sipush 255, 3) := by decide +kernel
theorem d_Machine_mix_81 : decode prog_7_method_17_code 81 = .ok (.iand, 1) := by decide +kernel
theorem d_Machine_mix_82 : decode prog_7_method_17_code 82 = .ok (.iadd, 1) := by decide +kernel
theorem d_Machine_mix_83 : decode prog_7_method_17_code 83 = .ok (.istore 4, 2) := by decide +kernel
theorem d_Machine_mix_85 : decode prog_7_method_17_code 85 = .ok (.iinc 5 1, 3) := by decide +kernel
theorem d_Machine_mix_88 : decode prog_7_method_17_code 88 = .ok (.goto (-35), 3) := by decide +kernel
theorem d_Machine_mix_0 : decode prog_7_method_17_code 0 = .ok (.lload_n 1, 1) := by decide +kernel
theorem d_Machine_mix_1 : decode prog_7_method_17_code 1 = .ok (.lconst 0, 1) := by decide +kernel
theorem d_Machine_mix_2 : decode prog_7_method_17_code 2 = .ok (.lcmp, 1) := by decide +kernel
theorem d_Machine_mix_3 : decode prog_7_method_17_code 3 = .ok (.ifCond .eq 32, 3) := by decide +kernel
theorem d_Machine_mix_35 : decode prog_7_method_17_code 35 = .ok (.iconst 1, 1) := by decide +kernel
theorem d_Machine_mix_36 : decode prog_7_method_17_code 36 = .ok (.goto 4, 3) := by decide +kernel
theorem d_Machine_mix_40 : decode prog_7_method_17_code 40 = .ok (.istore_n 3, 1) := by decide +kernel
theorem d_Machine_mix_41 : decode prog_7_method_17_code 41 = .ok (.iload_n 3, 1) := by decide +kernel
theorem d_Machine_mix_42 : decode prog_7_method_17_code 42 = .ok (.ifCond .ne 5, 3) := by decide +kernel
theorem d_Machine_mix_47 : decode prog_7_method_17_code 47 = .ok (.iconst 1, 1) := by decide +kernel
theorem d_Machine_mix_48 : decode prog_7_method_17_code 48 = .ok (.istore 4, 2) := by decide +kernel
theorem d_Machine_mix_50 : decode prog_7_method_17_code 50 = .ok (.iconst 0, 1) := by decide +kernel
theorem d_Machine_mix_51 : decode prog_7_method_17_code 51 = .ok (.istore 5, 2) := by decide +kernel
theorem d_Machine_mix_6 : decode prog_7_method_17_code 6 = .ok (.lload_n 1, 1) := by decide +kernel
theorem d_Machine_mix_7 : decode prog_7_method_17_code 7 = .ok (.lconst 0, 1) := by decide +kernel
theorem d_Machine_mix_8 : decode prog_7_method_17_code 8 = .ok (.lcmp, 1) := by decide +kernel
theorem d_Machine_mix_9 : decode prog_7_method_17_code 9 = .ok (.ifCond .le 30, 3) := by decide +kernel
theorem d_Machine_mix_39 : decode prog_7_method_17_code 39 = .ok (.iconst 0, 1) := by decide +kernel
theorem d_Machine_mix_45 : decode prog_7_method_17_code 45 = .ok (.iconst 0, 1) := by decide +kernel
theorem d_Machine_mix_46 : decode prog_7_method_17_code 46 = .ok (.ireturn, 1) := by decide +kernel
theorem d_Machine_mix_12 : decode prog_7_method_17_code 12 = .ok (.lload_n 1, 1) := by decide +kernel
theorem d_Machine_mix_13 : decode prog_7_method_17_code 13 = .ok (.ldc2_w 225, 3) := by decide +kernel
theorem d_Machine_mix_16 : decode prog_7_method_17_code 16 = .ok (.lcmp, 1) := by decide +kernel
theorem d_Machine_mix_17 : decode prog_7_method_17_code 17 = .ok (.ifCond .gt 22, 3) := by decide +kernel
theorem d_Machine_mix_20 : decode prog_7_method_17_code 20 = .ok (.aload_n 0, 1) := by decide +kernel
theorem d_Machine_mix_21 : decode prog_7_method_17_code 21 = .ok (.aload_n 0, 1) := by decide +kernel
theorem d_Machine_mix_22 : decode prog_7_method_17_code 22 = .ok (.getfield 18, 3) := by decide +kernel
theorem d_Machine_mix_25 : decode prog_7_method_17_code 25 = .ok (.iconst 1, 1) := by decide +kernel
theorem d_Machine_mix_26 : decode prog_7_method_17_code 26 = .ok (.laload, 1) := by decide +kernel
theorem d_Machine_mix_27 : decode prog_7_method_17_code 27 = .ok (.lload_n 1, 1) := by decide +kernel
theorem d_Machine_mix_28 : decode prog_7_method_17_code 28 = .ok (.l2i, 1) := by decide +kernel
theorem d_Machine_mix_29 : decode prog_7_method_17_code 29 = .ok (.invokevirtual 212, 3) := by decide +kernel
theorem u_1689 : Cond.methodLink "FilterGuard$Machine" 212 ⟨"FilterGuard$Machine", "locate", "(JI)Z"⟩ ∈ fg_g := fg_in (List.mem_of_getElem? (i := 1689) (by decide +kernel)) rfl
theorem u_1692 : Cond.code ⟨"FilterGuard$Machine", "locate", "(JI)Z"⟩ prog_7_method_12_code 11 (some .boolean) ∈ fg_g := fg_in (List.mem_of_getElem? (i := 1692) (by decide +kernel)) rfl
theorem u_1691 : Cond.instanceMethod ⟨"FilterGuard$Machine", "locate", "(JI)Z"⟩ ∈ fg_g := fg_in (List.mem_of_getElem? (i := 1691) (by decide +kernel)) rfl
theorem u_80 : Cond.selects "FilterGuard$Machine" ⟨"FilterGuard$Machine", "locate", "(JI)Z"⟩ ⟨"FilterGuard$Machine", "locate", "(JI)Z"⟩ ∈ fg_g := fg_in (List.mem_of_getElem? (i := 80) (by decide +kernel)) rfl
theorem d_Machine_mix_32 : decode prog_7_method_17_code 32 = .ok (.ifCond .eq 7, 3) := by decide +kernel
abbrev y_Machine_mix : MethodName := ⟨"FilterGuard$Machine", "mix", "(J)Z"⟩
def f_Machine_mix_l53 (j0 : Nat) (x1 : Int64) : Nat → me_M → Int32 → Int32 → Option (me_M × Int32)
  | 0, _, _, _ => none
  | fu + 1, M, y4, y5 => (if y5.toInt64 < x1 then bd (mR M 5 j0 18) (fun (j6 : Nat) => gd (¬ (((mI M 5 j0 19) + y5) < 0 ∨ mZ M 14 j6 ≤ ((mI M 5 j0 19) + y5).toNatClampNeg)) (st ((31 * y4) + ((mI M 14 j6 ((mI M 5 j0 19) + y5).toNatClampNeg) &&& 255)) (fun (v9 : Int32) => f_Machine_mix_l53 j0 x1 fu M v9 (y5 + 1)))) else bd (mR M 5 j0 6) (fun (j2 : Nat) => gd (0 < mZ M 16 j2) (st (wL M 16 j2 0 (y4.toInt64 &&& 4294967295)) (fun (M5 : me_M) => some (M5, (1 : Int32))))))
def f_Machine_mix (M0 : me_M) (j0 : Nat) (x1 : Int64) : Option (me_M × Int32) := (if x1 = 0 then f_Machine_mix_l53 j0 x1 fuel M0 (1 : Int32) (0 : Int32) else (if 0 < x1 then (if 512 < x1 then some (M0, (0 : Int32)) else bd (mR M0 5 j0 6) (fun (j16 : Nat) => gd (1 < mZ M0 16 j16) (b2 (f_Machine_locate M0 j0 (mL M0 16 j16 1) x1.toInt32) (fun (M19 : me_M) (r20 : Int32) => (if r20 = 0 then some (M19, (0 : Int32)) else f_Machine_mix_l53 j0 x1 fuel M19 (1 : Int32) (0 : Int32)))))) else some (M0, (0 : Int32))))
def rm_Machine_mix : Room := { frames := 3, cells := 0, slots := 0, locals := 79 }
abbrev q_Machine_mix (D : va_G) (ad : Nat → Nat → Nat) (ca : Nat → ClassId) (N : Nat → Nat) (M0 MZ : me_M) (RZ : Int32) (A : Nat → Prop) : Array Value → Jvm.State → Outcome → Jvm.State → Prop := va_Qi (fun r (_ : Unit) => r = RZ ∧ me_wf N MZ ∧ me_kz M0 MZ ∧ (RZ = 1 ∨ RZ = 0)) (fg_B D A (fun _ => me_W ad ca MZ) (fun _ => [])) A
set_option maxHeartbeats 4000000 in
set_option maxRecDepth 100000 in
theorem c_Machine_mix (l : Launch) (D : va_G) (ad : Nat → Nat → Nat) (ca : Nat → ClassId) (N : Nat → Nat) (M0 MZ : me_M) (RZ : Int32) (j0 : Nat) (x1 : Int64) (h : f_Machine_mix M0 j0 x1 = (some (MZ, RZ))) (hwf : me_wf N M0) (hj0 : j0 < N 5) (sz : Nat) : Met l y_Machine_mix (fg_w y_Machine_mix prog_7_method_17_code 6 (some .boolean)) rm_Machine_mix (va_Pc [.ref (ad 5 j0), .long x1] (fz_P D (me_T ca) (me_W ad ca M0) sz)) (q_Machine_mix D ad ca N M0 MZ RZ (va_A (me_W ad ca M0) sz)) rm_Machine_mix.cells rm_Machine_mix.slots (va_A (me_W ad ca M0) sz) := by
  refine fz_enter (fun A => q_Machine_mix D ad ca N M0 MZ RZ A) (by decide +kernel) (Nat.le_of_ble_eq_true rfl) ?_
  intro p e s m below meth c ls A hx hb hml hown hts hr hlocks hin hP hK hD hS hA hX hl hz
  have hl : lv_has ls 6 [(0, .ref (ad 5 j0)), (1, .long x1)] := hl
  unfold f_Machine_mix at h
  have hkp : me_kz M0 M0 := me_kz.rf
  have hkb := hkp
  have b_53 : ∀ (fu : Nat), ∀ (M : me_M) (y4 : Int32) (y5 : Int32) (H : Heap) (locs : List Loc) (ls : Array Slot), f_Machine_mix_l53 j0 x1 fu M y4 y5 = (some (MZ, RZ)) → me_wf N M → me_kz M0 M → va_P D classes (me_W ad ca M) H → va_D A (me_W ad ca M) → va_S A s.heap H locs → lv_has ls 6 [(0, .ref (ad 5 j0)), (1, .long x1), (4, .int y4), (5, .int y5)] → W p l e rm_Machine_mix s m [.ref (ad 5 j0), .long x1].toArray below meth c H locs 0 0 (MQ below (q_Machine_mix D ad ca N M0 MZ RZ A) [.ref (ad 5 j0), .long x1].toArray s rm_Machine_mix.cells rm_Machine_mix.slots A) (F0 m 53 ls []) := by
    intro fu
    induction fu with
    | zero =>
      intro M y4 y5 H locs ls h hwf hkp hP hD hS hl
      cases h
    | succ fu ih =>
      intro M y4 y5 H locs ls h hwf hkp hP hD hS hl
      unfold f_Machine_mix_l53 at h
      have hkb := hkp
      refine lv_iload hx hb d_Machine_mix_53 (lv_at hl 3 rfl) ?_
      refine lv_i2l (v := y5.toInt64) hx hb d_Machine_mix_55 rfl ?_
      refine lv_lload_n hx hb d_Machine_mix_56 rfl (lv_at hl 1 rfl) ?_
      refine W.lcmp hx hb d_Machine_mix_57 ?_
      refine lv_if_ge (tgt := 91) hx hb d_Machine_mix_58 (by decide) (fun c1 => ?_) (fun c1 => ?_)
      · have h := if_f (Int64.not_lt.mpr ((lg_cmp_ge _ _).mp c1)) h
        refine lv_aload_n hx hb d_Machine_mix_91 rfl (lv_at hl 0 rfl) ?_
        refine g_Machine_6 hx hb hts hown hK hP hwf hj0 (hts _ u_629) d_Machine_mix_92 ?_
        obtain ⟨j2, e3, h⟩ := bd_ob h
        have hj2 : j2 < N 16 := (hwf.2.1 5 j0 6 _ e3 (by decide) hj0)
        refine me_opt (j := j2) e3 ?_
        refine lv_iconst (v := 0) hx hb d_Machine_mix_95 (by decide) ?_
        refine lv_iload hx hb d_Machine_mix_96 (lv_at hl 2 rfl) ?_
        refine lv_i2l (v := y4.toInt64) hx hb d_Machine_mix_98 rfl ?_
        refine lv_ldc2 hx hb hown (hts _ u_1672) d_Machine_mix_99 ?_
        refine lv_land hx hb d_Machine_mix_102 ?_
        obtain ⟨g4, h⟩ := gd_ob h
        obtain ⟨M5, eM5, h⟩ := st_ob h
        refine me_last (eM5.trans (by rw [show (0 : Int32).toNatClampNeg = 0 by decide])) hx hb hK hP hD hwf hS hj2 (me_in (i := (0 : Int32)) (k := 0) (by decide) (by decide) g4) d_Machine_mix_103 (fun H locs hP hD hwf hS => ?_)
        have hkp := kz_L eM5 hkp
        refine lv_iconst (v := 1) hx hb d_Machine_mix_104 (by decide) ?_
        exact me_retz (me_kz M0) h (by decide) hx hb hr hlocks hwf hkp hP hK hD hS d_Machine_mix_105
      have h := if_t (Int64.not_le.mp (fun z => c1 ((lg_cmp_ge _ _).mpr z))) h
      refine lv_bipush (v := 31) hx hb d_Machine_mix_61 (by decide) ?_
      refine lv_iload hx hb d_Machine_mix_63 (lv_at hl 2 rfl) ?_
      refine lv_imul hx hb d_Machine_mix_65 ?_
      refine lv_aload_n hx hb d_Machine_mix_66 rfl (lv_at hl 0 rfl) ?_
      refine g_Machine_18 hx hb hts hown hK hP hwf hj0 (hts _ u_650) d_Machine_mix_67 ?_
      obtain ⟨j6, e7, h⟩ := bd_ob h
      have hj6 : j6 < N 14 := (hwf.2.1 5 j0 18 _ e7 (by decide) hj0)
      refine me_opt (j := j6) e7 ?_
      refine lv_aload_n hx hb d_Machine_mix_70 rfl (lv_at hl 0 rfl) ?_
      refine g_Machine_19 hx hb hts hown hK hP hwf hj0 (hts _ u_651) d_Machine_mix_71 ?_
      refine lv_iload hx hb d_Machine_mix_74 (lv_at hl 3 rfl) ?_
      refine lv_iadd hx hb d_Machine_mix_76 ?_
      obtain ⟨g8, h⟩ := gd_ob h
      refine me_bald hx hb hK hP hwf hj6 g8 d_Machine_mix_77 ?_
      refine lv_sipush (v := 255) hx hb d_Machine_mix_78 (by decide) ?_
      refine lv_iand hx hb d_Machine_mix_81 ?_
      refine lv_iadd hx hb d_Machine_mix_82 ?_
      obtain ⟨v9, ev9, h⟩ := st_ob h
      refine fg_topi (y := v9) ev9.symm ?_
      refine lv_istore (lv' := [(4, .int v9), (0, .ref (ad 5 j0)), (1, .long x1), (5, .int y5)]) hx hb d_Machine_mix_83 hl (by decide) rfl (fun ls hl => ?_)
      refine lv_iinc (v := y5 + 1) (lv' := [(5, .int (y5 + 1)), (4, .int v9), (0, .ref (ad 5 j0)), (1, .long x1)]) hx hb d_Machine_mix_85 hl (k := 3) rfl (by rfl) (by decide) rfl (fun ls hl => ?_)
      refine lv_goto (tgt := 53) hx hb d_Machine_mix_88 (by decide) ?_
      exact ih M v9 (y5 + 1) _ _ _ h hwf hkp hP hD hS (lv_sub hl [2, 3, 1, 0] rfl)
  refine lv_lload_n hx hb d_Machine_mix_0 rfl (lv_at hl 1 rfl) ?_
  refine lv_lconst (v := 0) hx hb d_Machine_mix_1 (by decide) ?_
  refine W.lcmp hx hb d_Machine_mix_2 ?_
  refine lv_if_eq (tgt := 35) hx hb d_Machine_mix_3 (by decide) (fun c10 => ?_) (fun c10 => ?_)
  · have h := if_t ((lg_cmp_eq _ _).mp c10) h
    refine lv_iconst (v := 1) hx hb d_Machine_mix_35 (by decide) ?_
    refine lv_goto (tgt := 40) hx hb d_Machine_mix_36 (by decide) ?_
    refine lv_istore_n (lv' := [(3, .int 1), (0, .ref (ad 5 j0)), (1, .long x1)]) hx hb d_Machine_mix_40 rfl hl (by decide) rfl (fun ls hl => ?_)
    refine lv_iload_n hx hb d_Machine_mix_41 rfl (lv_at hl 0 rfl) ?_
    refine lv_if_ne (tgt := 47) hx hb d_Machine_mix_42 (by decide) (fun c11 => ?_) (fun c11 => absurd c11 (by decide))
    refine lv_iconst (v := 1) hx hb d_Machine_mix_47 (by decide) ?_
    refine lv_istore (lv' := [(4, .int 1), (3, .int 1), (0, .ref (ad 5 j0)), (1, .long x1)]) hx hb d_Machine_mix_48 hl (by decide) rfl (fun ls hl => ?_)
    refine lv_iconst (v := 0) hx hb d_Machine_mix_50 (by decide) ?_
    refine lv_istore (lv' := [(5, .int 0), (4, .int 1), (3, .int 1), (0, .ref (ad 5 j0)), (1, .long x1)]) hx hb d_Machine_mix_51 hl (by decide) rfl (fun ls hl => ?_)
    exact b_53 _ M0 (1 : Int32) (0 : Int32) _ _ _ h hwf hkp hP hD hS (lv_sub hl [3, 4, 1, 0] rfl)
  have h := if_f (fun z => c10 ((lg_cmp_eq _ _).mpr z)) h
  refine lv_lload_n hx hb d_Machine_mix_6 rfl (lv_at hl 1 rfl) ?_
  refine lv_lconst (v := 0) hx hb d_Machine_mix_7 (by decide) ?_
  refine W.lcmp hx hb d_Machine_mix_8 ?_
  refine lv_if_le (tgt := 39) hx hb d_Machine_mix_9 (by decide) (fun c12 => ?_) (fun c12 => ?_)
  · have h := if_f (Int64.not_lt.mpr ((lg_cmp_le _ _).mp c12)) h
    refine lv_iconst (v := 0) hx hb d_Machine_mix_39 (by decide) ?_
    refine lv_istore_n (lv' := [(3, .int 0), (0, .ref (ad 5 j0)), (1, .long x1)]) hx hb d_Machine_mix_40 rfl hl (by decide) rfl (fun ls hl => ?_)
    refine lv_iload_n hx hb d_Machine_mix_41 rfl (lv_at hl 0 rfl) ?_
    refine lv_if_ne (tgt := 47) hx hb d_Machine_mix_42 (by decide) (fun c13 => absurd (by decide) c13) (fun c13 => ?_)
    refine lv_iconst (v := 0) hx hb d_Machine_mix_45 (by decide) ?_
    exact me_retz (me_kz M0) h (by decide) hx hb hr hlocks hwf hkp hP hK hD hS d_Machine_mix_46
  have h := if_t (Int64.not_le.mp (fun z => c12 ((lg_cmp_le _ _).mpr z))) h
  refine lv_lload_n hx hb d_Machine_mix_12 rfl (lv_at hl 1 rfl) ?_
  refine lv_ldc2 hx hb hown (hts _ u_1688) d_Machine_mix_13 ?_
  refine W.lcmp hx hb d_Machine_mix_16 ?_
  refine lv_if_gt (tgt := 39) hx hb d_Machine_mix_17 (by decide) (fun c14 => ?_) (fun c14 => ?_)
  · have h := if_t ((lg_cmp_gt _ _).mp c14) h
    refine lv_iconst (v := 0) hx hb d_Machine_mix_39 (by decide) ?_
    refine lv_istore_n (lv' := [(3, .int 0), (0, .ref (ad 5 j0)), (1, .long x1)]) hx hb d_Machine_mix_40 rfl hl (by decide) rfl (fun ls hl => ?_)
    refine lv_iload_n hx hb d_Machine_mix_41 rfl (lv_at hl 0 rfl) ?_
    refine lv_if_ne (tgt := 47) hx hb d_Machine_mix_42 (by decide) (fun c15 => absurd (by decide) c15) (fun c15 => ?_)
    refine lv_iconst (v := 0) hx hb d_Machine_mix_45 (by decide) ?_
    exact me_retz (me_kz M0) h (by decide) hx hb hr hlocks hwf hkp hP hK hD hS d_Machine_mix_46
  have h := if_f (fun z => c14 ((lg_cmp_gt _ _).mpr z)) h
  refine lv_aload_n hx hb d_Machine_mix_20 rfl (lv_at hl 0 rfl) ?_
  refine lv_aload_n hx hb d_Machine_mix_21 rfl (lv_at hl 0 rfl) ?_
  refine g_Machine_6 hx hb hts hown hK hP hwf hj0 (hts _ u_629) d_Machine_mix_22 ?_
  obtain ⟨j16, e17, h⟩ := bd_ob h
  have hj16 : j16 < N 16 := (hwf.2.1 5 j0 6 _ e17 (by decide) hj0)
  refine me_opt (j := j16) e17 ?_
  refine lv_iconst (v := 1) hx hb d_Machine_mix_25 (by decide) ?_
  obtain ⟨g18, h⟩ := gd_ob h
  refine me_lald hx hb hK hP hwf hj16 (me_in (i := (1 : Int32)) (k := 1) (by decide) (by decide) g18) d_Machine_mix_26 ?_
  refine fg_topl (y := mL M0 16 j16 1) (congrArg _ (by decide)) ?_
  refine lv_lload_n hx hb d_Machine_mix_27 rfl (lv_at hl 1 rfl) ?_
  refine lv_l2i (v := x1.toInt32) hx hb d_Machine_mix_28 rfl ?_
  obtain ⟨M19, r20, eM19, h⟩ := b2_ob h
  refine me_theni0 (M1 := M19) (me_runV (C := "FilterGuard$Machine") (As := [.long (mL M0 16 j16 1), .int x1.toInt32]) (rest := []) ⟨hx, hb, hml, hown, hts⟩ (c_Machine_locate l D ad ca N M0 M19 r20 j0 (mL M0 16 j16 1) x1.toInt32 eM19 hwf hj0 _) rfl (by show fg_nm y_Machine_locate 2; decide +kernel) u_1689 u_1691 u_80 u_190 u_1692 ⟨Nat.le_of_ble_eq_true rfl, Nat.le_of_ble_eq_true rfl⟩ hX hz hK hP hD hwf hS hA hj0 (by decide) rfl rfl rfl hl.1 (Nat.le_of_ble_eq_true rfl) d_Machine_mix_29 ⟨Nat.le_of_ble_eq_true rfl, Nat.le_of_ble_eq_true rfl⟩) hP hD hK hS hA rfl rfl (fun H locs hw hP hD hS => ?_)
  obtain ⟨hwf, hk9, zr20⟩ := hw
  have hkp := hkp.tr hk9
  refine lv_if_eq (tgt := 39) hx hb d_Machine_mix_32 (by decide) (fun c21 => ?_) (fun c21 => ?_)
  · have h := if_t c21 h
    refine lv_iconst (v := 0) hx hb d_Machine_mix_39 (by decide) ?_
    refine lv_istore_n (lv' := [(3, .int 0), (0, .ref (ad 5 j0)), (1, .long x1)]) hx hb d_Machine_mix_40 rfl hl (by decide) rfl (fun ls hl => ?_)
    refine lv_iload_n hx hb d_Machine_mix_41 rfl (lv_at hl 0 rfl) ?_
    refine lv_if_ne (tgt := 47) hx hb d_Machine_mix_42 (by decide) (fun c22 => absurd (by decide) c22) (fun c22 => ?_)
    refine lv_iconst (v := 0) hx hb d_Machine_mix_45 (by decide) ?_
    exact me_retz (me_kz M0) h (by decide) hx hb hr hlocks hwf hkp hP hK hD hS d_Machine_mix_46
  have h := if_f c21 h
  refine lv_iconst (v := 1) hx hb d_Machine_mix_35 (by decide) ?_
  refine lv_goto (tgt := 40) hx hb d_Machine_mix_36 (by decide) ?_
  refine lv_istore_n (lv' := [(3, .int 1), (0, .ref (ad 5 j0)), (1, .long x1)]) hx hb d_Machine_mix_40 rfl hl (by decide) rfl (fun ls hl => ?_)
  refine lv_iload_n hx hb d_Machine_mix_41 rfl (lv_at hl 0 rfl) ?_
  refine lv_if_ne (tgt := 47) hx hb d_Machine_mix_42 (by decide) (fun c23 => ?_) (fun c23 => absurd c23 (by decide))
  refine lv_iconst (v := 1) hx hb d_Machine_mix_47 (by decide) ?_
  refine lv_istore (lv' := [(4, .int 1), (3, .int 1), (0, .ref (ad 5 j0)), (1, .long x1)]) hx hb d_Machine_mix_48 hl (by decide) rfl (fun ls hl => ?_)
  refine lv_iconst (v := 0) hx hb d_Machine_mix_50 (by decide) ?_
  refine lv_istore (lv' := [(5, .int 0), (4, .int 1), (3, .int 1), (0, .ref (ad 5 j0)), (1, .long x1)]) hx hb d_Machine_mix_51 hl (by decide) rfl (fun ls hl => ?_)
  exact b_53 _ M19 (1 : Int32) (0 : Int32) _ _ _ h hwf hkp hP hD hS (lv_sub hl [3, 4, 1, 0] rfl)
theorem d_Store_delete_0 : decode prog_12_method_6_code 0 = .ok (.aload_n 0, 1) := by decide +kernel
theorem d_Store_delete_1 : decode prog_12_method_6_code 1 = .ok (.getfield 11, 3) := by decide +kernel
theorem d_Store_delete_4 : decode prog_12_method_6_code 4 = .ok (.ifCond .eq 12, 3) := by decide +kernel
theorem d_Store_delete_16 : decode prog_12_method_6_code 16 = .ok (.iconst (-1), 1) := by decide +kernel
theorem d_Store_delete_17 : decode prog_12_method_6_code 17 = .ok (.istore_n 3, 1) := by decide +kernel
theorem d_Store_delete_18 : decode prog_12_method_6_code 18 = .ok (.iload_n 3, 1) := by decide +kernel
theorem d_Store_delete_19 : decode prog_12_method_6_code 19 = .ok (.iconst (-1), 1) := by decide +kernel
theorem d_Store_delete_20 : decode prog_12_method_6_code 20 = .ok (.if_icmp .ne 5, 3) := by decide +kernel
theorem d_Store_delete_23 : decode prog_12_method_6_code 23 = .ok (.iconst (-1), 1) := by decide +kernel
theorem d_Store_delete_24 : decode prog_12_method_6_code 24 = .ok (.ireturn, 1) := by decide +kernel
theorem d_Store_delete_7 : decode prog_12_method_6_code 7 = .ok (.aload_n 0, 1) := by decide +kernel
theorem d_Store_delete_8 : decode prog_12_method_6_code 8 = .ok (.aload_n 1, 1) := by decide +kernel
theorem d_Store_delete_9 : decode prog_12_method_6_code 9 = .ok (.iload_n 2, 1) := by decide +kernel
theorem d_Store_delete_10 : decode prog_12_method_6_code 10 = .ok (.invokevirtual 40, 3) := by decide +kernel
theorem d_Store_delete_13 : decode prog_12_method_6_code 13 = .ok (.goto 4, 3) := by decide +kernel
theorem d_Store_delete_25 : decode prog_12_method_6_code 25 = .ok (.aload_n 0, 1) := by decide +kernel
theorem d_Store_delete_26 : decode prog_12_method_6_code 26 = .ok (.getfield 32, 3) := by decide +kernel
theorem d_Store_delete_29 : decode prog_12_method_6_code 29 = .ok (.iload_n 3, 1) := by decide +kernel
theorem d_Store_delete_30 : decode prog_12_method_6_code 30 = .ok (.iconst 0, 1) := by decide +kernel
theorem d_Store_delete_31 : decode prog_12_method_6_code 31 = .ok (.bastore, 1) := by decide +kernel
theorem d_Store_delete_32 : decode prog_12_method_6_code 32 = .ok (.iconst 0, 1) := by decide +kernel
theorem d_Store_delete_33 : decode prog_12_method_6_code 33 = .ok (.ireturn, 1) := by decide +kernel
abbrev y_Store_delete : MethodName := ⟨"FilterGuard$Store", "delete", "([BI)I"⟩
def f_Store_delete (M0 : me_M) (j0 : Nat) (j1 : Nat) (x2 : Int32) : Option (me_M × Int32) := (if (mI M0 12 j0 0) = 0 then some (M0, (-1 : Int32)) else b2 (f_Store_entryOf M0 j0 j1 x2) (fun (M4 : me_M) (r5 : Int32) => (if r5 = (-1) then some (M4, (-1 : Int32)) else bd (mR M0 12 j0 6) (fun (j7 : Nat) => gd (¬ (r5 < 0 ∨ mZ M0 15 j7 ≤ r5.toNatClampNeg)) (st (wI M4 15 j7 r5.toNatClampNeg (vp_nar .boolean (0 : Int32))) (fun (M10 : me_M) => some (M10, (0 : Int32))))))))
def rm_Store_delete : Room := { frames := 3, cells := 0, slots := 0, locals := 69 }
abbrev q_Store_delete (D : va_G) (ad : Nat → Nat → Nat) (ca : Nat → ClassId) (N : Nat → Nat) (M0 MZ : me_M) (RZ : Int32) (A : Nat → Prop) : Array Value → Jvm.State → Outcome → Jvm.State → Prop := va_Qi (fun r (_ : Unit) => r = RZ ∧ me_wf N MZ ∧ me_kp M0 MZ) (fg_B D A (fun _ => me_W ad ca MZ) (fun _ => [])) A
set_option maxHeartbeats 4000000 in
set_option maxRecDepth 100000 in
theorem c_Store_delete (l : Launch) (D : va_G) (ad : Nat → Nat → Nat) (ca : Nat → ClassId) (N : Nat → Nat) (M0 MZ : me_M) (RZ : Int32) (j0 : Nat) (j1 : Nat) (x2 : Int32) (h : f_Store_delete M0 j0 j1 x2 = (some (MZ, RZ))) (hwf : me_wf N M0) (hj0 : j0 < N 12) (hj1 : j1 < N 14) (sz : Nat) : Met l y_Store_delete (fg_w y_Store_delete prog_12_method_6_code 4 (some .int)) rm_Store_delete (va_Pc [.ref (ad 12 j0), .ref (ad 14 j1), .int x2] (fz_P D (me_T ca) (me_W ad ca M0) sz)) (q_Store_delete D ad ca N M0 MZ RZ (va_A (me_W ad ca M0) sz)) rm_Store_delete.cells rm_Store_delete.slots (va_A (me_W ad ca M0) sz) := by
  refine fz_enter (fun A => q_Store_delete D ad ca N M0 MZ RZ A) (by decide +kernel) (Nat.le_of_ble_eq_true rfl) ?_
  intro p e s m below meth c ls A hx hb hml hown hts hr hlocks hin hP hK hD hS hA hX hl hz
  have hl : lv_has ls 4 [(0, .ref (ad 12 j0)), (1, .ref (ad 14 j1)), (2, .int x2)] := hl
  unfold f_Store_delete at h
  have hkp : me_kp M0 M0 := me_kp.rf
  have hkb := hkp
  refine lv_aload_n hx hb d_Store_delete_0 rfl (lv_at hl 0 rfl) ?_
  refine g_Store_0 hx hb hts hown hK hP hwf hj0 (hts _ u_900) d_Store_delete_1 ?_
  have z1 := (hwf.2.2.2 12 j0 0 rfl)
  refine lv_if_eq (tgt := 16) hx hb d_Store_delete_4 (by decide) (fun c2 => ?_) (fun c2 => ?_)
  · have h := if_t c2 h
    refine lv_iconst (v := (-1)) hx hb d_Store_delete_16 (by decide) ?_
    refine lv_istore_n (lv' := [(3, .int (-1)), (0, .ref (ad 12 j0)), (1, .ref (ad 14 j1)), (2, .int x2)]) hx hb d_Store_delete_17 rfl hl (by decide) rfl (fun ls hl => ?_)
    refine lv_iload_n hx hb d_Store_delete_18 rfl (lv_at hl 0 rfl) ?_
    refine lv_iconst (v := (-1)) hx hb d_Store_delete_19 (by decide) ?_
    refine lv_icmp_ne (tgt := 25) hx hb d_Store_delete_20 (by decide) (fun c3 => absurd (by decide) c3) (fun c3 => ?_)
    refine lv_iconst (v := (-1)) hx hb d_Store_delete_23 (by decide) ?_
    exact me_reti (me_kp M0) h hx hb hr hlocks hwf hkp hP hK hD hS d_Store_delete_24
  have h := if_f c2 h
  refine lv_aload_n hx hb d_Store_delete_7 rfl (lv_at hl 0 rfl) ?_
  refine lv_aload_n hx hb d_Store_delete_8 rfl (lv_at hl 1 rfl) ?_
  refine lv_iload_n hx hb d_Store_delete_9 rfl (lv_at hl 2 rfl) ?_
  obtain ⟨M4, r5, eM4, h⟩ := b2_ob h
  refine me_theni0 (M1 := M4) (me_runV (C := "FilterGuard$Store") (As := [.ref (ad 14 j1), .int x2]) (rest := []) ⟨hx, hb, hml, hown, hts⟩ (c_Store_entryOf l D ad ca N M0 M4 r5 j0 j1 x2 eM4 hwf hj0 hj1 _) rfl (by show fg_nm y_Store_entryOf 2; decide +kernel) u_1526 u_1527 u_1528 u_201 u_1529 ⟨Nat.le_of_ble_eq_true rfl, Nat.le_of_ble_eq_true rfl⟩ hX hz hK hP hD hwf hS hA hj0 (by decide) rfl rfl rfl hl.1 (Nat.le_of_ble_eq_true rfl) d_Store_delete_10 ⟨Nat.le_of_ble_eq_true rfl, Nat.le_of_ble_eq_true rfl⟩) hP hD hK hS hA rfl rfl (fun H locs hw hP hD hS => ?_)
  obtain ⟨hwf, hk9⟩ := hw
  have hkp := hkp.tr hk9
  refine lv_goto (tgt := 17) hx hb d_Store_delete_13 (by decide) ?_
  refine lv_istore_n (lv' := [(3, .int r5), (0, .ref (ad 12 j0)), (1, .ref (ad 14 j1)), (2, .int x2)]) hx hb d_Store_delete_17 rfl hl (by decide) rfl (fun ls hl => ?_)
  refine lv_iload_n hx hb d_Store_delete_18 rfl (lv_at hl 0 rfl) ?_
  refine lv_iconst (v := (-1)) hx hb d_Store_delete_19 (by decide) ?_
  refine lv_icmp_ne (tgt := 25) hx hb d_Store_delete_20 (by decide) (fun c6 => ?_) (fun c6 => ?_)
  · have h := if_f c6 h
    refine lv_aload_n hx hb d_Store_delete_25 rfl (lv_at hl 1 rfl) ?_
    refine g_Store_6 hx hb hts hown hK hP hwf hj0 (hts _ u_917) d_Store_delete_26 ?_
    obtain ⟨j7, e8, h⟩ := bd_ob h
    have hj7 : j7 < N 15 := (hwf.2.1 12 j0 6 _ (kp_r hkb hkp e8) (by decide) hj0)
    refine me_opt (j := j7) (kp_r hkb hkp e8) ?_
    refine lv_iload_n hx hb d_Store_delete_29 rfl (lv_at hl 0 rfl) ?_
    refine lv_iconst (v := 0) hx hb d_Store_delete_30 (by decide) ?_
    obtain ⟨g9, h⟩ := gd_ob h
    obtain ⟨M10, eM10, h⟩ := st_ob h
    refine me_zast eM10 hx hb hK hP hD hwf hS hj7 (kp_z hkb.z hkp.z g9) d_Store_delete_31 (fun H locs hP hD hwf hS => ?_)
    have hkp := kp_I eM10 hkp
    refine lv_iconst (v := 0) hx hb d_Store_delete_32 (by decide) ?_
    exact me_reti (me_kp M0) h hx hb hr hlocks hwf hkp hP hK hD hS d_Store_delete_33
  have h := if_t c6 h
  refine lv_iconst (v := (-1)) hx hb d_Store_delete_23 (by decide) ?_
  exact me_reti (me_kp M0) h hx hb hr hlocks hwf hkp hP hK hD hS d_Store_delete_24
