theorem d_Machine_go_54 : decode prog_7_method_4_code 54 = .ok (.aload_n 0, 1) := by decide +kernel
theorem d_Machine_go_55 : decode prog_7_method_4_code 55 = .ok (.dup, 1) := by decide +kernel
theorem d_Machine_go_56 : decode prog_7_method_4_code 56 = .ok (.getfield 91, 3) := by decide +kernel
theorem g_Machine_14 {p : Program} {l : Launch} {e : Env} {R : Room} {s : Jvm.State} {m : MethodId} {args : Array Value} {below : List Frame} {meth : Method} {c : Code} {H : Heap} {locs : List Loc} {cells slots : Nat} {Q : Jvm.State → Prop} {cc : ByteArray} {pc : Nat} {ls : Array Slot} {rest : List Value} {D : va_G} {ad : Nat → Nat → Nat} {ca : Nat → ClassId} {M : me_M} {N : Nat → Nat} {own : String} {index j : Nat} (hexec : p.tables.exec = Jvm.exec) (hb : c.code = cc) (hts : ∀ w ∈ fg_g, w.before args s = true) (hown : s.vm.findClass own = some m.cls) (hK : va_K D classes (me_T ca) s) (hP : va_P D classes (me_W ad ca M) H) (hwf : me_wf N M) (hj : j < N 5) (hlink : (Cond.fieldLink own index "FilterGuard$Machine" "done" "I").before args s = true) (hdg : decode cc pc = .ok (.getfield index, 3)) (kk : W p l e R s m args below meth c H locs cells slots Q (F0 m (pc + 3) ls (.int (mI M 5 j 14) :: rest))) : W p l e R s m args below meth c H locs cells slots Q (F0 m pc ls (.ref (ad 5 j) :: rest)) := me_get (k := 5) (f := 14) (C := "FilterGuard$Machine") (T := F_Machine) (Nf := 20) hexec hb hts i_Machine hown hK hP hwf hj (by decide) rfl (by decide) (by decide) hlink (fun _ h9 => h9) hdg kk
theorem d_Machine_go_59 : decode prog_7_method_4_code 59 = .ok (.iconst 1, 1) := by decide +kernel
theorem d_Machine_go_60 : decode prog_7_method_4_code 60 = .ok (.iadd, 1) := by decide +kernel
theorem d_Machine_go_61 : decode prog_7_method_4_code 61 = .ok (.putfield 91, 3) := by decide +kernel
theorem d_Machine_go_64 : decode prog_7_method_4_code 64 = .ok (.aload_n 0, 1) := by decide +kernel
theorem d_Machine_go_65 : decode prog_7_method_4_code 65 = .ok (.aload_n 0, 1) := by decide +kernel
theorem d_Machine_go_66 : decode prog_7_method_4_code 66 = .ok (.getfield 76, 3) := by decide +kernel
theorem d_Machine_go_69 : decode prog_7_method_4_code 69 = .ok (.invokevirtual 94, 3) := by decide +kernel
theorem u_1649 : Cond.methodLink "FilterGuard$Machine" 94 ⟨"FilterGuard$Machine", "step", "(I)Z"⟩ ∈ fg_g := fg_in (List.mem_of_getElem? (i := 1649) (by decide +kernel)) rfl
theorem u_1652 : Cond.code ⟨"FilterGuard$Machine", "step", "(I)Z"⟩ prog_7_method_6_code 2 (some .boolean) ∈ fg_g := fg_in (List.mem_of_getElem? (i := 1652) (by decide +kernel)) rfl
theorem u_1651 : Cond.instanceMethod ⟨"FilterGuard$Machine", "step", "(I)Z"⟩ ∈ fg_g := fg_in (List.mem_of_getElem? (i := 1651) (by decide +kernel)) rfl
theorem u_73 : Cond.selects "FilterGuard$Machine" ⟨"FilterGuard$Machine", "step", "(I)Z"⟩ ⟨"FilterGuard$Machine", "step", "(I)Z"⟩ ∈ fg_g := fg_in (List.mem_of_getElem? (i := 73) (by decide +kernel)) rfl
theorem d_Machine_go_72 : decode prog_7_method_4_code 72 = .ok (.istore_n 2, 1) := by decide +kernel
theorem d_Machine_go_73 : decode prog_7_method_4_code 73 = .ok (.aload_n 0, 1) := by decide +kernel
theorem d_Machine_go_74 : decode prog_7_method_4_code 74 = .ok (.getfield 84, 3) := by decide +kernel
theorem g_Machine_13 {p : Program} {l : Launch} {e : Env} {R : Room} {s : Jvm.State} {m : MethodId} {args : Array Value} {below : List Frame} {meth : Method} {c : Code} {H : Heap} {locs : List Loc} {cells slots : Nat} {Q : Jvm.State → Prop} {cc : ByteArray} {pc : Nat} {ls : Array Slot} {rest : List Value} {D : va_G} {ad : Nat → Nat → Nat} {ca : Nat → ClassId} {M : me_M} {N : Nat → Nat} {own : String} {index j : Nat} (hexec : p.tables.exec = Jvm.exec) (hb : c.code = cc) (hts : ∀ w ∈ fg_g, w.before args s = true) (hown : s.vm.findClass own = some m.cls) (hK : va_K D classes (me_T ca) s) (hP : va_P D classes (me_W ad ca M) H) (hwf : me_wf N M) (hj : j < N 5) (hlink : (Cond.fieldLink own index "FilterGuard$Machine" "mode" "I").before args s = true) (hdg : decode cc pc = .ok (.getfield index, 3)) (kk : W p l e R s m args below meth c H locs cells slots Q (F0 m (pc + 3) ls (.int (mI M 5 j 13) :: rest))) : W p l e R s m args below meth c H locs cells slots Q (F0 m pc ls (.ref (ad 5 j) :: rest)) := me_get (k := 5) (f := 13) (C := "FilterGuard$Machine") (T := F_Machine) (Nf := 20) hexec hb hts i_Machine hown hK hP hwf hj (by decide) rfl (by decide) (by decide) hlink (fun _ h9 => h9) hdg kk
theorem d_Machine_go_77 : decode prog_7_method_4_code 77 = .ok (.ifCond .ne 49, 3) := by decide +kernel
theorem d_Machine_go_126 : decode prog_7_method_4_code 126 = .ok (.iinc 3 1, 3) := by decide +kernel
theorem d_Machine_go_129 : decode prog_7_method_4_code 129 = .ok (.goto (-120), 3) := by decide +kernel
theorem d_Machine_go_80 : decode prog_7_method_4_code 80 = .ok (.aload_n 0, 1) := by decide +kernel
theorem d_Machine_go_81 : decode prog_7_method_4_code 81 = .ok (.getfield 48, 3) := by decide +kernel
theorem d_Machine_go_84 : decode prog_7_method_4_code 84 = .ok (.getfield 98, 3) := by decide +kernel
theorem d_Machine_go_87 : decode prog_7_method_4_code 87 = .ok (.bipush 9, 2) := by decide +kernel
theorem d_Machine_go_89 : decode prog_7_method_4_code 89 = .ok (.if_icmp .ne 37, 3) := by decide +kernel
theorem d_Machine_go_92 : decode prog_7_method_4_code 92 = .ok (.aload_n 0, 1) := by decide +kernel
theorem d_Machine_go_93 : decode prog_7_method_4_code 93 = .ok (.getfield 48, 3) := by decide +kernel
theorem d_Machine_go_96 : decode prog_7_method_4_code 96 = .ok (.getfield 101, 3) := by decide +kernel
theorem d_Machine_go_99 : decode prog_7_method_4_code 99 = .ok (.iconst 1, 1) := by decide +kernel
theorem d_Machine_go_100 : decode prog_7_method_4_code 100 = .ok (.if_icmp .ne 26, 3) := by decide +kernel
theorem d_Machine_go_103 : decode prog_7_method_4_code 103 = .ok (.aload_n 0, 1) := by decide +kernel
theorem d_Machine_go_104 : decode prog_7_method_4_code 104 = .ok (.getfield 44, 3) := by decide +kernel
theorem d_Machine_go_107 : decode prog_7_method_4_code 107 = .ok (.aload_n 0, 1) := by decide +kernel
theorem d_Machine_go_108 : decode prog_7_method_4_code 108 = .ok (.getfield 18, 3) := by decide +kernel
theorem d_Machine_go_111 : decode prog_7_method_4_code 111 = .ok (.iconst 0, 1) := by decide +kernel
theorem d_Machine_go_112 : decode prog_7_method_4_code 112 = .ok (.laload, 1) := by decide +kernel
theorem d_Machine_go_113 : decode prog_7_method_4_code 113 = .ok (.lconst 0, 1) := by decide +kernel
theorem d_Machine_go_114 : decode prog_7_method_4_code 114 = .ok (.lcmp, 1) := by decide +kernel
theorem d_Machine_go_115 : decode prog_7_method_4_code 115 = .ok (.ifCond .eq 7, 3) := by decide +kernel
theorem d_Machine_go_122 : decode prog_7_method_4_code 122 = .ok (.iconst 0, 1) := by decide +kernel
theorem d_Machine_go_123 : decode prog_7_method_4_code 123 = .ok (.invokevirtual 104, 3) := by decide +kernel
theorem u_1722 : Cond.methodLink "FilterGuard$Machine" 104 ⟨"FilterGuard$Checks", "find", "(Z)V"⟩ ∈ fg_g := fg_in (List.mem_of_getElem? (i := 1722) (by decide +kernel)) rfl
theorem u_1725 : Cond.code ⟨"FilterGuard$Checks", "find", "(Z)V"⟩ prog_3_method_3_code 2 none ∈ fg_g := fg_in (List.mem_of_getElem? (i := 1725) (by decide +kernel)) rfl
theorem u_1723 : Cond.instanceMethod ⟨"FilterGuard$Checks", "find", "(Z)V"⟩ ∈ fg_g := fg_in (List.mem_of_getElem? (i := 1723) (by decide +kernel)) rfl
theorem u_1724 : Cond.selects "FilterGuard$Checks" ⟨"FilterGuard$Checks", "find", "(Z)V"⟩ ⟨"FilterGuard$Checks", "find", "(Z)V"⟩ ∈ fg_g := fg_in (List.mem_of_getElem? (i := 1724) (by decide +kernel)) rfl
theorem d_Machine_go_118 : decode prog_7_method_4_code 118 = .ok (.iconst 1, 1) := by decide +kernel
theorem d_Machine_go_119 : decode prog_7_method_4_code 119 = .ok (.goto 4, 3) := by decide +kernel
theorem d_Machine_go_9 : decode prog_7_method_4_code 9 = .ok (.iload_n 3, 1) := by decide +kernel
theorem d_Machine_go_10 : decode prog_7_method_4_code 10 = .ok (.ldc 75, 2) := by decide +kernel
theorem u_1595 : Cond.constant "FilterGuard$Machine" 75 1000000 ∈ fg_g := fg_in (List.mem_of_getElem? (i := 1595) (by decide +kernel)) rfl
theorem d_Machine_go_12 : decode prog_7_method_4_code 12 = .ok (.if_icmp .ge 120, 3) := by decide +kernel
theorem d_Machine_go_132 : decode prog_7_method_4_code 132 = .ok (.aload_n 0, 1) := by decide +kernel
theorem d_Machine_go_133 : decode prog_7_method_4_code 133 = .ok (.getfield 18, 3) := by decide +kernel
theorem d_Machine_go_136 : decode prog_7_method_4_code 136 = .ok (.iconst 0, 1) := by decide +kernel
theorem d_Machine_go_137 : decode prog_7_method_4_code 137 = .ok (.laload, 1) := by decide +kernel
theorem d_Machine_go_138 : decode prog_7_method_4_code 138 = .ok (.lreturn, 1) := by decide +kernel
theorem d_Machine_go_15 : decode prog_7_method_4_code 15 = .ok (.iload_n 2, 1) := by decide +kernel
theorem d_Machine_go_16 : decode prog_7_method_4_code 16 = .ok (.ifCond .eq 116, 3) := by decide +kernel
theorem d_Machine_go_19 : decode prog_7_method_4_code 19 = .ok (.aload_n 0, 1) := by decide +kernel
theorem d_Machine_go_20 : decode prog_7_method_4_code 20 = .ok (.getfield 48, 3) := by decide +kernel
theorem d_Machine_go_23 : decode prog_7_method_4_code 23 = .ok (.aload_n 0, 1) := by decide +kernel
theorem d_Machine_go_24 : decode prog_7_method_4_code 24 = .ok (.getfield 76, 3) := by decide +kernel
theorem d_Machine_go_27 : decode prog_7_method_4_code 27 = .ok (.invokevirtual 79, 3) := by decide +kernel
theorem u_1596 : Cond.methodLink "FilterGuard$Machine" 79 ⟨"FilterGuard$Code", "look", "(I)V"⟩ ∈ fg_g := fg_in (List.mem_of_getElem? (i := 1596) (by decide +kernel)) rfl
theorem d_Machine_go_30 : decode prog_7_method_4_code 30 = .ok (.aload_n 0, 1) := by decide +kernel
theorem d_Machine_go_31 : decode prog_7_method_4_code 31 = .ok (.getfield 84, 3) := by decide +kernel
theorem d_Machine_go_34 : decode prog_7_method_4_code 34 = .ok (.ifCond .ne 20, 3) := by decide +kernel
theorem d_Machine_go_37 : decode prog_7_method_4_code 37 = .ok (.aload_n 0, 1) := by decide +kernel
theorem d_Machine_go_38 : decode prog_7_method_4_code 38 = .ok (.getfield 44, 3) := by decide +kernel
theorem d_Machine_go_41 : decode prog_7_method_4_code 41 = .ok (.aload_n 0, 1) := by decide +kernel
theorem d_Machine_go_42 : decode prog_7_method_4_code 42 = .ok (.getfield 18, 3) := by decide +kernel
theorem d_Machine_go_45 : decode prog_7_method_4_code 45 = .ok (.invokevirtual 87, 3) := by decide +kernel
theorem u_1597 : Cond.methodLink "FilterGuard$Machine" 87 ⟨"FilterGuard$Checks", "allows", "([J)Z"⟩ ∈ fg_g := fg_in (List.mem_of_getElem? (i := 1597) (by decide +kernel)) rfl
theorem u_1600 : Cond.code ⟨"FilterGuard$Checks", "allows", "([J)Z"⟩ prog_3_method_4_code 3 (some .boolean) ∈ fg_g := fg_in (List.mem_of_getElem? (i := 1600) (by decide +kernel)) rfl
theorem u_1598 : Cond.instanceMethod ⟨"FilterGuard$Checks", "allows", "([J)Z"⟩ ∈ fg_g := fg_in (List.mem_of_getElem? (i := 1598) (by decide +kernel)) rfl
theorem u_1599 : Cond.selects "FilterGuard$Checks" ⟨"FilterGuard$Checks", "allows", "([J)Z"⟩ ⟨"FilterGuard$Checks", "allows", "([J)Z"⟩ ∈ fg_g := fg_in (List.mem_of_getElem? (i := 1599) (by decide +kernel)) rfl
theorem d_Machine_go_48 : decode prog_7_method_4_code 48 = .ok (.ifCond .ne 6, 3) := by decide +kernel
theorem d_Machine_go_51 : decode prog_7_method_4_code 51 = .ok (.goto 81, 3) := by decide +kernel
theorem d_Machine_go_0 : decode prog_7_method_4_code 0 = .ok (.aload_n 0, 1) := by decide +kernel
theorem d_Machine_go_1 : decode prog_7_method_4_code 1 = .ok (.iload_n 1, 1) := by decide +kernel
theorem d_Machine_go_2 : decode prog_7_method_4_code 2 = .ok (.invokevirtual 71, 3) := by decide +kernel
theorem u_1576 : Cond.methodLink "FilterGuard$Machine" 71 ⟨"FilterGuard$Machine", "begin", "(I)V"⟩ ∈ fg_g := fg_in (List.mem_of_getElem? (i := 1576) (by decide +kernel)) rfl
theorem u_1579 : Cond.code ⟨"FilterGuard$Machine", "begin", "(I)V"⟩ prog_7_method_5_code 2 none ∈ fg_g := fg_in (List.mem_of_getElem? (i := 1579) (by decide +kernel)) rfl
theorem u_1578 : Cond.instanceMethod ⟨"FilterGuard$Machine", "begin", "(I)V"⟩ ∈ fg_g := fg_in (List.mem_of_getElem? (i := 1578) (by decide +kernel)) rfl
theorem u_63 : Cond.selects "FilterGuard$Machine" ⟨"FilterGuard$Machine", "begin", "(I)V"⟩ ⟨"FilterGuard$Machine", "begin", "(I)V"⟩ ∈ fg_g := fg_in (List.mem_of_getElem? (i := 63) (by decide +kernel)) rfl
theorem d_Machine_go_5 : decode prog_7_method_4_code 5 = .ok (.iconst 1, 1) := by decide +kernel
theorem d_Machine_go_6 : decode prog_7_method_4_code 6 = .ok (.istore_n 2, 1) := by decide +kernel
theorem d_Machine_go_7 : decode prog_7_method_4_code 7 = .ok (.iconst 0, 1) := by decide +kernel
theorem d_Machine_go_8 : decode prog_7_method_4_code 8 = .ok (.istore_n 3, 1) := by decide +kernel
abbrev y_Machine_go : MethodName := ⟨"FilterGuard$Machine", "go", "(I)J"⟩
def rm_Machine_go : Room := { frames := 7, cells := 0, slots := 0, locals := 180 }
abbrev q_Machine_go (D : va_G) (ad : Nat → Nat → Nat) (ca : Nat → ClassId) (N : Nat → Nat) (M0 MZ : me_M) (RZ : Int64) (A : Nat → Prop) : Array Value → Jvm.State → Outcome → Jvm.State → Prop := va_Ql (fun r (_ : Unit) => r = RZ ∧ me_wf N MZ ∧ me_kz M0 MZ) (fg_B D A (fun _ => me_W ad ca MZ) (fun _ => [])) A
set_option maxHeartbeats 4000000 in
set_option maxRecDepth 100000 in
theorem c_Machine_go (l : Launch) (D : va_G) (ad : Nat → Nat → Nat) (ca : Nat → ClassId) (N : Nat → Nat) (M0 MZ : me_M) (RZ : Int64) (j0 : Nat) (x1 : Int32) (h : f_Machine_go M0 j0 x1 = (some (MZ, RZ))) (hwf : me_wf N M0) (hj0 : j0 < N 5) (sz : Nat) : Met l y_Machine_go (fg_w y_Machine_go prog_7_method_4_code 4 (some .long)) rm_Machine_go (va_Pc [.ref (ad 5 j0), .int x1] (fz_P D (me_T ca) (me_W ad ca M0) sz)) (q_Machine_go D ad ca N M0 MZ RZ (va_A (me_W ad ca M0) sz)) rm_Machine_go.cells rm_Machine_go.slots (va_A (me_W ad ca M0) sz) := by
  refine fz_enter (fun A => q_Machine_go D ad ca N M0 MZ RZ A) (by decide +kernel) (Nat.le_of_ble_eq_true rfl) ?_
  intro p e s m below meth c ls A hx hb hml hown hts hr hlocks hin hP hK hD hS hA hX hl hz
  have hl : lv_has ls 4 [(0, .ref (ad 5 j0)), (1, .int x1)] := hl
  unfold f_Machine_go at h
  have hkp : me_kz M0 M0 := me_kz.rf
  have hkb := hkp
  have b_54 : ∀ (k9 : me_M → Int32 → Int32 → Option (me_M × Int64)) (hk9 : ∀ (M : me_M) (y2 : Int32) (y3 : Int32) (H : Heap) (locs : List Loc) (ls : Array Slot), k9 M y2 y3 = (some (MZ, RZ)) → (y2 = 1 ∨ y2 = 0) → me_wf N M → me_kz M0 M → va_P D classes (me_W ad ca M) H → va_D A (me_W ad ca M) → va_S A s.heap H locs → lv_has ls 4 [(0, .ref (ad 5 j0)), (2, .int y2), (3, .int y3)] → W p l e rm_Machine_go s m [.ref (ad 5 j0), .int x1].toArray below meth c H locs 0 0 (MQ below (q_Machine_go D ad ca N M0 MZ RZ A) [.ref (ad 5 j0), .int x1].toArray s rm_Machine_go.cells rm_Machine_go.slots A) (F0 m 9 ls [])), ∀ (M : me_M) (y3 : Int32) (H : Heap) (locs : List Loc) (ls : Array Slot), f_Machine_go_b54 k9 j0 M y3 = (some (MZ, RZ)) → me_wf N M → me_kz M0 M → va_P D classes (me_W ad ca M) H → va_D A (me_W ad ca M) → va_S A s.heap H locs → lv_has ls 4 [(0, .ref (ad 5 j0)), (3, .int y3)] → W p l e rm_Machine_go s m [.ref (ad 5 j0), .int x1].toArray below meth c H locs 0 0 (MQ below (q_Machine_go D ad ca N M0 MZ RZ A) [.ref (ad 5 j0), .int x1].toArray s rm_Machine_go.cells rm_Machine_go.slots A) (F0 m 54 ls []) := by
    intro k9 hk9 M y3 H locs ls h hwf hkp hP hD hS hl
    unfold f_Machine_go_b54 at h
    have hkb := hkp
    refine lv_aload_n hx hb d_Machine_go_54 rfl (lv_at hl 0 rfl) ?_
    refine lv_dup hx hb d_Machine_go_55 rfl ?_
    refine g_Machine_14 hx hb hts hown hK hP hwf hj0 (hts _ u_644) d_Machine_go_56 ?_
    refine lv_iconst (v := 1) hx hb d_Machine_go_59 (by decide) ?_
    refine lv_iadd hx hb d_Machine_go_60 ?_
    obtain ⟨M1, eM1, h⟩ := st_ob h
    refine p_Machine_14 eM1 hx hb hts hown hK hP hD hwf hS hj0 (hts _ u_644) d_Machine_go_61 (fun H locs hP hD hwf hS => ?_)
    have hkp := kz_I eM1 hkp
    refine lv_aload_n hx hb d_Machine_go_64 rfl (lv_at hl 0 rfl) ?_
    refine lv_aload_n hx hb d_Machine_go_65 rfl (lv_at hl 0 rfl) ?_
    refine g_Machine_17 hx hb hts hown hK hP hwf hj0 (hts _ u_649) d_Machine_go_66 ?_
    obtain ⟨M2, r3, eM2, h⟩ := b2_ob h
    refine me_theni0 (M1 := M2) (me_runV (C := "FilterGuard$Machine") (As := [.int (mI M1 5 j0 17)]) (rest := []) ⟨hx, hb, hml, hown, hts⟩ (c_Machine_step l D ad ca N M1 M2 r3 j0 (mI M1 5 j0 17) eM2 hwf hj0 _) rfl (by show fg_nm y_Machine_step 1; decide +kernel) u_1649 u_1651 u_73 u_190 u_1652 ⟨Nat.le_of_ble_eq_true rfl, Nat.le_of_ble_eq_true rfl⟩ hX hz hK hP hD hwf hS hA hj0 (by decide) rfl rfl rfl hl.1 (Nat.le_of_ble_eq_true rfl) d_Machine_go_69 ⟨Nat.le_of_ble_eq_true rfl, Nat.le_of_ble_eq_true rfl⟩) hP hD hK hS hA rfl rfl (fun H locs hw hP hD hS => ?_)
    obtain ⟨hwf, hkq, zr3⟩ := hw
    have hkp := hkp.tr hkq
    refine lv_istore_n (lv' := [(2, .int r3), (0, .ref (ad 5 j0)), (3, .int y3)]) hx hb d_Machine_go_72 rfl hl (by decide) rfl (fun ls hl => ?_)
    refine lv_aload_n hx hb d_Machine_go_73 rfl (lv_at hl 1 rfl) ?_
    refine g_Machine_13 hx hb hts hown hK hP hwf hj0 (hts _ u_642) d_Machine_go_74 ?_
    refine lv_if_ne (tgt := 126) hx hb d_Machine_go_77 (by decide) (fun c4 => ?_) (fun c4 => ?_)
    · have h := if_f c4 h
      refine lv_iinc (v := y3 + 1) (lv' := [(3, .int (y3 + 1)), (2, .int r3), (0, .ref (ad 5 j0))]) hx hb d_Machine_go_126 hl (k := 2) rfl (by rfl) (by decide) rfl (fun ls hl => ?_)
      refine lv_goto (tgt := 9) hx hb d_Machine_go_129 (by decide) ?_
      exact hk9 M2 r3 (y3 + 1) _ _ _ h zr3 hwf hkp hP hD hS (lv_sub hl [2, 1, 0] rfl)
    have h := if_t c4 h
    refine lv_aload_n hx hb d_Machine_go_80 rfl (lv_at hl 1 rfl) ?_
    refine g_Machine_16 hx hb hts hown hK hP hwf hj0 (hts _ u_648) d_Machine_go_81 ?_
    obtain ⟨j5, e6, h⟩ := bd_ob h
    have hj5 : j5 < N 2 := (hwf.2.1 5 j0 16 _ e6 (by decide) hj0)
    refine me_opt (j := j5) e6 ?_
    refine g_Code_10 hx hb hts hown hK hP hwf hj5 (hts _ u_254) d_Machine_go_84 ?_
    refine lv_bipush (v := 9) hx hb d_Machine_go_87 (by decide) ?_
    refine lv_icmp_ne (tgt := 126) hx hb d_Machine_go_89 (by decide) (fun c7 => ?_) (fun c7 => ?_)
    · have h := if_f c7 h
      refine lv_iinc (v := y3 + 1) (lv' := [(3, .int (y3 + 1)), (2, .int r3), (0, .ref (ad 5 j0))]) hx hb d_Machine_go_126 hl (k := 2) rfl (by rfl) (by decide) rfl (fun ls hl => ?_)
      refine lv_goto (tgt := 9) hx hb d_Machine_go_129 (by decide) ?_
      exact hk9 M2 r3 (y3 + 1) _ _ _ h zr3 hwf hkp hP hD hS (lv_sub hl [2, 1, 0] rfl)
    have h := if_t c7 h
    refine lv_aload_n hx hb d_Machine_go_92 rfl (lv_at hl 1 rfl) ?_
    refine g_Machine_16 hx hb hts hown hK hP hwf hj0 (hts _ u_648) d_Machine_go_93 ?_
    refine me_opt (j := j5) e6 ?_
    refine g_Code_9 hx hb hts hown hK hP hwf hj5 (hts _ u_249) d_Machine_go_96 ?_
    refine lv_iconst (v := 1) hx hb d_Machine_go_99 (by decide) ?_
    refine lv_icmp_ne (tgt := 126) hx hb d_Machine_go_100 (by decide) (fun c8 => ?_) (fun c8 => ?_)
    · have h := if_f c8 h
      refine lv_iinc (v := y3 + 1) (lv' := [(3, .int (y3 + 1)), (2, .int r3), (0, .ref (ad 5 j0))]) hx hb d_Machine_go_126 hl (k := 2) rfl (by rfl) (by decide) rfl (fun ls hl => ?_)
      refine lv_goto (tgt := 9) hx hb d_Machine_go_129 (by decide) ?_
      exact hk9 M2 r3 (y3 + 1) _ _ _ h zr3 hwf hkp hP hD hS (lv_sub hl [2, 1, 0] rfl)
    have h := if_t c8 h
    refine lv_aload_n hx hb d_Machine_go_103 rfl (lv_at hl 1 rfl) ?_
    refine g_Machine_3 hx hb hts hown hK hP hwf hj0 (hts _ u_626) d_Machine_go_104 ?_
    obtain ⟨j9, e10, h⟩ := bd_ob h
    have hj9 : j9 < N 6 := (hwf.2.1 5 j0 3 _ e10 (by decide) hj0)
    refine me_opt (j := j9) e10 ?_
    refine lv_aload_n hx hb d_Machine_go_107 rfl (lv_at hl 1 rfl) ?_
    refine g_Machine_6 hx hb hts hown hK hP hwf hj0 (hts _ u_629) d_Machine_go_108 ?_
    obtain ⟨j11, e12, h⟩ := bd_ob h
    have hj11 : j11 < N 16 := (hwf.2.1 5 j0 6 _ e12 (by decide) hj0)
    refine me_opt (j := j11) e12 ?_
    refine lv_iconst (v := 0) hx hb d_Machine_go_111 (by decide) ?_
    obtain ⟨g13, h⟩ := gd_ob h
    refine me_lald hx hb hK hP hwf hj11 (me_in (i := (0 : Int32)) (k := 0) (by decide) (by decide) (kp_c hkb hkp g13)) d_Machine_go_112 ?_
    refine fg_topl (y := mL M2 16 j11 0) (congrArg _ (by decide)) ?_
    refine lv_lconst (v := 0) hx hb d_Machine_go_113 (by decide) ?_
    refine W.lcmp hx hb d_Machine_go_114 ?_
    refine lv_if_eq (tgt := 122) hx hb d_Machine_go_115 (by decide) (fun c14 => ?_) (fun c14 => ?_)
    · have h := if_t ((lg_cmp_eq _ _).mp c14) h
      refine lv_iconst (v := 0) hx hb d_Machine_go_122 (by decide) ?_
      obtain ⟨M15, eM15, h⟩ := bd_ob h
      refine me_thenv0 (M1 := M15) (me_runV (C := "FilterGuard$Checks") (As := [.int 0]) (rest := []) ⟨hx, hb, hml, hown, hts⟩ (c_Checks_find l D ad ca N M2 M15 j9 (0 : Int32) eM15 hwf hj9 (by decide) _) rfl (by show fg_nm y_Checks_find 1; decide +kernel) u_1722 u_1723 u_1724 u_191 u_1725 ⟨Nat.le_of_ble_eq_true rfl, Nat.le_of_ble_eq_true rfl⟩ hX hz hK hP hD hwf hS hA hj9 (by decide) rfl rfl rfl hl.1 (Nat.le_of_ble_eq_true rfl) d_Machine_go_123 ⟨Nat.le_of_ble_eq_true rfl, Nat.le_of_ble_eq_true rfl⟩) hP hD hK hS hA rfl rfl (fun H locs hw hP hD hS => ?_)
      obtain ⟨hwf, hkq⟩ := hw
      have hkp := hkp.tr hkq.z
      refine lv_iinc (v := y3 + 1) (lv' := [(3, .int (y3 + 1)), (2, .int r3), (0, .ref (ad 5 j0))]) hx hb d_Machine_go_126 hl (k := 2) rfl (by rfl) (by decide) rfl (fun ls hl => ?_)
      refine lv_goto (tgt := 9) hx hb d_Machine_go_129 (by decide) ?_
      exact hk9 M15 r3 (y3 + 1) _ _ _ h zr3 hwf hkp hP hD hS (lv_sub hl [2, 1, 0] rfl)
    have h := if_f (fun z => c14 ((lg_cmp_eq _ _).mpr z)) h
    refine lv_iconst (v := 1) hx hb d_Machine_go_118 (by decide) ?_
    refine lv_goto (tgt := 123) hx hb d_Machine_go_119 (by decide) ?_
    obtain ⟨M16, eM16, h⟩ := bd_ob h
    refine me_thenv0 (M1 := M16) (me_runV (C := "FilterGuard$Checks") (As := [.int 1]) (rest := []) ⟨hx, hb, hml, hown, hts⟩ (c_Checks_find l D ad ca N M2 M16 j9 (1 : Int32) eM16 hwf hj9 (by decide) _) rfl (by show fg_nm y_Checks_find 1; decide +kernel) u_1722 u_1723 u_1724 u_191 u_1725 ⟨Nat.le_of_ble_eq_true rfl, Nat.le_of_ble_eq_true rfl⟩ hX hz hK hP hD hwf hS hA hj9 (by decide) rfl rfl rfl hl.1 (Nat.le_of_ble_eq_true rfl) d_Machine_go_123 ⟨Nat.le_of_ble_eq_true rfl, Nat.le_of_ble_eq_true rfl⟩) hP hD hK hS hA rfl rfl (fun H locs hw hP hD hS => ?_)
    obtain ⟨hwf, hkq⟩ := hw
    have hkp := hkp.tr hkq.z
    refine lv_iinc (v := y3 + 1) (lv' := [(3, .int (y3 + 1)), (2, .int r3), (0, .ref (ad 5 j0))]) hx hb d_Machine_go_126 hl (k := 2) rfl (by rfl) (by decide) rfl (fun ls hl => ?_)
    refine lv_goto (tgt := 9) hx hb d_Machine_go_129 (by decide) ?_
    exact hk9 M16 r3 (y3 + 1) _ _ _ h zr3 hwf hkp hP hD hS (lv_sub hl [2, 1, 0] rfl)
  have b_9 : ∀ (fu : Nat), ∀ (M : me_M) (y2 : Int32) (y3 : Int32) (H : Heap) (locs : List Loc) (ls : Array Slot), f_Machine_go_l9 j0 fu M y2 y3 = (some (MZ, RZ)) → (y2 = 1 ∨ y2 = 0) → me_wf N M → me_kz M0 M → va_P D classes (me_W ad ca M) H → va_D A (me_W ad ca M) → va_S A s.heap H locs → lv_has ls 4 [(0, .ref (ad 5 j0)), (2, .int y2), (3, .int y3)] → W p l e rm_Machine_go s m [.ref (ad 5 j0), .int x1].toArray below meth c H locs 0 0 (MQ below (q_Machine_go D ad ca N M0 MZ RZ A) [.ref (ad 5 j0), .int x1].toArray s rm_Machine_go.cells rm_Machine_go.slots A) (F0 m 9 ls []) := by
    intro fu
    induction fu with
    | zero =>
      intro M y2 y3 H locs ls h zy2 hwf hkp hP hD hS hl
      cases h
    | succ fu ih =>
      intro M y2 y3 H locs ls h zy2 hwf hkp hP hD hS hl
      unfold f_Machine_go_l9 at h
      have hkb := hkp
      refine lv_iload_n hx hb d_Machine_go_9 rfl (lv_at hl 2 rfl) ?_
      refine lv_ldc hx hb hown (hts _ u_1595) d_Machine_go_10 ?_
      refine lv_icmp_ge (tgt := 132) hx hb d_Machine_go_12 (by decide) (fun c17 => ?_) (fun c17 => ?_)
      · have h := if_t c17 h
        refine lv_aload_n hx hb d_Machine_go_132 rfl (lv_at hl 0 rfl) ?_
        refine g_Machine_6 hx hb hts hown hK hP hwf hj0 (hts _ u_629) d_Machine_go_133 ?_
        obtain ⟨j18, e19, h⟩ := bd_ob h
        have hj18 : j18 < N 16 := (hwf.2.1 5 j0 6 _ e19 (by decide) hj0)
        refine me_opt (j := j18) e19 ?_
        refine lv_iconst (v := 0) hx hb d_Machine_go_136 (by decide) ?_
        obtain ⟨g20, h⟩ := gd_ob h
        refine me_lald hx hb hK hP hwf hj18 (me_in (i := (0 : Int32)) (k := 0) (by decide) (by decide) g20) d_Machine_go_137 ?_
        refine fg_topl (y := mL M 16 j18 0) (congrArg _ (by decide)) ?_
        exact me_retl (me_kz M0) h hx hb hr hlocks hwf hkp hP hK hD hS d_Machine_go_138
      have h := if_f c17 h
      refine lv_iload_n hx hb d_Machine_go_15 rfl (lv_at hl 1 rfl) ?_
      refine lv_if_eq (tgt := 132) hx hb d_Machine_go_16 (by decide) (fun c21 => ?_) (fun c21 => ?_)
      · have h := if_t c21 h
        refine lv_aload_n hx hb d_Machine_go_132 rfl (lv_at hl 0 rfl) ?_
        refine g_Machine_6 hx hb hts hown hK hP hwf hj0 (hts _ u_629) d_Machine_go_133 ?_
        obtain ⟨j22, e23, h⟩ := bd_ob h
        have hj22 : j22 < N 16 := (hwf.2.1 5 j0 6 _ e23 (by decide) hj0)
        refine me_opt (j := j22) e23 ?_
        refine lv_iconst (v := 0) hx hb d_Machine_go_136 (by decide) ?_
        obtain ⟨g24, h⟩ := gd_ob h
        refine me_lald hx hb hK hP hwf hj22 (me_in (i := (0 : Int32)) (k := 0) (by decide) (by decide) g24) d_Machine_go_137 ?_
        refine fg_topl (y := mL M 16 j22 0) (congrArg _ (by decide)) ?_
        exact me_retl (me_kz M0) h hx hb hr hlocks hwf hkp hP hK hD hS d_Machine_go_138
      have h := if_f c21 h
      refine lv_aload_n hx hb d_Machine_go_19 rfl (lv_at hl 0 rfl) ?_
      refine g_Machine_16 hx hb hts hown hK hP hwf hj0 (hts _ u_648) d_Machine_go_20 ?_
      obtain ⟨j25, e26, h⟩ := bd_ob h
      have hj25 : j25 < N 2 := (hwf.2.1 5 j0 16 _ e26 (by decide) hj0)
      refine me_opt (j := j25) e26 ?_
      refine lv_aload_n hx hb d_Machine_go_23 rfl (lv_at hl 0 rfl) ?_
      refine g_Machine_17 hx hb hts hown hK hP hwf hj0 (hts _ u_649) d_Machine_go_24 ?_
      obtain ⟨M27, eM27, h⟩ := bd_ob h
      refine me_thenv0 (M1 := M27) (me_runV (C := "FilterGuard$Code") (As := [.int (mI M 5 j0 17)]) (rest := []) ⟨hx, hb, hml, hown, hts⟩ (c_Code_look l D ad ca N M M27 j25 (mI M 5 j0 17) eM27 hwf hj25 _) rfl (by show fg_nm y_Code_look 1; decide +kernel) u_1596 u_958 u_959 u_182 u_960 ⟨Nat.le_of_ble_eq_true rfl, Nat.le_of_ble_eq_true rfl⟩ hX hz hK hP hD hwf hS hA hj25 (by decide) rfl rfl rfl hl.1 (Nat.le_of_ble_eq_true rfl) d_Machine_go_27 ⟨Nat.le_of_ble_eq_true rfl, Nat.le_of_ble_eq_true rfl⟩) hP hD hK hS hA rfl rfl (fun H locs hw hP hD hS => ?_)
      obtain ⟨hwf, hkq⟩ := hw
      have hkp := hkp.tr hkq.z
      refine lv_aload_n hx hb d_Machine_go_30 rfl (lv_at hl 0 rfl) ?_
      refine g_Machine_13 hx hb hts hown hK hP hwf hj0 (hts _ u_642) d_Machine_go_31 ?_
      refine lv_if_ne (tgt := 54) hx hb d_Machine_go_34 (by decide) (fun c28 => ?_) (fun c28 => ?_)
      · have h := if_f c28 h
        exact b_54 _ ih M27 y3 _ _ _ h hwf hkp hP hD hS (lv_sub hl [0, 2] rfl)
      have h := if_t c28 h
      refine lv_aload_n hx hb d_Machine_go_37 rfl (lv_at hl 0 rfl) ?_
      refine g_Machine_3 hx hb hts hown hK hP hwf hj0 (hts _ u_626) d_Machine_go_38 ?_
      obtain ⟨j29, e30, h⟩ := bd_ob h
      have hj29 : j29 < N 6 := (hwf.2.1 5 j0 3 _ e30 (by decide) hj0)
      refine me_opt (j := j29) e30 ?_
      refine lv_aload_n hx hb d_Machine_go_41 rfl (lv_at hl 0 rfl) ?_
      refine g_Machine_6 hx hb hts hown hK hP hwf hj0 (hts _ u_629) d_Machine_go_42 ?_
      obtain ⟨j31, e32, h⟩ := bd_ob h
      have hj31 : j31 < N 16 := (hwf.2.1 5 j0 6 _ e32 (by decide) hj0)
      refine me_opt (j := j31) e32 ?_
      obtain ⟨M33, r34, eM33, h⟩ := b2_ob h
      refine me_theni0 (M1 := M33) (me_runV (C := "FilterGuard$Checks") (As := [.ref (ad 16 j31)]) (rest := []) ⟨hx, hb, hml, hown, hts⟩ (c_Checks_allows l D ad ca N M27 M33 r34 j29 j31 eM33 hwf hj29 hj31 _) rfl (by show fg_nm y_Checks_allows 1; decide +kernel) u_1597 u_1598 u_1599 u_191 u_1600 ⟨Nat.le_of_ble_eq_true rfl, Nat.le_of_ble_eq_true rfl⟩ hX hz hK hP hD hwf hS hA hj29 (by decide) rfl rfl rfl hl.1 (Nat.le_of_ble_eq_true rfl) d_Machine_go_45 ⟨Nat.le_of_ble_eq_true rfl, Nat.le_of_ble_eq_true rfl⟩) hP hD hK hS hA rfl rfl (fun H locs hw hP hD hS => ?_)
      obtain ⟨hwf, hkq, zr34⟩ := hw
      have hkp := hkp.tr hkq.z
      refine lv_if_ne (tgt := 54) hx hb d_Machine_go_48 (by decide) (fun c35 => ?_) (fun c35 => ?_)
      · have h := if_f c35 h
        exact b_54 _ ih M33 y3 _ _ _ h hwf hkp hP hD hS (lv_sub hl [0, 2] rfl)
      have h := if_t c35 h
      refine lv_goto (tgt := 132) hx hb d_Machine_go_51 (by decide) ?_
      refine lv_aload_n hx hb d_Machine_go_132 rfl (lv_at hl 0 rfl) ?_
      refine g_Machine_6 hx hb hts hown hK hP hwf hj0 (hts _ u_629) d_Machine_go_133 ?_
      obtain ⟨j36, e37, h⟩ := bd_ob h
      have hj36 : j36 < N 16 := (hwf.2.1 5 j0 6 _ e37 (by decide) hj0)
      refine me_opt (j := j36) e37 ?_
      refine lv_iconst (v := 0) hx hb d_Machine_go_136 (by decide) ?_
      obtain ⟨g38, h⟩ := gd_ob h
      refine me_lald hx hb hK hP hwf hj36 (me_in (i := (0 : Int32)) (k := 0) (by decide) (by decide) (kp_c hkb hkp g38)) d_Machine_go_137 ?_
      refine fg_topl (y := mL M33 16 j36 0) (congrArg _ (by decide)) ?_
      exact me_retl (me_kz M0) h hx hb hr hlocks hwf hkp hP hK hD hS d_Machine_go_138
  refine lv_aload_n hx hb d_Machine_go_0 rfl (lv_at hl 0 rfl) ?_
  refine lv_iload_n hx hb d_Machine_go_1 rfl (lv_at hl 1 rfl) ?_
  obtain ⟨M39, eM39, h⟩ := bd_ob h
  refine me_thenv0 (M1 := M39) (me_runV (C := "FilterGuard$Machine") (As := [.int x1]) (rest := []) ⟨hx, hb, hml, hown, hts⟩ (c_Machine_begin l D ad ca N M0 M39 j0 x1 eM39 hwf hj0 _) rfl (by show fg_nm y_Machine_begin 1; decide +kernel) u_1576 u_1578 u_63 u_190 u_1579 ⟨Nat.le_of_ble_eq_true rfl, Nat.le_of_ble_eq_true rfl⟩ hX hz hK hP hD hwf hS hA hj0 (by decide) rfl rfl rfl hl.1 (Nat.le_of_ble_eq_true rfl) d_Machine_go_2 ⟨Nat.le_of_ble_eq_true rfl, Nat.le_of_ble_eq_true rfl⟩) hP hD hK hS hA rfl rfl (fun H locs hw hP hD hS => ?_)
  obtain ⟨hwf, hkq⟩ := hw
  have hkp := hkp.tr hkq
  refine lv_iconst (v := 1) hx hb d_Machine_go_5 (by decide) ?_
  refine lv_istore_n (lv' := [(2, .int 1), (0, .ref (ad 5 j0)), (1, .int x1)]) hx hb d_Machine_go_6 rfl hl (by decide) rfl (fun ls hl => ?_)
  refine lv_iconst (v := 0) hx hb d_Machine_go_7 (by decide) ?_
  refine lv_istore_n (lv' := [(3, .int 0), (2, .int 1), (0, .ref (ad 5 j0)), (1, .int x1)]) hx hb d_Machine_go_8 rfl hl (by decide) rfl (fun ls hl => ?_)
  exact b_9 _ M39 (1 : Int32) (0 : Int32) _ _ _ h (by decide) hwf hkp hP hD hS (lv_sub hl [2, 1, 0] rfl)
theorem d_G_run_0 : decode prog_1_method_15_code 0 = .ok (.iload_n 1, 1) := by decide +kernel
theorem d_G_run_1 : decode prog_1_method_15_code 1 = .ok (.ifCond .lt 8, 3) := by decide +kernel
theorem d_G_run_9 : decode prog_1_method_15_code 9 = .ok (.new 78, 3) := by decide +kernel
theorem d_G_run_4 : decode prog_1_method_15_code 4 = .ok (.iload_n 1, 1) := by decide +kernel
theorem d_G_run_5 : decode prog_1_method_15_code 5 = .ok (.iconst 2, 1) := by decide +kernel
theorem d_G_run_6 : decode prog_1_method_15_code 6 = .ok (.if_icmp .le 13, 3) := by decide +kernel
theorem d_G_run_19 : decode prog_1_method_15_code 19 = .ok (.aload_n 0, 1) := by decide +kernel
theorem d_G_run_20 : decode prog_1_method_15_code 20 = .ok (.getfield 129, 3) := by decide +kernel
theorem d_G_run_23 : decode prog_1_method_15_code 23 = .ok (.ifCond .ne 13, 3) := by decide +kernel
theorem d_G_run_36 : decode prog_1_method_15_code 36 = .ok (.aload_n 0, 1) := by decide +kernel
theorem d_G_run_37 : decode prog_1_method_15_code 37 = .ok (.getfield 50, 3) := by decide +kernel
theorem d_G_run_40 : decode prog_1_method_15_code 40 = .ok (.iload_n 1, 1) := by decide +kernel
theorem d_G_run_41 : decode prog_1_method_15_code 41 = .ok (.invokevirtual 213, 3) := by decide +kernel
theorem u_1572 : Cond.methodLink "FilterGuard" 213 ⟨"FilterGuard$Machine", "go", "(I)J"⟩ ∈ fg_g := fg_in (List.mem_of_getElem? (i := 1572) (by decide +kernel)) rfl
theorem u_1575 : Cond.code ⟨"FilterGuard$Machine", "go", "(I)J"⟩ prog_7_method_4_code 4 (some .long) ∈ fg_g := fg_in (List.mem_of_getElem? (i := 1575) (by decide +kernel)) rfl
theorem u_1573 : Cond.instanceMethod ⟨"FilterGuard$Machine", "go", "(I)J"⟩ ∈ fg_g := fg_in (List.mem_of_getElem? (i := 1573) (by decide +kernel)) rfl
theorem u_1574 : Cond.selects "FilterGuard$Machine" ⟨"FilterGuard$Machine", "go", "(I)J"⟩ ⟨"FilterGuard$Machine", "go", "(I)J"⟩ ∈ fg_g := fg_in (List.mem_of_getElem? (i := 1574) (by decide +kernel)) rfl
theorem d_G_run_44 : decode prog_1_method_15_code 44 = .ok (.lreturn, 1) := by decide +kernel
theorem d_G_run_26 : decode prog_1_method_15_code 26 = .ok (.new 92, 3) := by decide +kernel
abbrev y_G_run : MethodName := ⟨"FilterGuard", "run", "(I)J"⟩
theorem o_1570 : Cond.stringRef "FilterGuard" 209 "no such mode" ∈ lw_tbl := List.mem_of_getElem? (i := 1570) (by decide +kernel)
theorem d_G_run_12 : decode prog_1_method_15_code 12 = .ok (.dup, 1) := by decide +kernel
theorem d_G_run_13 : decode prog_1_method_15_code 13 = .ok (.ldc 209, 2) := by decide +kernel
theorem d_G_run_15 : decode prog_1_method_15_code 15 = .ok (.invokespecial 82, 3) := by decide +kernel
theorem d_G_run_18 : decode prog_1_method_15_code 18 = .ok (.athrow, 1) := by decide +kernel
theorem o_1571 : Cond.stringRef "FilterGuard" 211 "no program" ∈ lw_tbl := List.mem_of_getElem? (i := 1571) (by decide +kernel)
theorem d_G_run_29 : decode prog_1_method_15_code 29 = .ok (.dup, 1) := by decide +kernel
theorem d_G_run_30 : decode prog_1_method_15_code 30 = .ok (.ldc 211, 2) := by decide +kernel
theorem d_G_run_32 : decode prog_1_method_15_code 32 = .ok (.invokespecial 96, 3) := by decide +kernel
theorem d_G_run_35 : decode prog_1_method_15_code 35 = .ok (.athrow, 1) := by decide +kernel
def rm_G_run : Room := { frames := 8, cells := 0, slots := 0, locals := 203 }
abbrev q_G_run (D : va_G) (ad : Nat → Nat → Nat) (ca : Nat → ClassId) (N : Nat → Nat) (M0 MZ : me_M) (RZ : Int64) (A : Nat → Prop) : Array Value → Jvm.State → Outcome → Jvm.State → Prop := va_Ql (fun r (_ : Unit) => r = RZ ∧ me_wf N MZ ∧ me_kz M0 MZ) (fg_B D A (fun _ => me_W ad ca MZ) (fun _ => [])) A
set_option maxHeartbeats 4000000 in
set_option maxRecDepth 100000 in
theorem c_G_run (l : Launch) (D : va_G) (ad : Nat → Nat → Nat) (ca : Nat → ClassId) (N : Nat → Nat) (M0 MZ : me_M) (RZ : Int64) (j0 : Nat) (x1 : Int32) (h : f_G_run M0 j0 x1 = (some (MZ, RZ))) (hwf : me_wf N M0) (hj0 : j0 < N 0) (sz : Nat) : Met l y_G_run (fg_w y_G_run prog_1_method_15_code 2 (some .long)) rm_G_run (va_Pc [.ref (ad 0 j0), .int x1] (fz_P D (me_T ca) (me_W ad ca M0) sz)) (q_G_run D ad ca N M0 MZ RZ (va_A (me_W ad ca M0) sz)) rm_G_run.cells rm_G_run.slots (va_A (me_W ad ca M0) sz) := by
  refine fz_enter (fun A => q_G_run D ad ca N M0 MZ RZ A) (by decide +kernel) (Nat.le_of_ble_eq_true rfl) ?_
  intro p e s m below meth c ls A hx hb hml hown hts hr hlocks hin hP hK hD hS hA hX hl hz
  have hl : lv_has ls 2 [(0, .ref (ad 0 j0)), (1, .int x1)] := hl
  unfold f_G_run at h
  have hkp : me_kz M0 M0 := me_kz.rf
  have hkb := hkp
  refine lv_iload_n hx hb d_G_run_0 rfl (lv_at hl 1 rfl) ?_
  refine lv_if_lt (tgt := 9) hx hb d_G_run_1 (by decide) (fun c1 => ?_) (fun c1 => ?_)
  · have h := if_t c1 h
    exact absurd h (by simp)
  have h := if_f c1 h
  refine lv_iload_n hx hb d_G_run_4 rfl (lv_at hl 1 rfl) ?_
  refine lv_iconst (v := 2) hx hb d_G_run_5 (by decide) ?_
  refine lv_icmp_le (tgt := 19) hx hb d_G_run_6 (by decide) (fun c2 => ?_) (fun c2 => ?_)
  · have h := if_t c2 h
    refine lv_aload_n hx hb d_G_run_19 rfl (lv_at hl 0 rfl) ?_
    refine g_G_12 hx hb hts hown hK hP hwf hj0 (hts _ u_705) d_G_run_20 ?_
    have z3 := (hwf.2.2.2 0 j0 12 rfl)
    refine lv_if_ne (tgt := 36) hx hb d_G_run_23 (by decide) (fun c4 => ?_) (fun c4 => ?_)
    · have h := if_f c4 h
      refine lv_aload_n hx hb d_G_run_36 rfl (lv_at hl 0 rfl) ?_
      refine g_G_8 hx hb hts hown hK hP hwf hj0 (hts _ u_701) d_G_run_37 ?_
      obtain ⟨j5, e6, h⟩ := bd_ob h
      have hj5 : j5 < N 5 := (hwf.2.1 0 j0 8 _ e6 (by decide) hj0)
      refine me_opt (j := j5) e6 ?_
      refine lv_iload_n hx hb d_G_run_40 rfl (lv_at hl 1 rfl) ?_
      obtain ⟨M7, r8, eM7, h⟩ := b2_ob h
      refine me_thenl0 (M1 := M7) (me_runV (C := "FilterGuard$Machine") (As := [.int x1]) (rest := []) ⟨hx, hb, hml, hown, hts⟩ (c_Machine_go l D ad ca N M0 M7 r8 j5 x1 eM7 hwf hj5 _) rfl (by show fg_nm y_Machine_go 1; decide +kernel) u_1572 u_1573 u_1574 u_190 u_1575 ⟨Nat.le_of_ble_eq_true rfl, Nat.le_of_ble_eq_true rfl⟩ hX hz hK hP hD hwf hS hA hj5 (by decide) rfl rfl rfl hl.1 (Nat.le_of_ble_eq_true rfl) d_G_run_41 ⟨Nat.le_of_ble_eq_true rfl, Nat.le_of_ble_eq_true rfl⟩) hP hD hK hS hA rfl rfl (fun H locs hw hP hD hS => ?_)
      obtain ⟨hwf, hk9⟩ := hw
      have hkp := hkp.tr hk9
      exact me_retl (me_kz M0) h hx hb hr hlocks hwf hkp hP hK hD hS d_G_run_44
    have h := if_t c4 h
    exact absurd h (by simp)
  have h := if_f c2 h
  exact absurd h (by simp)
def rmT1_G_run : Room := { frames := 8, cells := 1, slots := 6, locals := 203 }
abbrev qT1_G_run (D : va_G) (ad : Nat → Nat → Nat) (ca : Nat → ClassId) (N : Nat → Nat) (M0 MZ : me_M) (A : Nat → Prop) : Array Value → Jvm.State → Outcome → Jvm.State → Prop := fg_Qt "java/lang/IllegalArgumentException" (fun (_ : Unit) => me_wf N MZ ∧ me_kz M0 MZ) (fg_B D A (fun _ => me_W ad ca MZ) (fun _ => [])) A
set_option maxHeartbeats 4000000 in
set_option maxRecDepth 100000 in
theorem cT1_G_run (l : Launch) (hl9 : l.stackTraces = false) (D : va_G) (ad : Nat → Nat → Nat) (ca : Nat → ClassId) (N : Nat → Nat) (M0 MZ : me_M) (j0 : Nat) (x1 : Int32) (h : fT1_G_run M0 j0 x1 = (some MZ)) (hwf : me_wf N M0) (hj0 : j0 < N 0) (sz : Nat) : fg_MetT l y_G_run (fg_w y_G_run prog_1_method_15_code 2 (some .long)) rmT1_G_run (va_Pc [.ref (ad 0 j0), .int x1] (fg_PZ D (me_T ca) (me_W ad ca M0) sz)) (qT1_G_run D ad ca N M0 MZ (va_A (me_W ad ca M0) sz)) rmT1_G_run.cells rmT1_G_run.slots (va_A (me_W ad ca M0) sz) := by
  refine fg_enterT (fun A => qT1_G_run D ad ca N M0 MZ A) (by decide +kernel) (Nat.le_of_ble_eq_true rfl) ?_
  intro p e s m below meth c ls A hx hb hml hown hts hr hlocks hin hP hK hD hS hA hX hl hno hz hy
  have hz0 := hz.1
  have hz := hz.2
  have hl : lv_has ls 2 [(0, .ref (ad 0 j0)), (1, .int x1)] := hl
  unfold fT1_G_run at h
  have hkp : me_kz M0 M0 := me_kz.rf
  have hkb := hkp
  refine lv_iload_n hx hb d_G_run_0 rfl (lv_at hl 1 rfl) ?_
  refine lv_if_lt (tgt := 9) hx hb d_G_run_1 (by decide) (fun c1 => ?_) (fun c1 => ?_)
  · have h := if_t c1 h
    obtain ⟨hwf, hkp, hP, hD⟩ := me_sub1 (me_kz M0) h hwf hkp hP hD
    obtain ⟨qs2, hqs2⟩ := hy.1 _ _ _ o_1570
    exact fg_throw (X := "java/lang/IllegalArgumentException") (names := fg_up) () hl9 hx hb hno hlocks hown hts hX hz0 hqs2 (by decide +kernel) (by decide +kernel) a_G_82 u_812 u_199 ⟨hwf, hkp⟩ hP (hK.sub (tys' := []) [] rfl) hD hS (hl.1.trans hml.symm) (Nat.lt_of_lt_of_le (Nat.lt_succ_self 5) (Nat.le_of_ble_eq_true rfl)) (Nat.le_of_ble_eq_true rfl) (Nat.le_of_ble_eq_true rfl) (Nat.le_of_ble_eq_true rfl) (Nat.le_of_ble_eq_true rfl) (Nat.le_of_ble_eq_true rfl) d_G_run_9 d_G_run_12 d_G_run_13 d_G_run_15 d_G_run_18
  have h := if_f c1 h
  refine lv_iload_n hx hb d_G_run_4 rfl (lv_at hl 1 rfl) ?_
  refine lv_iconst (v := 2) hx hb d_G_run_5 (by decide) ?_
  refine lv_icmp_le (tgt := 19) hx hb d_G_run_6 (by decide) (fun c3 => ?_) (fun c3 => ?_)
  · have h := if_t c3 h
    refine lv_aload_n hx hb d_G_run_19 rfl (lv_at hl 0 rfl) ?_
    refine g_G_12 hx hb hts hown hK hP hwf hj0 (hts _ u_705) d_G_run_20 ?_
    have z4 := (hwf.2.2.2 0 j0 12 rfl)
    refine lv_if_ne (tgt := 36) hx hb d_G_run_23 (by decide) (fun c5 => ?_) (fun c5 => ?_)
    · have h := if_f c5 h
      refine lv_aload_n hx hb d_G_run_36 rfl (lv_at hl 0 rfl) ?_
      refine g_G_8 hx hb hts hown hK hP hwf hj0 (hts _ u_701) d_G_run_37 ?_
      obtain ⟨j6, e7, h⟩ := bd_ob h
      have hj6 : j6 < N 5 := (hwf.2.1 0 j0 8 _ e7 (by decide) hj0)
      refine me_opt (j := j6) e7 ?_
      refine lv_iload_n hx hb d_G_run_40 rfl (lv_at hl 1 rfl) ?_
      obtain ⟨M8, r9, eM8, h⟩ := b2_ob h
      refine me_thenl0 (M1 := M8) (me_runV (C := "FilterGuard$Machine") (As := [.int x1]) (rest := []) ⟨hx, hb, hml, hown, hts⟩ (c_Machine_go l D ad ca N M0 M8 r9 j6 x1 eM8 hwf hj6 _) rfl (by show fg_nm y_Machine_go 1; decide +kernel) u_1572 u_1573 u_1574 u_190 u_1575 ⟨Nat.le_of_ble_eq_true rfl, Nat.le_of_ble_eq_true rfl⟩ hX hz hK hP hD hwf hS hA hj6 (by decide) rfl rfl rfl hl.1 (Nat.le_of_ble_eq_true rfl) d_G_run_41 ⟨Nat.le_of_ble_eq_true rfl, Nat.le_of_ble_eq_true rfl⟩) hP hD hK hS hA rfl rfl (fun H locs hw hP hD hS => ?_)
      obtain ⟨hwf, hk9⟩ := hw
      have hkp := hkp.tr hk9
      exact absurd h (by simp)
    have h := if_t c5 h
    exact absurd h (by simp)
  have h := if_f c3 h
  obtain ⟨hwf, hkp, hP, hD⟩ := me_sub1 (me_kz M0) h hwf hkp hP hD
  obtain ⟨qs10, hqs10⟩ := hy.1 _ _ _ o_1570
  exact fg_throw (X := "java/lang/IllegalArgumentException") (names := fg_up) () hl9 hx hb hno hlocks hown hts hX hz0 hqs10 (by decide +kernel) (by decide +kernel) a_G_82 u_812 u_199 ⟨hwf, hkp⟩ hP (hK.sub (tys' := []) [] rfl) hD hS (hl.1.trans hml.symm) (Nat.lt_of_lt_of_le (Nat.lt_succ_self 5) (Nat.le_of_ble_eq_true rfl)) (Nat.le_of_ble_eq_true rfl) (Nat.le_of_ble_eq_true rfl) (Nat.le_of_ble_eq_true rfl) (Nat.le_of_ble_eq_true rfl) (Nat.le_of_ble_eq_true rfl) d_G_run_9 d_G_run_12 d_G_run_13 d_G_run_15 d_G_run_18
def rmT2_G_run : Room := { frames := 8, cells := 1, slots := 6, locals := 203 }
abbrev qT2_G_run (D : va_G) (ad : Nat → Nat → Nat) (ca : Nat → ClassId) (N : Nat → Nat) (M0 MZ : me_M) (A : Nat → Prop) : Array Value → Jvm.State → Outcome → Jvm.State → Prop := fg_Qt "java/lang/IllegalStateException" (fun (_ : Unit) => me_wf N MZ ∧ me_kz M0 MZ) (fg_B D A (fun _ => me_W ad ca MZ) (fun _ => [])) A
set_option maxHeartbeats 4000000 in
set_option maxRecDepth 100000 in
theorem cT2_G_run (l : Launch) (hl9 : l.stackTraces = false) (D : va_G) (ad : Nat → Nat → Nat) (ca : Nat → ClassId) (N : Nat → Nat) (M0 MZ : me_M) (j0 : Nat) (x1 : Int32) (h : fT2_G_run M0 j0 x1 = (some MZ)) (hwf : me_wf N M0) (hj0 : j0 < N 0) (sz : Nat) : fg_MetT l y_G_run (fg_w y_G_run prog_1_method_15_code 2 (some .long)) rmT2_G_run (va_Pc [.ref (ad 0 j0), .int x1] (fg_PZ D (me_T ca) (me_W ad ca M0) sz)) (qT2_G_run D ad ca N M0 MZ (va_A (me_W ad ca M0) sz)) rmT2_G_run.cells rmT2_G_run.slots (va_A (me_W ad ca M0) sz) := by
  refine fg_enterT (fun A => qT2_G_run D ad ca N M0 MZ A) (by decide +kernel) (Nat.le_of_ble_eq_true rfl) ?_
  intro p e s m below meth c ls A hx hb hml hown hts hr hlocks hin hP hK hD hS hA hX hl hno hz hy
  have hz0 := hz.1
  have hz := hz.2
  have hl : lv_has ls 2 [(0, .ref (ad 0 j0)), (1, .int x1)] := hl
  unfold fT2_G_run at h
  have hkp : me_kz M0 M0 := me_kz.rf
  have hkb := hkp
  refine lv_iload_n hx hb d_G_run_0 rfl (lv_at hl 1 rfl) ?_
  refine lv_if_lt (tgt := 9) hx hb d_G_run_1 (by decide) (fun c1 => ?_) (fun c1 => ?_)
  · have h := if_t c1 h
    exact absurd h (by simp)
  have h := if_f c1 h
  refine lv_iload_n hx hb d_G_run_4 rfl (lv_at hl 1 rfl) ?_
  refine lv_iconst (v := 2) hx hb d_G_run_5 (by decide) ?_
  refine lv_icmp_le (tgt := 19) hx hb d_G_run_6 (by decide) (fun c2 => ?_) (fun c2 => ?_)
  · have h := if_t c2 h
    refine lv_aload_n hx hb d_G_run_19 rfl (lv_at hl 0 rfl) ?_
    refine g_G_12 hx hb hts hown hK hP hwf hj0 (hts _ u_705) d_G_run_20 ?_
    have z3 := (hwf.2.2.2 0 j0 12 rfl)
    refine lv_if_ne (tgt := 36) hx hb d_G_run_23 (by decide) (fun c4 => ?_) (fun c4 => ?_)
    · have h := if_f c4 h
      refine lv_aload_n hx hb d_G_run_36 rfl (lv_at hl 0 rfl) ?_
      refine g_G_8 hx hb hts hown hK hP hwf hj0 (hts _ u_701) d_G_run_37 ?_
      obtain ⟨j5, e6, h⟩ := bd_ob h
      have hj5 : j5 < N 5 := (hwf.2.1 0 j0 8 _ e6 (by decide) hj0)
      refine me_opt (j := j5) e6 ?_
      refine lv_iload_n hx hb d_G_run_40 rfl (lv_at hl 1 rfl) ?_
      obtain ⟨M7, r8, eM7, h⟩ := b2_ob h
      refine me_thenl0 (M1 := M7) (me_runV (C := "FilterGuard$Machine") (As := [.int x1]) (rest := []) ⟨hx, hb, hml, hown, hts⟩ (c_Machine_go l D ad ca N M0 M7 r8 j5 x1 eM7 hwf hj5 _) rfl (by show fg_nm y_Machine_go 1; decide +kernel) u_1572 u_1573 u_1574 u_190 u_1575 ⟨Nat.le_of_ble_eq_true rfl, Nat.le_of_ble_eq_true rfl⟩ hX hz hK hP hD hwf hS hA hj5 (by decide) rfl rfl rfl hl.1 (Nat.le_of_ble_eq_true rfl) d_G_run_41 ⟨Nat.le_of_ble_eq_true rfl, Nat.le_of_ble_eq_true rfl⟩) hP hD hK hS hA rfl rfl (fun H locs hw hP hD hS => ?_)
      obtain ⟨hwf, hk9⟩ := hw
      have hkp := hkp.tr hk9
      exact absurd h (by simp)
    have h := if_t c4 h
    obtain ⟨hwf, hkp, hP, hD⟩ := me_sub1 (me_kz M0) h hwf hkp hP hD
    obtain ⟨qs9, hqs9⟩ := hy.1 _ _ _ o_1571
    exact fg_throw (X := "java/lang/IllegalStateException") (names := fg_up) () hl9 hx hb hno hlocks hown hts hX hz0 hqs9 (by decide +kernel) (by decide +kernel) a_G_96 u_879 u_200 ⟨hwf, hkp⟩ hP (hK.sub (tys' := []) [] rfl) hD hS (hl.1.trans hml.symm) (Nat.lt_of_lt_of_le (Nat.lt_succ_self 5) (Nat.le_of_ble_eq_true rfl)) (Nat.le_of_ble_eq_true rfl) (Nat.le_of_ble_eq_true rfl) (Nat.le_of_ble_eq_true rfl) (Nat.le_of_ble_eq_true rfl) (Nat.le_of_ble_eq_true rfl) d_G_run_26 d_G_run_29 d_G_run_30 d_G_run_32 d_G_run_35
  have h := if_f c2 h
  exact absurd h (by simp)
theorem d_G_ran_0 : decode prog_1_method_16_code 0 = .ok (.aload_n 0, 1) := by decide +kernel
theorem d_G_ran_1 : decode prog_1_method_16_code 1 = .ok (.getfield 50, 3) := by decide +kernel
theorem d_G_ran_4 : decode prog_1_method_16_code 4 = .ok (.getfield 217, 3) := by decide +kernel
theorem u_641 : Cond.fieldLink "FilterGuard" 217 "FilterGuard$Machine" "runs" "I" ∈ fg_g := fg_in (List.mem_of_getElem? (i := 641) (by decide +kernel)) rfl
theorem d_G_ran_7 : decode prog_1_method_16_code 7 = .ok (.ifCond .ne 5, 3) := by decide +kernel
theorem d_G_ran_12 : decode prog_1_method_16_code 12 = .ok (.iload_n 1, 1) := by decide +kernel
theorem d_G_ran_13 : decode prog_1_method_16_code 13 = .ok (.tableswitch 51 0 2 #[27, 35, 43], 27) := by decide +kernel
theorem d_G_ran_40 : decode prog_1_method_16_code 40 = .ok (.aload_n 0, 1) := by decide +kernel
theorem d_G_ran_41 : decode prog_1_method_16_code 41 = .ok (.getfield 50, 3) := by decide +kernel
theorem d_G_ran_44 : decode prog_1_method_16_code 44 = .ok (.getfield 220, 3) := by decide +kernel
theorem u_645 : Cond.fieldLink "FilterGuard" 220 "FilterGuard$Machine" "done" "I" ∈ fg_g := fg_in (List.mem_of_getElem? (i := 645) (by decide +kernel)) rfl
theorem d_G_ran_47 : decode prog_1_method_16_code 47 = .ok (.ireturn, 1) := by decide +kernel
theorem d_G_ran_48 : decode prog_1_method_16_code 48 = .ok (.aload_n 0, 1) := by decide +kernel
theorem d_G_ran_49 : decode prog_1_method_16_code 49 = .ok (.getfield 50, 3) := by decide +kernel
theorem d_G_ran_52 : decode prog_1_method_16_code 52 = .ok (.getfield 223, 3) := by decide +kernel
theorem u_643 : Cond.fieldLink "FilterGuard" 223 "FilterGuard$Machine" "mode" "I" ∈ fg_g := fg_in (List.mem_of_getElem? (i := 643) (by decide +kernel)) rfl
theorem d_G_ran_55 : decode prog_1_method_16_code 55 = .ok (.ireturn, 1) := by decide +kernel
theorem d_G_ran_56 : decode prog_1_method_16_code 56 = .ok (.aload_n 0, 1) := by decide +kernel
theorem d_G_ran_57 : decode prog_1_method_16_code 57 = .ok (.getfield 50, 3) := by decide +kernel
theorem d_G_ran_60 : decode prog_1_method_16_code 60 = .ok (.getfield 226, 3) := by decide +kernel
theorem u_647 : Cond.fieldLink "FilterGuard" 226 "FilterGuard$Machine" "ranPacket" "I" ∈ fg_g := fg_in (List.mem_of_getElem? (i := 647) (by decide +kernel)) rfl
theorem g_Machine_15 {p : Program} {l : Launch} {e : Env} {R : Room} {s : Jvm.State} {m : MethodId} {args : Array Value} {below : List Frame} {meth : Method} {c : Code} {H : Heap} {locs : List Loc} {cells slots : Nat} {Q : Jvm.State → Prop} {cc : ByteArray} {pc : Nat} {ls : Array Slot} {rest : List Value} {D : va_G} {ad : Nat → Nat → Nat} {ca : Nat → ClassId} {M : me_M} {N : Nat → Nat} {own : String} {index j : Nat} (hexec : p.tables.exec = Jvm.exec) (hb : c.code = cc) (hts : ∀ w ∈ fg_g, w.before args s = true) (hown : s.vm.findClass own = some m.cls) (hK : va_K D classes (me_T ca) s) (hP : va_P D classes (me_W ad ca M) H) (hwf : me_wf N M) (hj : j < N 5) (hlink : (Cond.fieldLink own index "FilterGuard$Machine" "ranPacket" "I").before args s = true) (hdg : decode cc pc = .ok (.getfield index, 3)) (kk : W p l e R s m args below meth c H locs cells slots Q (F0 m (pc + 3) ls (.int (mI M 5 j 15) :: rest))) : W p l e R s m args below meth c H locs cells slots Q (F0 m pc ls (.ref (ad 5 j) :: rest)) := me_get (k := 5) (f := 15) (C := "FilterGuard$Machine") (T := F_Machine) (Nf := 20) hexec hb hts i_Machine hown hK hP hwf hj (by decide) rfl (by decide) (by decide) hlink (fun _ h9 => h9) hdg kk
theorem d_G_ran_63 : decode prog_1_method_16_code 63 = .ok (.ireturn, 1) := by decide +kernel
theorem d_G_ran_64 : decode prog_1_method_16_code 64 = .ok (.iconst (-1), 1) := by decide +kernel
theorem d_G_ran_65 : decode prog_1_method_16_code 65 = .ok (.ireturn, 1) := by decide +kernel
theorem d_G_ran_10 : decode prog_1_method_16_code 10 = .ok (.iconst (-1), 1) := by decide +kernel
theorem d_G_ran_11 : decode prog_1_method_16_code 11 = .ok (.ireturn, 1) := by decide +kernel
abbrev y_G_ran : MethodName := ⟨"FilterGuard", "ran", "(I)I"⟩
def rm_G_ran : Room := { frames := 1, cells := 0, slots := 0, locals := 20 }
abbrev q_G_ran (D : va_G) (ad : Nat → Nat → Nat) (ca : Nat → ClassId) (N : Nat → Nat) (M0 MZ : me_M) (RZ : Int32) (A : Nat → Prop) : Array Value → Jvm.State → Outcome → Jvm.State → Prop := va_Qi (fun r (_ : Unit) => r = RZ ∧ me_wf N MZ ∧ me_kp M0 MZ) (fg_B D A (fun _ => me_W ad ca MZ) (fun _ => [])) A
set_option maxHeartbeats 4000000 in
set_option maxRecDepth 100000 in
theorem c_G_ran (l : Launch) (D : va_G) (ad : Nat → Nat → Nat) (ca : Nat → ClassId) (N : Nat → Nat) (M0 MZ : me_M) (RZ : Int32) (j0 : Nat) (x1 : Int32) (h : f_G_ran M0 j0 x1 = (some (MZ, RZ))) (hwf : me_wf N M0) (hj0 : j0 < N 0) (sz : Nat) : Met l y_G_ran (fg_w y_G_ran prog_1_method_16_code 2 (some .int)) rm_G_ran (va_Pc [.ref (ad 0 j0), .int x1] (fz_P D (me_T ca) (me_W ad ca M0) sz)) (q_G_ran D ad ca N M0 MZ RZ (va_A (me_W ad ca M0) sz)) rm_G_ran.cells rm_G_ran.slots (va_A (me_W ad ca M0) sz) := by
  refine fz_enter (fun A => q_G_ran D ad ca N M0 MZ RZ A) (by decide +kernel) (Nat.le_of_ble_eq_true rfl) ?_
  intro p e s m below meth c ls A hx hb hml hown hts hr hlocks hin hP hK hD hS hA hX hl hz
  have hl : lv_has ls 2 [(0, .ref (ad 0 j0)), (1, .int x1)] := hl
  unfold f_G_ran at h
  have hkp : me_kp M0 M0 := me_kp.rf
  have hkb := hkp
  refine lv_aload_n hx hb d_G_ran_0 rfl (lv_at hl 0 rfl) ?_
  refine g_G_8 hx hb hts hown hK hP hwf hj0 (hts _ u_701) d_G_ran_1 ?_
  obtain ⟨j1, e2, h⟩ := bd_ob h
  have hj1 : j1 < N 5 := (hwf.2.1 0 j0 8 _ e2 (by decide) hj0)
  refine me_opt (j := j1) e2 ?_
  refine g_Machine_12 hx hb hts hown hK hP hwf hj1 (hts _ u_641) d_G_ran_4 ?_
  refine lv_if_ne (tgt := 12) hx hb d_G_ran_7 (by decide) (fun c3 => ?_) (fun c3 => ?_)
  · have h := if_f c3 h
    refine lv_iload_n hx hb d_G_ran_12 rfl (lv_at hl 1 rfl) ?_
    refine lv_topi (fun w4 ew4 => ?_)
    by_cases n5 : w4 = 0
    · have h := if_t (ew4.symm.trans n5) h
      subst n5
      refine lv_tableIn (off := 27) (tgt := 40) hx hb d_G_ran_13 (by decide) (by decide) (by decide) (by decide) ?_
      refine lv_aload_n hx hb d_G_ran_40 rfl (lv_at hl 0 rfl) ?_
      refine g_G_8 hx hb hts hown hK hP hwf hj0 (hts _ u_701) d_G_ran_41 ?_
      refine me_opt (j := j1) e2 ?_
      refine g_Machine_14 hx hb hts hown hK hP hwf hj1 (hts _ u_645) d_G_ran_44 ?_
      exact me_reti (me_kp M0) h hx hb hr hlocks hwf hkp hP hK hD hS d_G_ran_47
    have h := if_f (fun z => n5 (ew4.trans z)) h
    by_cases n6 : w4 = 1
    · have h := if_t (ew4.symm.trans n6) h
      subst n6
      refine lv_tableIn (off := 35) (tgt := 48) hx hb d_G_ran_13 (by decide) (by decide) (by decide) (by decide) ?_
      refine lv_aload_n hx hb d_G_ran_48 rfl (lv_at hl 0 rfl) ?_
      refine g_G_8 hx hb hts hown hK hP hwf hj0 (hts _ u_701) d_G_ran_49 ?_
      refine me_opt (j := j1) e2 ?_
      refine g_Machine_13 hx hb hts hown hK hP hwf hj1 (hts _ u_643) d_G_ran_52 ?_
      exact me_reti (me_kp M0) h hx hb hr hlocks hwf hkp hP hK hD hS d_G_ran_55
    have h := if_f (fun z => n6 (ew4.trans z)) h
    by_cases n7 : w4 = 2
    · have h := if_t (ew4.symm.trans n7) h
      subst n7
      refine lv_tableIn (off := 43) (tgt := 56) hx hb d_G_ran_13 (by decide) (by decide) (by decide) (by decide) ?_
      refine lv_aload_n hx hb d_G_ran_56 rfl (lv_at hl 0 rfl) ?_
      refine g_G_8 hx hb hts hown hK hP hwf hj0 (hts _ u_701) d_G_ran_57 ?_
      refine me_opt (j := j1) e2 ?_
      refine g_Machine_15 hx hb hts hown hK hP hwf hj1 (hts _ u_647) d_G_ran_60 ?_
      exact me_reti (me_kp M0) h hx hb hr hlocks hwf hkp hP hK hD hS d_G_ran_63
    have h := if_f (fun z => n7 (ew4.trans z)) h
    have in5 := lv_neT n5 (show (0 : Int32).toInt = 0 from rfl)
    have in6 := lv_neT n6 (show (1 : Int32).toInt = 1 from rfl)
    have in7 := lv_neT n7 (show (2 : Int32).toInt = 2 from rfl)
    refine lv_tableOut (tgt := 64) hx hb d_G_ran_13 (by omega) (by decide) ?_
    refine lv_iconst (v := (-1)) hx hb d_G_ran_64 (by decide) ?_
    exact me_reti (me_kp M0) h hx hb hr hlocks hwf hkp hP hK hD hS d_G_ran_65
  have h := if_t c3 h
  refine lv_iconst (v := (-1)) hx hb d_G_ran_10 (by decide) ?_
  exact me_reti (me_kp M0) h hx hb hr hlocks hwf hkp hP hK hD hS d_G_ran_11
theorem d_G_told_0 : decode prog_1_method_17_code 0 = .ok (.iload_n 1, 1) := by decide +kernel
theorem d_G_told_1 : decode prog_1_method_17_code 1 = .ok (.ifCond .lt 14, 3) := by decide +kernel
theorem d_G_told_15 : decode prog_1_method_17_code 15 = .ok (.new 151, 3) := by decide +kernel
theorem d_G_told_4 : decode prog_1_method_17_code 4 = .ok (.iload_n 1, 1) := by decide +kernel
theorem d_G_told_5 : decode prog_1_method_17_code 5 = .ok (.aload_n 0, 1) := by decide +kernel
theorem d_G_told_6 : decode prog_1_method_17_code 6 = .ok (.getfield 50, 3) := by decide +kernel
theorem d_G_told_9 : decode prog_1_method_17_code 9 = .ok (.getfield 229, 3) := by decide +kernel
theorem u_637 : Cond.fieldLink "FilterGuard" 229 "FilterGuard$Machine" "toldCount" "I" ∈ fg_g := fg_in (List.mem_of_getElem? (i := 637) (by decide +kernel)) rfl
theorem d_G_told_12 : decode prog_1_method_17_code 12 = .ok (.if_icmp .lt 13, 3) := by decide +kernel
theorem d_G_told_25 : decode prog_1_method_17_code 25 = .ok (.aload_n 0, 1) := by decide +kernel
theorem d_G_told_26 : decode prog_1_method_17_code 26 = .ok (.getfield 50, 3) := by decide +kernel
theorem d_G_told_29 : decode prog_1_method_17_code 29 = .ok (.getfield 234, 3) := by decide +kernel
theorem u_635 : Cond.fieldLink "FilterGuard" 234 "FilterGuard$Machine" "tellings" "[J" ∈ fg_g := fg_in (List.mem_of_getElem? (i := 635) (by decide +kernel)) rfl
theorem d_G_told_32 : decode prog_1_method_17_code 32 = .ok (.iload_n 1, 1) := by decide +kernel
theorem d_G_told_33 : decode prog_1_method_17_code 33 = .ok (.laload, 1) := by decide +kernel
theorem d_G_told_34 : decode prog_1_method_17_code 34 = .ok (.lreturn, 1) := by decide +kernel
abbrev y_G_told : MethodName := ⟨"FilterGuard", "told", "(I)J"⟩
theorem o_1733 : Cond.stringRef "FilterGuard" 232 "not told" ∈ lw_tbl := List.mem_of_getElem? (i := 1733) (by decide +kernel)
theorem d_G_told_18 : decode prog_1_method_17_code 18 = .ok (.dup, 1) := by decide +kernel
theorem d_G_told_19 : decode prog_1_method_17_code 19 = .ok (.ldc 232, 2) := by decide +kernel
theorem d_G_told_21 : decode prog_1_method_17_code 21 = .ok (.invokespecial 155, 3) := by decide +kernel
theorem d_G_told_24 : decode prog_1_method_17_code 24 = .ok (.athrow, 1) := by decide +kernel
def rm_G_told : Room := { frames := 1, cells := 0, slots := 0, locals := 20 }
abbrev q_G_told (D : va_G) (ad : Nat → Nat → Nat) (ca : Nat → ClassId) (N : Nat → Nat) (M0 MZ : me_M) (RZ : Int64) (A : Nat → Prop) : Array Value → Jvm.State → Outcome → Jvm.State → Prop := va_Ql (fun r (_ : Unit) => r = RZ ∧ me_wf N MZ ∧ me_kp M0 MZ) (fg_B D A (fun _ => me_W ad ca MZ) (fun _ => [])) A
set_option maxHeartbeats 4000000 in
set_option maxRecDepth 100000 in
theorem c_G_told (l : Launch) (D : va_G) (ad : Nat → Nat → Nat) (ca : Nat → ClassId) (N : Nat → Nat) (M0 MZ : me_M) (RZ : Int64) (j0 : Nat) (x1 : Int32) (h : f_G_told M0 j0 x1 = (some (MZ, RZ))) (hwf : me_wf N M0) (hj0 : j0 < N 0) (sz : Nat) : Met l y_G_told (fg_w y_G_told prog_1_method_17_code 2 (some .long)) rm_G_told (va_Pc [.ref (ad 0 j0), .int x1] (fz_P D (me_T ca) (me_W ad ca M0) sz)) (q_G_told D ad ca N M0 MZ RZ (va_A (me_W ad ca M0) sz)) rm_G_told.cells rm_G_told.slots (va_A (me_W ad ca M0) sz) := by
  refine fz_enter (fun A => q_G_told D ad ca N M0 MZ RZ A) (by decide +kernel) (Nat.le_of_ble_eq_true rfl) ?_
  intro p e s m below meth c ls A hx hb hml hown hts hr hlocks hin hP hK hD hS hA hX hl hz
  have hl : lv_has ls 2 [(0, .ref (ad 0 j0)), (1, .int x1)] := hl
  unfold f_G_told at h
  have hkp : me_kp M0 M0 := me_kp.rf
  have hkb := hkp
  refine lv_iload_n hx hb d_G_told_0 rfl (lv_at hl 1 rfl) ?_
  refine lv_if_lt (tgt := 15) hx hb d_G_told_1 (by decide) (fun c1 => ?_) (fun c1 => ?_)
  · have h := if_t c1 h
    exact absurd h (by simp)
  have h := if_f c1 h
  refine lv_iload_n hx hb d_G_told_4 rfl (lv_at hl 1 rfl) ?_
  refine lv_aload_n hx hb d_G_told_5 rfl (lv_at hl 0 rfl) ?_
  refine g_G_8 hx hb hts hown hK hP hwf hj0 (hts _ u_701) d_G_told_6 ?_
  obtain ⟨j2, e3, h⟩ := bd_ob h
  have hj2 : j2 < N 5 := (hwf.2.1 0 j0 8 _ e3 (by decide) hj0)
  refine me_opt (j := j2) e3 ?_
  refine g_Machine_10 hx hb hts hown hK hP hwf hj2 (hts _ u_637) d_G_told_9 ?_
  refine lv_icmp_lt (tgt := 25) hx hb d_G_told_12 (by decide) (fun c4 => ?_) (fun c4 => ?_)
  · have h := if_t c4 h
    refine lv_aload_n hx hb d_G_told_25 rfl (lv_at hl 0 rfl) ?_
    refine g_G_8 hx hb hts hown hK hP hwf hj0 (hts _ u_701) d_G_told_26 ?_
    refine me_opt (j := j2) e3 ?_
    refine g_Machine_9 hx hb hts hown hK hP hwf hj2 (hts _ u_635) d_G_told_29 ?_
    obtain ⟨j5, e6, h⟩ := bd_ob h
    have hj5 : j5 < N 16 := (hwf.2.1 5 j2 9 _ e6 (by decide) hj2)
    refine me_opt (j := j5) e6 ?_
    refine lv_iload_n hx hb d_G_told_32 rfl (lv_at hl 1 rfl) ?_
    obtain ⟨g7, h⟩ := gd_ob h
    refine me_lald hx hb hK hP hwf hj5 g7 d_G_told_33 ?_
    exact me_retl (me_kp M0) h hx hb hr hlocks hwf hkp hP hK hD hS d_G_told_34
  have h := if_f c4 h
  exact absurd h (by simp)
def rmT3_G_told : Room := { frames := 6, cells := 1, slots := 6, locals := 100 }
abbrev qT3_G_told (D : va_G) (ad : Nat → Nat → Nat) (ca : Nat → ClassId) (N : Nat → Nat) (M0 MZ : me_M) (A : Nat → Prop) : Array Value → Jvm.State → Outcome → Jvm.State → Prop := fg_Qt "java/lang/IndexOutOfBoundsException" (fun (_ : Unit) => me_wf N MZ ∧ me_kp M0 MZ) (fg_B D A (fun _ => me_W ad ca MZ) (fun _ => [])) A
set_option maxHeartbeats 4000000 in
set_option maxRecDepth 100000 in
theorem cT3_G_told (l : Launch) (hl9 : l.stackTraces = false) (D : va_G) (ad : Nat → Nat → Nat) (ca : Nat → ClassId) (N : Nat → Nat) (M0 MZ : me_M) (j0 : Nat) (x1 : Int32) (h : fT3_G_told M0 j0 x1 = (some MZ)) (hwf : me_wf N M0) (hj0 : j0 < N 0) (sz : Nat) : fg_MetT l y_G_told (fg_w y_G_told prog_1_method_17_code 2 (some .long)) rmT3_G_told (va_Pc [.ref (ad 0 j0), .int x1] (fg_PZ D (me_T ca) (me_W ad ca M0) sz)) (qT3_G_told D ad ca N M0 MZ (va_A (me_W ad ca M0) sz)) rmT3_G_told.cells rmT3_G_told.slots (va_A (me_W ad ca M0) sz) := by
  refine fg_enterT (fun A => qT3_G_told D ad ca N M0 MZ A) (by decide +kernel) (Nat.le_of_ble_eq_true rfl) ?_
  intro p e s m below meth c ls A hx hb hml hown hts hr hlocks hin hP hK hD hS hA hX hl hno hz hy
  have hz0 := hz.1
  have hz := hz.2
  have hl : lv_has ls 2 [(0, .ref (ad 0 j0)), (1, .int x1)] := hl
  unfold fT3_G_told at h
  have hkp : me_kp M0 M0 := me_kp.rf
  have hkb := hkp
  refine lv_iload_n hx hb d_G_told_0 rfl (lv_at hl 1 rfl) ?_
  refine lv_if_lt (tgt := 15) hx hb d_G_told_1 (by decide) (fun c1 => ?_) (fun c1 => ?_)
  · have h := if_t c1 h
    obtain ⟨hwf, hkp, hP, hD⟩ := me_sub1 (me_kp M0) h hwf hkp hP hD
    obtain ⟨qs2, hqs2⟩ := hy.1 _ _ _ o_1733
    exact fg_throw (X := "java/lang/IndexOutOfBoundsException") (names := fg_up) () hl9 hx hb hno hlocks hown hts hX hz0 hqs2 (by decide +kernel) (by decide +kernel) a_G_155 u_1486 u_203 ⟨hwf, hkp⟩ hP (hK.sub (tys' := []) [] rfl) hD hS (hl.1.trans hml.symm) (Nat.lt_of_lt_of_le (Nat.lt_succ_self 5) (Nat.le_of_ble_eq_true rfl)) (Nat.le_of_ble_eq_true rfl) (Nat.le_of_ble_eq_true rfl) (Nat.le_of_ble_eq_true rfl) (Nat.le_of_ble_eq_true rfl) (Nat.le_of_ble_eq_true rfl) d_G_told_15 d_G_told_18 d_G_told_19 d_G_told_21 d_G_told_24
  have h := if_f c1 h
  refine lv_iload_n hx hb d_G_told_4 rfl (lv_at hl 1 rfl) ?_
  refine lv_aload_n hx hb d_G_told_5 rfl (lv_at hl 0 rfl) ?_
  refine g_G_8 hx hb hts hown hK hP hwf hj0 (hts _ u_701) d_G_told_6 ?_
  obtain ⟨j3, e4, h⟩ := bd_ob h
  have hj3 : j3 < N 5 := (hwf.2.1 0 j0 8 _ e4 (by decide) hj0)
  refine me_opt (j := j3) e4 ?_
  refine g_Machine_10 hx hb hts hown hK hP hwf hj3 (hts _ u_637) d_G_told_9 ?_
  refine lv_icmp_lt (tgt := 25) hx hb d_G_told_12 (by decide) (fun c5 => ?_) (fun c5 => ?_)
  · have h := if_t c5 h
    refine lv_aload_n hx hb d_G_told_25 rfl (lv_at hl 0 rfl) ?_
    refine g_G_8 hx hb hts hown hK hP hwf hj0 (hts _ u_701) d_G_told_26 ?_
    refine me_opt (j := j3) e4 ?_
    refine g_Machine_9 hx hb hts hown hK hP hwf hj3 (hts _ u_635) d_G_told_29 ?_
    obtain ⟨j6, e7, h⟩ := bd_ob h
    have hj6 : j6 < N 16 := (hwf.2.1 5 j3 9 _ e7 (by decide) hj3)
    refine me_opt (j := j6) e7 ?_
    refine lv_iload_n hx hb d_G_told_32 rfl (lv_at hl 1 rfl) ?_
    obtain ⟨g8, h⟩ := gd_ob h
    refine me_lald hx hb hK hP hwf hj6 g8 d_G_told_33 ?_
    exact absurd h (by simp)
  have h := if_f c5 h
  obtain ⟨hwf, hkp, hP, hD⟩ := me_sub1 (me_kp M0) h hwf hkp hP hD
  obtain ⟨qs9, hqs9⟩ := hy.1 _ _ _ o_1733
  exact fg_throw (X := "java/lang/IndexOutOfBoundsException") (names := fg_up) () hl9 hx hb hno hlocks hown hts hX hz0 hqs9 (by decide +kernel) (by decide +kernel) a_G_155 u_1486 u_203 ⟨hwf, hkp⟩ hP (hK.sub (tys' := []) [] rfl) hD hS (hl.1.trans hml.symm) (Nat.lt_of_lt_of_le (Nat.lt_succ_self 5) (Nat.le_of_ble_eq_true rfl)) (Nat.le_of_ble_eq_true rfl) (Nat.le_of_ble_eq_true rfl) (Nat.le_of_ble_eq_true rfl) (Nat.le_of_ble_eq_true rfl) (Nat.le_of_ble_eq_true rfl) d_G_told_15 d_G_told_18 d_G_told_19 d_G_told_21 d_G_told_24
theorem d_Store_held_4 : decode prog_12_method_7_code 4 = .ok (.iload_n 2, 1) := by decide +kernel
theorem d_Store_held_5 : decode prog_12_method_7_code 5 = .ok (.aload_n 0, 1) := by decide +kernel
theorem d_Store_held_6 : decode prog_12_method_7_code 6 = .ok (.getfield 22, 3) := by decide +kernel
theorem d_Store_held_9 : decode prog_12_method_7_code 9 = .ok (.if_icmp .ge 26, 3) := by decide +kernel
theorem d_Store_held_35 : decode prog_12_method_7_code 35 = .ok (.iload_n 1, 1) := by decide +kernel
theorem d_Store_held_36 : decode prog_12_method_7_code 36 = .ok (.ireturn, 1) := by decide +kernel
theorem d_Store_held_12 : decode prog_12_method_7_code 12 = .ok (.iload_n 1, 1) := by decide +kernel
theorem d_Store_held_13 : decode prog_12_method_7_code 13 = .ok (.aload_n 0, 1) := by decide +kernel
theorem d_Store_held_14 : decode prog_12_method_7_code 14 = .ok (.getfield 32, 3) := by decide +kernel
theorem d_Store_held_17 : decode prog_12_method_7_code 17 = .ok (.iload_n 2, 1) := by decide +kernel
theorem d_Store_held_18 : decode prog_12_method_7_code 18 = .ok (.baload, 1) := by decide +kernel
theorem d_Store_held_19 : decode prog_12_method_7_code 19 = .ok (.ifCond .eq 7, 3) := by decide +kernel
theorem d_Store_held_26 : decode prog_12_method_7_code 26 = .ok (.iconst 0, 1) := by decide +kernel
theorem d_Store_held_27 : decode prog_12_method_7_code 27 = .ok (.iadd, 1) := by decide +kernel
theorem d_Store_held_28 : decode prog_12_method_7_code 28 = .ok (.istore_n 1, 1) := by decide +kernel
theorem d_Store_held_29 : decode prog_12_method_7_code 29 = .ok (.iinc 2 1, 3) := by decide +kernel
theorem d_Store_held_32 : decode prog_12_method_7_code 32 = .ok (.goto (-28), 3) := by decide +kernel
theorem d_Store_held_22 : decode prog_12_method_7_code 22 = .ok (.iconst 1, 1) := by decide +kernel
theorem d_Store_held_23 : decode prog_12_method_7_code 23 = .ok (.goto 4, 3) := by decide +kernel
theorem d_Store_held_0 : decode prog_12_method_7_code 0 = .ok (.iconst 0, 1) := by decide +kernel
theorem d_Store_held_1 : decode prog_12_method_7_code 1 = .ok (.istore_n 1, 1) := by decide +kernel
theorem d_Store_held_2 : decode prog_12_method_7_code 2 = .ok (.iconst 0, 1) := by decide +kernel
theorem d_Store_held_3 : decode prog_12_method_7_code 3 = .ok (.istore_n 2, 1) := by decide +kernel
abbrev y_Store_held : MethodName := ⟨"FilterGuard$Store", "held", "()I"⟩
def rm_Store_held : Room := { frames := 1, cells := 0, slots := 0, locals := 20 }
abbrev q_Store_held (D : va_G) (ad : Nat → Nat → Nat) (ca : Nat → ClassId) (N : Nat → Nat) (M0 MZ : me_M) (RZ : Int32) (A : Nat → Prop) : Array Value → Jvm.State → Outcome → Jvm.State → Prop := va_Qi (fun r (_ : Unit) => r = RZ ∧ me_wf N MZ ∧ me_kp M0 MZ) (fg_B D A (fun _ => me_W ad ca MZ) (fun _ => [])) A
set_option maxHeartbeats 4000000 in
set_option maxRecDepth 100000 in
theorem c_Store_held (l : Launch) (D : va_G) (ad : Nat → Nat → Nat) (ca : Nat → ClassId) (N : Nat → Nat) (M0 MZ : me_M) (RZ : Int32) (j0 : Nat) (h : f_Store_held M0 j0 = (some (MZ, RZ))) (hwf : me_wf N M0) (hj0 : j0 < N 12) (sz : Nat) : Met l y_Store_held (fg_w y_Store_held prog_12_method_7_code 3 (some .int)) rm_Store_held (va_Pc [.ref (ad 12 j0)] (fz_P D (me_T ca) (me_W ad ca M0) sz)) (q_Store_held D ad ca N M0 MZ RZ (va_A (me_W ad ca M0) sz)) rm_Store_held.cells rm_Store_held.slots (va_A (me_W ad ca M0) sz) := by
  refine fz_enter (fun A => q_Store_held D ad ca N M0 MZ RZ A) (by decide +kernel) (Nat.le_of_ble_eq_true rfl) ?_
  intro p e s m below meth c ls A hx hb hml hown hts hr hlocks hin hP hK hD hS hA hX hl hz
  have hl : lv_has ls 3 [(0, .ref (ad 12 j0))] := hl
  unfold f_Store_held at h
  have hkp : me_kp M0 M0 := me_kp.rf
  have hkb := hkp
  have b_4 : ∀ (fu : Nat), ∀ (M : me_M) (y1 : Int32) (y2 : Int32) (H : Heap) (locs : List Loc) (ls : Array Slot), f_Store_held_l4 j0 fu M y1 y2 = (some (MZ, RZ)) → me_wf N M → me_kp M0 M → va_P D classes (me_W ad ca M) H → va_D A (me_W ad ca M) → va_S A s.heap H locs → lv_has ls 3 [(0, .ref (ad 12 j0)), (1, .int y1), (2, .int y2)] → W p l e rm_Store_held s m [.ref (ad 12 j0)].toArray below meth c H locs 0 0 (MQ below (q_Store_held D ad ca N M0 MZ RZ A) [.ref (ad 12 j0)].toArray s rm_Store_held.cells rm_Store_held.slots A) (F0 m 4 ls []) := by
    intro fu
    induction fu with
    | zero =>
      intro M y1 y2 H locs ls h hwf hkp hP hD hS hl
      cases h
    | succ fu ih =>
      intro M y1 y2 H locs ls h hwf hkp hP hD hS hl
      unfold f_Store_held_l4 at h
      have hkb := hkp
      refine lv_iload_n hx hb d_Store_held_4 rfl (lv_at hl 2 rfl) ?_
      refine lv_aload_n hx hb d_Store_held_5 rfl (lv_at hl 0 rfl) ?_
      refine g_Store_3 hx hb hts hown hK hP hwf hj0 (hts _ u_911) d_Store_held_6 ?_
      refine lv_icmp_ge (tgt := 35) hx hb d_Store_held_9 (by decide) (fun c1 => ?_) (fun c1 => ?_)
      · have h := if_t c1 h
        refine lv_iload_n hx hb d_Store_held_35 rfl (lv_at hl 1 rfl) ?_
        exact me_reti (me_kp M0) h hx hb hr hlocks hwf hkp hP hK hD hS d_Store_held_36
      have h := if_f c1 h
      refine lv_iload_n hx hb d_Store_held_12 rfl (lv_at hl 1 rfl) ?_
      refine lv_aload_n hx hb d_Store_held_13 rfl (lv_at hl 0 rfl) ?_
      refine g_Store_6 hx hb hts hown hK hP hwf hj0 (hts _ u_917) d_Store_held_14 ?_
      obtain ⟨j2, e3, h⟩ := bd_ob h
      have hj2 : j2 < N 15 := (hwf.2.1 12 j0 6 _ e3 (by decide) hj0)
      refine me_opt (j := j2) e3 ?_
      refine lv_iload_n hx hb d_Store_held_17 rfl (lv_at hl 2 rfl) ?_
      obtain ⟨g4, h⟩ := gd_ob h
      refine me_zald hx hb hK hP hwf hj2 g4 d_Store_held_18 ?_
      have z5 := hwf.2.2.2 15 j2 y2.toNatClampNeg rfl
      refine lv_if_eq (tgt := 26) hx hb d_Store_held_19 (by decide) (fun c6 => ?_) (fun c6 => ?_)
      · have h := if_t c6 h
        refine lv_iconst (v := 0) hx hb d_Store_held_26 (by decide) ?_
        refine lv_iadd hx hb d_Store_held_27 ?_
        obtain ⟨v7, ev7, h⟩ := st_ob h
        refine fg_topi (y := v7) ev7.symm ?_
        refine lv_istore_n (lv' := [(1, .int v7), (0, .ref (ad 12 j0)), (2, .int y2)]) hx hb d_Store_held_28 rfl hl (by decide) rfl (fun ls hl => ?_)
        refine lv_iinc (v := y2 + 1) (lv' := [(2, .int (y2 + 1)), (1, .int v7), (0, .ref (ad 12 j0))]) hx hb d_Store_held_29 hl (k := 2) rfl (by rfl) (by decide) rfl (fun ls hl => ?_)
        refine lv_goto (tgt := 4) hx hb d_Store_held_32 (by decide) ?_
        exact ih M v7 (y2 + 1) _ _ _ h hwf hkp hP hD hS (lv_sub hl [2, 1, 0] rfl)
      have h := if_f c6 h
      refine lv_iconst (v := 1) hx hb d_Store_held_22 (by decide) ?_
      refine lv_goto (tgt := 27) hx hb d_Store_held_23 (by decide) ?_
      refine lv_iadd hx hb d_Store_held_27 ?_
      obtain ⟨v8, ev8, h⟩ := st_ob h
      refine fg_topi (y := v8) ev8.symm ?_
      refine lv_istore_n (lv' := [(1, .int v8), (0, .ref (ad 12 j0)), (2, .int y2)]) hx hb d_Store_held_28 rfl hl (by decide) rfl (fun ls hl => ?_)
      refine lv_iinc (v := y2 + 1) (lv' := [(2, .int (y2 + 1)), (1, .int v8), (0, .ref (ad 12 j0))]) hx hb d_Store_held_29 hl (k := 2) rfl (by rfl) (by decide) rfl (fun ls hl => ?_)
      refine lv_goto (tgt := 4) hx hb d_Store_held_32 (by decide) ?_
      exact ih M v8 (y2 + 1) _ _ _ h hwf hkp hP hD hS (lv_sub hl [2, 1, 0] rfl)
  refine lv_iconst (v := 0) hx hb d_Store_held_0 (by decide) ?_
  refine lv_istore_n (lv' := [(1, .int 0), (0, .ref (ad 12 j0))]) hx hb d_Store_held_1 rfl hl (by decide) rfl (fun ls hl => ?_)
  refine lv_iconst (v := 0) hx hb d_Store_held_2 (by decide) ?_
  refine lv_istore_n (lv' := [(2, .int 0), (1, .int 0), (0, .ref (ad 12 j0))]) hx hb d_Store_held_3 rfl hl (by decide) rfl (fun ls hl => ?_)
  exact b_4 _ M0 (0 : Int32) (0 : Int32) _ _ _ h hwf hkp hP hD hS (lv_sub hl [2, 1, 0] rfl)
