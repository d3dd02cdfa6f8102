theorem d_Explorer_part_119 : decode prog_5_method_9_code 119 = .ok (.invokevirtual 181, 3) := by decide +kernel
theorem d_Explorer_part_122 : decode prog_5_method_9_code 122 = .ok (.aload_n 0, 1) := by decide +kernel
theorem d_Explorer_part_123 : decode prog_5_method_9_code 123 = .ok (.getfield 45, 3) := by decide +kernel
theorem d_Explorer_part_126 : decode prog_5_method_9_code 126 = .ok (.aload_n 0, 1) := by decide +kernel
theorem d_Explorer_part_127 : decode prog_5_method_9_code 127 = .ok (.getfield 40, 3) := by decide +kernel
theorem d_Explorer_part_130 : decode prog_5_method_9_code 130 = .ok (.getfield 172, 3) := by decide +kernel
theorem u_465 : Cond.fieldLink "FilterGuard$Explorer" 172 "FilterGuard$Steps" "canFall" "Z" ∈ fg_g := fg_in (List.mem_of_getElem? (i := 465) (by decide +kernel)) rfl
theorem g_Steps_9 {p : Program} {l : Launch} {e : Env} {R : Room} {s : Jvm.State} {m : MethodId} {args : Array Value} {below : List Frame} {meth : Method} {c : Code} {H : Heap} {locs : List Loc} {cells slots : Nat} {Q : Jvm.State → Prop} {cc : ByteArray} {pc : Nat} {ls : Array Slot} {rest : List Value} {D : va_G} {ad : Nat → Nat → Nat} {ca : Nat → ClassId} {M : me_M} {N : Nat → Nat} {own : String} {index j : Nat} (hexec : p.tables.exec = Jvm.exec) (hb : c.code = cc) (hts : ∀ w ∈ fg_g, w.before args s = true) (hown : s.vm.findClass own = some m.cls) (hK : va_K D classes (me_T ca) s) (hP : va_P D classes (me_W ad ca M) H) (hwf : me_wf N M) (hj : j < N 7) (hlink : (Cond.fieldLink own index "FilterGuard$Steps" "canFall" "Z").before args s = true) (hdg : decode cc pc = .ok (.getfield index, 3)) (kk : W p l e R s m args below meth c H locs cells slots Q (F0 m (pc + 3) ls (.int (mI M 7 j 9) :: rest))) : W p l e R s m args below meth c H locs cells slots Q (F0 m pc ls (.ref (ad 7 j) :: rest)) := me_get (k := 7) (f := 9) (C := "FilterGuard$Steps") (T := F_Steps) (Nf := 19) hexec hb hts i_Steps hown hK hP hwf hj (by decide) rfl (by decide) (by decide) hlink (fun _ h9 => h9) hdg kk
theorem d_Explorer_part_133 : decode prog_5_method_9_code 133 = .ok (.ifCond .eq 9, 3) := by decide +kernel
theorem d_Explorer_part_142 : decode prog_5_method_9_code 142 = .ok (.aload_n 0, 1) := by decide +kernel
theorem d_Explorer_part_143 : decode prog_5_method_9_code 143 = .ok (.getfield 27, 3) := by decide +kernel
theorem g_Explorer_0 {p : Program} {l : Launch} {e : Env} {R : Room} {s : Jvm.State} {m : MethodId} {args : Array Value} {below : List Frame} {meth : Method} {c : Code} {H : Heap} {locs : List Loc} {cells slots : Nat} {Q : Jvm.State → Prop} {cc : ByteArray} {pc : Nat} {ls : Array Slot} {rest : List Value} {D : va_G} {ad : Nat → Nat → Nat} {ca : Nat → ClassId} {M : me_M} {N : Nat → Nat} {own : String} {index j : Nat} (hexec : p.tables.exec = Jvm.exec) (hb : c.code = cc) (hts : ∀ w ∈ fg_g, w.before args s = true) (hown : s.vm.findClass own = some m.cls) (hK : va_K D classes (me_T ca) s) (hP : va_P D classes (me_W ad ca M) H) (hwf : me_wf N M) (hj : j < N 4) (hlink : (Cond.fieldLink own index "FilterGuard$Explorer" "code" "LFilterGuard$Code;").before args s = true) (hdg : decode cc pc = .ok (.getfield index, 3)) (kk : W p l e R s m args below meth c H locs cells slots Q (F0 m (pc + 3) ls (va_rf ((mR M 4 j 0).map (ad 2)) :: rest))) : W p l e R s m args below meth c H locs cells slots Q (F0 m pc ls (.ref (ad 4 j) :: rest)) := me_get (k := 4) (f := 0) (C := "FilterGuard$Explorer") (T := F_Explorer) (Nf := 15) hexec hb hts i_Explorer hown hK hP hwf hj (by decide) rfl (by decide) (by decide) hlink (fun _ h9 => h9) hdg kk
theorem d_Explorer_part_146 : decode prog_5_method_9_code 146 = .ok (.iload_n 1, 1) := by decide +kernel
theorem d_Explorer_part_147 : decode prog_5_method_9_code 147 = .ok (.invokevirtual 156, 3) := by decide +kernel
theorem u_1422 : Cond.methodLink "FilterGuard$Explorer" 156 ⟨"FilterGuard$Code", "target", "(I)I"⟩ ∈ fg_g := fg_in (List.mem_of_getElem? (i := 1422) (by decide +kernel)) rfl
theorem d_Explorer_part_150 : decode prog_5_method_9_code 150 = .ok (.putfield 65, 3) := by decide +kernel
theorem d_Explorer_part_153 : decode prog_5_method_9_code 153 = .ok (.iconst 0, 1) := by decide +kernel
theorem d_Explorer_part_154 : decode prog_5_method_9_code 154 = .ok (.ireturn, 1) := by decide +kernel
theorem d_Explorer_part_136 : decode prog_5_method_9_code 136 = .ok (.iload_n 1, 1) := by decide +kernel
theorem d_Explorer_part_137 : decode prog_5_method_9_code 137 = .ok (.iconst 1, 1) := by decide +kernel
theorem d_Explorer_part_138 : decode prog_5_method_9_code 138 = .ok (.iadd, 1) := by decide +kernel
theorem d_Explorer_part_139 : decode prog_5_method_9_code 139 = .ok (.goto 11, 3) := by decide +kernel
theorem d_Explorer_part_89 : decode prog_5_method_9_code 89 = .ok (.aload_n 0, 1) := by decide +kernel
theorem d_Explorer_part_90 : decode prog_5_method_9_code 90 = .ok (.getfield 75, 3) := by decide +kernel
theorem d_Explorer_part_93 : decode prog_5_method_9_code 93 = .ok (.ifCond .ne 60, 3) := by decide +kernel
theorem d_Explorer_part_96 : decode prog_5_method_9_code 96 = .ok (.aload_n 0, 1) := by decide +kernel
theorem d_Explorer_part_97 : decode prog_5_method_9_code 97 = .ok (.getfield 40, 3) := by decide +kernel
theorem d_Explorer_part_100 : decode prog_5_method_9_code 100 = .ok (.aload_n 0, 1) := by decide +kernel
theorem d_Explorer_part_101 : decode prog_5_method_9_code 101 = .ok (.getfield 45, 3) := by decide +kernel
theorem d_Explorer_part_104 : decode prog_5_method_9_code 104 = .ok (.aload_n 0, 1) := by decide +kernel
theorem d_Explorer_part_105 : decode prog_5_method_9_code 105 = .ok (.getfield 40, 3) := by decide +kernel
theorem d_Explorer_part_108 : decode prog_5_method_9_code 108 = .ok (.getfield 172, 3) := by decide +kernel
theorem d_Explorer_part_111 : decode prog_5_method_9_code 111 = .ok (.ifCond .ne 7, 3) := by decide +kernel
theorem d_Explorer_part_118 : decode prog_5_method_9_code 118 = .ok (.iconst 0, 1) := by decide +kernel
theorem d_Explorer_part_114 : decode prog_5_method_9_code 114 = .ok (.iconst 1, 1) := by decide +kernel
theorem d_Explorer_part_115 : decode prog_5_method_9_code 115 = .ok (.goto 4, 3) := by decide +kernel
theorem d_Explorer_part_48 : decode prog_5_method_9_code 48 = .ok (.putfield 75, 3) := by decide +kernel
theorem d_Explorer_part_51 : decode prog_5_method_9_code 51 = .ok (.aload_n 0, 1) := by decide +kernel
theorem d_Explorer_part_52 : decode prog_5_method_9_code 52 = .ok (.getfield 40, 3) := by decide +kernel
theorem d_Explorer_part_55 : decode prog_5_method_9_code 55 = .ok (.getfield 169, 3) := by decide +kernel
theorem u_463 : Cond.fieldLink "FilterGuard$Explorer" 169 "FilterGuard$Steps" "canGo" "Z" ∈ fg_g := fg_in (List.mem_of_getElem? (i := 463) (by decide +kernel)) rfl
theorem g_Steps_8 {p : Program} {l : Launch} {e : Env} {R : Room} {s : Jvm.State} {m : MethodId} {args : Array Value} {below : List Frame} {meth : Method} {c : Code} {H : Heap} {locs : List Loc} {cells slots : Nat} {Q : Jvm.State → Prop} {cc : ByteArray} {pc : Nat} {ls : Array Slot} {rest : List Value} {D : va_G} {ad : Nat → Nat → Nat} {ca : Nat → ClassId} {M : me_M} {N : Nat → Nat} {own : String} {index j : Nat} (hexec : p.tables.exec = Jvm.exec) (hb : c.code = cc) (hts : ∀ w ∈ fg_g, w.before args s = true) (hown : s.vm.findClass own = some m.cls) (hK : va_K D classes (me_T ca) s) (hP : va_P D classes (me_W ad ca M) H) (hwf : me_wf N M) (hj : j < N 7) (hlink : (Cond.fieldLink own index "FilterGuard$Steps" "canGo" "Z").before args s = true) (hdg : decode cc pc = .ok (.getfield index, 3)) (kk : W p l e R s m args below meth c H locs cells slots Q (F0 m (pc + 3) ls (.int (mI M 7 j 8) :: rest))) : W p l e R s m args below meth c H locs cells slots Q (F0 m pc ls (.ref (ad 7 j) :: rest)) := me_get (k := 7) (f := 8) (C := "FilterGuard$Steps") (T := F_Steps) (Nf := 19) hexec hb hts i_Steps hown hK hP hwf hj (by decide) rfl (by decide) (by decide) hlink (fun _ h9 => h9) hdg kk
theorem d_Explorer_part_58 : decode prog_5_method_9_code 58 = .ok (.ifCond .eq 31, 3) := by decide +kernel
theorem d_Explorer_part_61 : decode prog_5_method_9_code 61 = .ok (.aload_n 0, 1) := by decide +kernel
theorem d_Explorer_part_62 : decode prog_5_method_9_code 62 = .ok (.getfield 40, 3) := by decide +kernel
theorem d_Explorer_part_65 : decode prog_5_method_9_code 65 = .ok (.getfield 172, 3) := by decide +kernel
theorem d_Explorer_part_68 : decode prog_5_method_9_code 68 = .ok (.ifCond .eq 21, 3) := by decide +kernel
theorem d_Explorer_part_71 : decode prog_5_method_9_code 71 = .ok (.aload_n 0, 1) := by decide +kernel
theorem d_Explorer_part_72 : decode prog_5_method_9_code 72 = .ok (.aload_n 0, 1) := by decide +kernel
theorem d_Explorer_part_73 : decode prog_5_method_9_code 73 = .ok (.getfield 27, 3) := by decide +kernel
theorem d_Explorer_part_76 : decode prog_5_method_9_code 76 = .ok (.iload_n 1, 1) := by decide +kernel
theorem d_Explorer_part_77 : decode prog_5_method_9_code 77 = .ok (.invokevirtual 156, 3) := by decide +kernel
theorem d_Explorer_part_80 : decode prog_5_method_9_code 80 = .ok (.invokevirtual 178, 3) := by decide +kernel
theorem u_1423 : Cond.methodLink "FilterGuard$Explorer" 178 ⟨"FilterGuard$Explorer", "holdBack", "(I)Z"⟩ ∈ fg_g := fg_in (List.mem_of_getElem? (i := 1423) (by decide +kernel)) rfl
theorem u_1426 : Cond.code ⟨"FilterGuard$Explorer", "holdBack", "(I)Z"⟩ prog_5_method_10_code 3 (some .boolean) ∈ fg_g := fg_in (List.mem_of_getElem? (i := 1426) (by decide +kernel)) rfl
theorem u_1425 : Cond.instanceMethod ⟨"FilterGuard$Explorer", "holdBack", "(I)Z"⟩ ∈ fg_g := fg_in (List.mem_of_getElem? (i := 1425) (by decide +kernel)) rfl
theorem u_55 : Cond.selects "FilterGuard$Explorer" ⟨"FilterGuard$Explorer", "holdBack", "(I)Z"⟩ ⟨"FilterGuard$Explorer", "holdBack", "(I)Z"⟩ ∈ fg_g := fg_in (List.mem_of_getElem? (i := 55) (by decide +kernel)) rfl
theorem d_Explorer_part_83 : decode prog_5_method_9_code 83 = .ok (.ifCond .ne 6, 3) := by decide +kernel
theorem d_Explorer_part_86 : decode prog_5_method_9_code 86 = .ok (.bipush 21, 2) := by decide +kernel
theorem d_Explorer_part_88 : decode prog_5_method_9_code 88 = .ok (.ireturn, 1) := by decide +kernel
theorem d_Explorer_part_47 : decode prog_5_method_9_code 47 = .ok (.iconst 0, 1) := by decide +kernel
theorem d_Explorer_part_0 : decode prog_5_method_9_code 0 = .ok (.aload_n 0, 1) := by decide +kernel
theorem d_Explorer_part_1 : decode prog_5_method_9_code 1 = .ok (.getfield 31, 3) := by decide +kernel
theorem g_Explorer_1 {p : Program} {l : Launch} {e : Env} {R : Room} {s : Jvm.State} {m : MethodId} {args : Array Value} {below : List Frame} {meth : Method} {c : Code} {H : Heap} {locs : List Loc} {cells slots : Nat} {Q : Jvm.State → Prop} {cc : ByteArray} {pc : Nat} {ls : Array Slot} {rest : List Value} {D : va_G} {ad : Nat → Nat → Nat} {ca : Nat → ClassId} {M : me_M} {N : Nat → Nat} {own : String} {index j : Nat} (hexec : p.tables.exec = Jvm.exec) (hb : c.code = cc) (hts : ∀ w ∈ fg_g, w.before args s = true) (hown : s.vm.findClass own = some m.cls) (hK : va_K D classes (me_T ca) s) (hP : va_P D classes (me_W ad ca M) H) (hwf : me_wf N M) (hj : j < N 4) (hlink : (Cond.fieldLink own index "FilterGuard$Explorer" "facts" "LFilterGuard$Facts;").before args s = true) (hdg : decode cc pc = .ok (.getfield index, 3)) (kk : W p l e R s m args below meth c H locs cells slots Q (F0 m (pc + 3) ls (va_rf ((mR M 4 j 1).map (ad 3)) :: rest))) : W p l e R s m args below meth c H locs cells slots Q (F0 m pc ls (.ref (ad 4 j) :: rest)) := me_get (k := 4) (f := 1) (C := "FilterGuard$Explorer") (T := F_Explorer) (Nf := 15) hexec hb hts i_Explorer hown hK hP hwf hj (by decide) rfl (by decide) (by decide) hlink (fun _ h9 => h9) hdg kk
theorem d_Explorer_part_4 : decode prog_5_method_9_code 4 = .ok (.iload_n 1, 1) := by decide +kernel
theorem d_Explorer_part_5 : decode prog_5_method_9_code 5 = .ok (.aload_n 0, 1) := by decide +kernel
theorem d_Explorer_part_6 : decode prog_5_method_9_code 6 = .ok (.getfield 40, 3) := by decide +kernel
theorem d_Explorer_part_9 : decode prog_5_method_9_code 9 = .ok (.getfield 169, 3) := by decide +kernel
theorem d_Explorer_part_12 : decode prog_5_method_9_code 12 = .ok (.aload_n 0, 1) := by decide +kernel
theorem d_Explorer_part_13 : decode prog_5_method_9_code 13 = .ok (.getfield 40, 3) := by decide +kernel
theorem d_Explorer_part_16 : decode prog_5_method_9_code 16 = .ok (.getfield 172, 3) := by decide +kernel
theorem d_Explorer_part_19 : decode prog_5_method_9_code 19 = .ok (.invokevirtual 175, 3) := by decide +kernel
theorem u_1418 : Cond.methodLink "FilterGuard$Explorer" 175 ⟨"FilterGuard$Facts", "part", "(IZZ)V"⟩ ∈ fg_g := fg_in (List.mem_of_getElem? (i := 1418) (by decide +kernel)) rfl
theorem u_1421 : Cond.code ⟨"FilterGuard$Facts", "part", "(IZZ)V"⟩ prog_6_method_4_code 4 none ∈ fg_g := fg_in (List.mem_of_getElem? (i := 1421) (by decide +kernel)) rfl
theorem u_1419 : Cond.instanceMethod ⟨"FilterGuard$Facts", "part", "(IZZ)V"⟩ ∈ fg_g := fg_in (List.mem_of_getElem? (i := 1419) (by decide +kernel)) rfl
theorem u_1420 : Cond.selects "FilterGuard$Facts" ⟨"FilterGuard$Facts", "part", "(IZZ)V"⟩ ⟨"FilterGuard$Facts", "part", "(IZZ)V"⟩ ∈ fg_g := fg_in (List.mem_of_getElem? (i := 1420) (by decide +kernel)) rfl
theorem d_Explorer_part_22 : decode prog_5_method_9_code 22 = .ok (.aload_n 0, 1) := by decide +kernel
theorem d_Explorer_part_23 : decode prog_5_method_9_code 23 = .ok (.aload_n 0, 1) := by decide +kernel
theorem d_Explorer_part_24 : decode prog_5_method_9_code 24 = .ok (.getfield 40, 3) := by decide +kernel
theorem d_Explorer_part_27 : decode prog_5_method_9_code 27 = .ok (.getfield 169, 3) := by decide +kernel
theorem d_Explorer_part_30 : decode prog_5_method_9_code 30 = .ok (.ifCond .ne 17, 3) := by decide +kernel
theorem d_Explorer_part_33 : decode prog_5_method_9_code 33 = .ok (.aload_n 0, 1) := by decide +kernel
theorem d_Explorer_part_34 : decode prog_5_method_9_code 34 = .ok (.getfield 40, 3) := by decide +kernel
theorem d_Explorer_part_37 : decode prog_5_method_9_code 37 = .ok (.getfield 172, 3) := by decide +kernel
theorem d_Explorer_part_40 : decode prog_5_method_9_code 40 = .ok (.ifCond .ne 7, 3) := by decide +kernel
theorem d_Explorer_part_43 : decode prog_5_method_9_code 43 = .ok (.iconst 1, 1) := by decide +kernel
theorem d_Explorer_part_44 : decode prog_5_method_9_code 44 = .ok (.goto 4, 3) := by decide +kernel
abbrev y_Explorer_part : MethodName := ⟨"FilterGuard$Explorer", "part", "(I)I"⟩
def rm_Explorer_part (N0 : Nat → Nat) : Room := { frames := 5, cells := me_CL - me_cN N0, slots := me_SL - me_sN N0, locals := 113 }
abbrev q_Explorer_part (D : va_G) (ad0 : Nat → Nat → Nat) (ca : Nat → ClassId) (N0 : Nat → Nat) (MZ : me_M) (RZ : Int32) (A : Nat → Prop) : Array Value → Jvm.State → Outcome → Jvm.State → Prop := va_Qi (fun r (u : Nat → Nat → Nat) => r = RZ ∧ al_P ad0 N0 MZ u ∧ True) (fg_B D A (fun u => me_W u ca MZ) (fun _ => [])) A
set_option maxHeartbeats 4000000 in
set_option maxRecDepth 100000 in
theorem c_Explorer_part (l : Launch) (D : va_G) (ad0 : Nat → Nat → Nat) (ca : Nat → ClassId) (N0 : Nat → Nat) (M0 MZ : me_M) (RZ : Int32) (j0 : Nat) (x1 : Int32) (h : f_Explorer_part M0 j0 x1 = (some (MZ, RZ))) (hwf : me_wf N0 M0) (hcl : me_cN N0 ≤ me_CL ∧ me_sN N0 ≤ me_SL) (hj0 : j0 < N0 4) (sz : Nat) : Met l y_Explorer_part (fg_w y_Explorer_part prog_5_method_9_code 2 (some .int)) (rm_Explorer_part N0) (va_Pc [.ref (ad0 4 j0), .int x1] (fz_P D (me_T ca) (me_W ad0 ca M0) sz)) (q_Explorer_part D ad0 ca N0 MZ RZ (va_A (me_W ad0 ca M0) sz)) (me_cN (mN MZ) - me_cN N0) (me_sN (mN MZ) - me_sN N0) (va_A (me_W ad0 ca M0) sz) := by
  refine fz_enter (fun A => q_Explorer_part D ad0 ca N0 MZ RZ A) (by decide +kernel) (Nat.le_of_ble_eq_true rfl) ?_
  intro p e s m below meth c ls A hx hb hml hown hts hr hlocks hin hP hK hD hS hA hX hl hz
  refine W.widen (k := me_cN N0 - me_cN N0) (n := me_sN N0 - me_sN N0) (Nat.zero_le _) (Nat.zero_le _) ?_
  unfold f_Explorer_part at h
  have hok : me_ok N0 N0 := me_ok.rf hcl
  have b_119 : ∀ (ad : Nat → Nat → Nat) (N : Nat → Nat) (M : me_M) (s0 : Int32) (s1 : Nat) (s2 : Nat) (H : Heap) (locs : List Loc) (ls : Array Slot), f_Explorer_part_b119 j0 x1 M s0 s1 s2 = (some (MZ, RZ)) → (s0 = 1 ∨ s0 = 0) → (s1 < N 9) → (s2 < N 7) → me_wf N M → me_ok N0 N → (∀ a b, b < N0 a → ad a b = ad0 a b) → va_P D classes (me_W ad ca M) H → va_D A (me_W ad ca M) → va_S A s.heap H locs → lv_has ls 2 [(0, .ref (ad 4 j0)), (1, .int x1)] → W p l e (rm_Explorer_part N0) s m [.ref (ad0 4 j0), .int x1].toArray below meth c H locs (me_cN N - me_cN N0) (me_sN N - me_sN N0) (MQ below (q_Explorer_part D ad0 ca N0 MZ RZ A) [.ref (ad0 4 j0), .int x1].toArray s (me_cN (mN MZ) - me_cN N0) (me_sN (mN MZ) - me_sN N0) A) (F0 m 119 ls [.int s0, .ref (ad 9 s1), .ref (ad 7 s2)]) := by
    intro ad N M s0 s1 s2 H locs ls h zs0 hs1 hs2 hwf hok hext0 hP hD hS hl
    unfold f_Explorer_part_b119 at h
    have hj0 : j0 < N 4 := Nat.lt_of_lt_of_le hj0 (hok.2.2.2.2 4)
    obtain ⟨M1, eM1, h⟩ := bd_ob h
    refine me_thenv0 (M1 := M1) (me_runV (C := "FilterGuard$Steps") (As := [.ref (ad 9 s1), .int s0]) (rest := []) ⟨hx, hb, hml, hown, hts⟩ (c_Steps_tellWay l D ad ca N M M1 s2 s1 s0 eM1 hwf hs2 hs1 zs0 _) rfl (by show fg_nm y_Steps_tellWay 2; decide +kernel) u_1427 u_1428 u_1429 u_185 u_1430 ⟨Nat.le_of_ble_eq_true rfl, Nat.le_of_ble_eq_true rfl⟩ hX hz hK hP hD hwf hS hA hs2 (by decide) rfl rfl rfl hl.1 (Nat.le_of_ble_eq_true rfl) d_Explorer_part_119 (al_f hok)) hP hD hK hS hA rfl rfl (fun H locs hw hP hD hS => ?_)
    obtain ⟨hwf, hk9⟩ := hw
    refine lv_aload_n hx hb d_Explorer_part_122 rfl (lv_at hl 0 rfl) ?_
    refine g_Explorer_8 hx hb hts hown hK hP hwf hj0 (hts _ u_554) d_Explorer_part_123 ?_
    obtain ⟨j2, e3, h⟩ := bd_ob h
    have hj2 : j2 < N 9 := (hwf.2.1 4 j0 8 _ e3 (by decide) hj0)
    refine me_opt (j := j2) e3 ?_
    refine lv_aload_n hx hb d_Explorer_part_126 rfl (lv_at hl 0 rfl) ?_
    refine g_Explorer_2 hx hb hts hown hK hP hwf hj0 (hts _ u_548) d_Explorer_part_127 ?_
    obtain ⟨j4, e5, h⟩ := bd_ob h
    have hj4 : j4 < N 7 := (hwf.2.1 4 j0 2 _ e5 (by decide) hj0)
    refine me_opt (j := j4) e5 ?_
    refine g_Steps_9 hx hb hts hown hK hP hwf hj4 (hts _ u_465) d_Explorer_part_130 ?_
    have z6 := (hwf.2.2.2 7 j4 9 rfl)
    refine lv_if_eq (tgt := 142) hx hb d_Explorer_part_133 (by decide) (fun c7 => ?_) (fun c7 => ?_)
    · have h := if_t c7 h
      refine lv_aload_n hx hb d_Explorer_part_142 rfl (lv_at hl 0 rfl) ?_
      refine g_Explorer_0 hx hb hts hown hK hP hwf hj0 (hts _ u_546) d_Explorer_part_143 ?_
      obtain ⟨j8, e9, h⟩ := bd_ob h
      have hj8 : j8 < N 2 := (hwf.2.1 4 j0 0 _ e9 (by decide) hj0)
      refine me_opt (j := j8) e9 ?_
      refine lv_iload_n hx hb d_Explorer_part_146 rfl (lv_at hl 1 rfl) ?_
      obtain ⟨M10, r11, eM10, h⟩ := b2_ob h
      refine me_theni0 (M1 := M10) (me_runV (C := "FilterGuard$Code") (As := [.int x1]) (rest := [.ref (ad 9 j2)]) ⟨hx, hb, hml, hown, hts⟩ (c_Code_target l D ad ca N M1 M10 r11 j8 x1 eM10 hwf hj8 _) rfl (by show fg_nm y_Code_target 1; decide +kernel) u_1422 u_1005 u_1006 u_182 u_1007 ⟨Nat.le_of_ble_eq_true rfl, Nat.le_of_ble_eq_true rfl⟩ hX hz hK hP hD hwf hS hA hj8 (by decide) rfl rfl rfl hl.1 (Nat.le_of_ble_eq_true rfl) d_Explorer_part_147 (al_f hok)) hP hD hK hS hA rfl rfl (fun H locs hw hP hD hS => ?_)
      obtain ⟨hwf, hk9⟩ := hw
      obtain ⟨M12, eM12, h⟩ := st_ob h
      refine p_State_2 eM12 hx hb hts hown hK hP hD hwf hS hj2 (hts _ u_531) d_Explorer_part_150 (fun H locs hP hD hwf hS => ?_)
      refine lv_iconst (v := 0) hx hb d_Explorer_part_153 (by decide) ?_
      exact al_reti h hx hb hr hlocks hwf hok hext0 hP hK hD hS d_Explorer_part_154
    have h := if_f c7 h
    refine lv_iload_n hx hb d_Explorer_part_136 rfl (lv_at hl 1 rfl) ?_
    refine lv_iconst (v := 1) hx hb d_Explorer_part_137 (by decide) ?_
    refine lv_iadd hx hb d_Explorer_part_138 ?_
    refine lv_goto (tgt := 150) hx hb d_Explorer_part_139 (by decide) ?_
    obtain ⟨M13, eM13, h⟩ := st_ob h
    refine p_State_2 eM13 hx hb hts hown hK hP hD hwf hS hj2 (hts _ u_531) d_Explorer_part_150 (fun H locs hP hD hwf hS => ?_)
    refine lv_iconst (v := 0) hx hb d_Explorer_part_153 (by decide) ?_
    exact al_reti h hx hb hr hlocks hwf hok hext0 hP hK hD hS d_Explorer_part_154
  have b_89 : ∀ (ad : Nat → Nat → Nat) (N : Nat → Nat) (M : me_M) (H : Heap) (locs : List Loc) (ls : Array Slot), f_Explorer_part_b89 j0 x1 M = (some (MZ, RZ)) → me_wf N M → me_ok N0 N → (∀ a b, b < N0 a → ad a b = ad0 a b) → va_P D classes (me_W ad ca M) H → va_D A (me_W ad ca M) → va_S A s.heap H locs → lv_has ls 2 [(0, .ref (ad 4 j0)), (1, .int x1)] → W p l e (rm_Explorer_part N0) s m [.ref (ad0 4 j0), .int x1].toArray below meth c H locs (me_cN N - me_cN N0) (me_sN N - me_sN N0) (MQ below (q_Explorer_part D ad0 ca N0 MZ RZ A) [.ref (ad0 4 j0), .int x1].toArray s (me_cN (mN MZ) - me_cN N0) (me_sN (mN MZ) - me_sN N0) A) (F0 m 89 ls []) := by
    intro ad N M H locs ls h hwf hok hext0 hP hD hS hl
    unfold f_Explorer_part_b89 at h
    have hj0 : j0 < N 4 := Nat.lt_of_lt_of_le hj0 (hok.2.2.2.2 4)
    refine lv_aload_n hx hb d_Explorer_part_89 rfl (lv_at hl 0 rfl) ?_
    refine g_Explorer_10 hx hb hts hown hK hP hwf hj0 (hts _ u_556) d_Explorer_part_90 ?_
    have z14 := (hwf.2.2.2 4 j0 10 rfl)
    refine lv_if_ne (tgt := 153) hx hb d_Explorer_part_93 (by decide) (fun c15 => ?_) (fun c15 => ?_)
    · have h := if_f c15 h
      refine lv_iconst (v := 0) hx hb d_Explorer_part_153 (by decide) ?_
      exact al_reti h hx hb hr hlocks hwf hok hext0 hP hK hD hS d_Explorer_part_154
    have h := if_t c15 h
    refine lv_aload_n hx hb d_Explorer_part_96 rfl (lv_at hl 0 rfl) ?_
    refine g_Explorer_2 hx hb hts hown hK hP hwf hj0 (hts _ u_548) d_Explorer_part_97 ?_
    obtain ⟨j16, e17, h⟩ := bd_ob h
    have hj16 : j16 < N 7 := (hwf.2.1 4 j0 2 _ e17 (by decide) hj0)
    refine me_opt (j := j16) e17 ?_
    refine lv_aload_n hx hb d_Explorer_part_100 rfl (lv_at hl 0 rfl) ?_
    refine g_Explorer_8 hx hb hts hown hK hP hwf hj0 (hts _ u_554) d_Explorer_part_101 ?_
    obtain ⟨j18, e19, h⟩ := bd_ob h
    have hj18 : j18 < N 9 := (hwf.2.1 4 j0 8 _ e19 (by decide) hj0)
    refine me_opt (j := j18) e19 ?_
    refine lv_aload_n hx hb d_Explorer_part_104 rfl (lv_at hl 0 rfl) ?_
    refine g_Explorer_2 hx hb hts hown hK hP hwf hj0 (hts _ u_548) d_Explorer_part_105 ?_
    refine me_opt (j := j16) e17 ?_
    refine g_Steps_9 hx hb hts hown hK hP hwf hj16 (hts _ u_465) d_Explorer_part_108 ?_
    have z20 := (hwf.2.2.2 7 j16 9 rfl)
    refine lv_if_ne (tgt := 118) hx hb d_Explorer_part_111 (by decide) (fun c21 => ?_) (fun c21 => ?_)
    · have h := if_f c21 h
      refine lv_iconst (v := 0) hx hb d_Explorer_part_118 (by decide) ?_
      exact b_119 ad N M (0 : Int32) j18 j16 _ _ _ h (by decide) hj18 hj16 hwf hok hext0 hP hD hS (lv_sub hl [0, 1] rfl)
    have h := if_t c21 h
    refine lv_iconst (v := 1) hx hb d_Explorer_part_114 (by decide) ?_
    refine lv_goto (tgt := 119) hx hb d_Explorer_part_115 (by decide) ?_
    exact b_119 ad N M (1 : Int32) j18 j16 _ _ _ h (by decide) hj18 hj16 hwf hok hext0 hP hD hS (lv_sub hl [0, 1] rfl)
  have b_48 : ∀ (ad : Nat → Nat → Nat) (N : Nat → Nat) (M : me_M) (s0 : Int32) (s1 : Nat) (H : Heap) (locs : List Loc) (ls : Array Slot), f_Explorer_part_b48 j0 x1 M s0 s1 = (some (MZ, RZ)) → (s0 = 1 ∨ s0 = 0) → (s1 < N 4) → me_wf N M → me_ok N0 N → (∀ a b, b < N0 a → ad a b = ad0 a b) → va_P D classes (me_W ad ca M) H → va_D A (me_W ad ca M) → va_S A s.heap H locs → lv_has ls 2 [(0, .ref (ad 4 j0)), (1, .int x1)] → W p l e (rm_Explorer_part N0) s m [.ref (ad0 4 j0), .int x1].toArray below meth c H locs (me_cN N - me_cN N0) (me_sN N - me_sN N0) (MQ below (q_Explorer_part D ad0 ca N0 MZ RZ A) [.ref (ad0 4 j0), .int x1].toArray s (me_cN (mN MZ) - me_cN N0) (me_sN (mN MZ) - me_sN N0) A) (F0 m 48 ls [.int s0, .ref (ad 4 s1)]) := by
    intro ad N M s0 s1 H locs ls h zs0 hs1 hwf hok hext0 hP hD hS hl
    unfold f_Explorer_part_b48 at h
    have hj0 : j0 < N 4 := Nat.lt_of_lt_of_le hj0 (hok.2.2.2.2 4)
    obtain ⟨M22, eM22, h⟩ := st_ob h
    refine p_Explorer_10 eM22 hx hb hts hown hK hP hD hwf hS hs1 zs0 (hts _ u_556) d_Explorer_part_48 (fun H locs hP hD hwf hS => ?_)
    refine lv_aload_n hx hb d_Explorer_part_51 rfl (lv_at hl 0 rfl) ?_
    refine g_Explorer_2 hx hb hts hown hK hP hwf hj0 (hts _ u_548) d_Explorer_part_52 ?_
    obtain ⟨j23, e24, h⟩ := bd_ob h
    have hj23 : j23 < N 7 := (hwf.2.1 4 j0 2 _ e24 (by decide) hj0)
    refine me_opt (j := j23) e24 ?_
    refine g_Steps_8 hx hb hts hown hK hP hwf hj23 (hts _ u_463) d_Explorer_part_55 ?_
    have z25 := (hwf.2.2.2 7 j23 8 rfl)
    refine lv_if_eq (tgt := 89) hx hb d_Explorer_part_58 (by decide) (fun c26 => ?_) (fun c26 => ?_)
    · have h := if_t c26 h
      exact b_89 ad N M22 _ _ _ h hwf hok hext0 hP hD hS (lv_sub hl [0, 1] rfl)
    have h := if_f c26 h
    refine lv_aload_n hx hb d_Explorer_part_61 rfl (lv_at hl 0 rfl) ?_
    refine g_Explorer_2 hx hb hts hown hK hP hwf hj0 (hts _ u_548) d_Explorer_part_62 ?_
    refine me_opt (j := j23) e24 ?_
    refine g_Steps_9 hx hb hts hown hK hP hwf hj23 (hts _ u_465) d_Explorer_part_65 ?_
    have z27 := (hwf.2.2.2 7 j23 9 rfl)
    refine lv_if_eq (tgt := 89) hx hb d_Explorer_part_68 (by decide) (fun c28 => ?_) (fun c28 => ?_)
    · have h := if_t c28 h
      exact b_89 ad N M22 _ _ _ h hwf hok hext0 hP hD hS (lv_sub hl [0, 1] rfl)
    have h := if_f c28 h
    refine lv_aload_n hx hb d_Explorer_part_71 rfl (lv_at hl 0 rfl) ?_
    refine lv_aload_n hx hb d_Explorer_part_72 rfl (lv_at hl 0 rfl) ?_
    refine g_Explorer_0 hx hb hts hown hK hP hwf hj0 (hts _ u_546) d_Explorer_part_73 ?_
    obtain ⟨j29, e30, h⟩ := bd_ob h
    have hj29 : j29 < N 2 := (hwf.2.1 4 j0 0 _ e30 (by decide) hj0)
    refine me_opt (j := j29) e30 ?_
    refine lv_iload_n hx hb d_Explorer_part_76 rfl (lv_at hl 1 rfl) ?_
    obtain ⟨M31, r32, eM31, h⟩ := b2_ob h
    refine me_theni0 (M1 := M31) (me_runV (C := "FilterGuard$Code") (As := [.int x1]) (rest := [.ref (ad 4 j0)]) ⟨hx, hb, hml, hown, hts⟩ (c_Code_target l D ad ca N M22 M31 r32 j29 x1 eM31 hwf hj29 _) rfl (by show fg_nm y_Code_target 1; decide +kernel) u_1422 u_1005 u_1006 u_182 u_1007 ⟨Nat.le_of_ble_eq_true rfl, Nat.le_of_ble_eq_true rfl⟩ hX hz hK hP hD hwf hS hA hj29 (by decide) rfl rfl rfl hl.1 (Nat.le_of_ble_eq_true rfl) d_Explorer_part_77 (al_f hok)) hP hD hK hS hA rfl rfl (fun H locs hw hP hD hS => ?_)
    obtain ⟨hwf, hk9⟩ := hw
    obtain ⟨M33, r34, eM33, h⟩ := b2_ob h
    refine al_theni (M1 := M33) (al_runV (C := "FilterGuard$Explorer") (As := [.int r32]) (rest := []) ⟨hx, hb, hml, hown, hts⟩ (c_Explorer_holdBack l D ad ca N M31 M33 r34 j0 r32 eM33 hwf ⟨hok.2.2.1, hok.2.2.2.1⟩ hj0 _) rfl (by show fg_nm y_Explorer_holdBack 1; decide +kernel) u_1423 u_1425 u_55 u_184 u_1426 ⟨Nat.le_of_ble_eq_true rfl, Nat.le_of_ble_eq_true rfl⟩ hX hz hK hP hD hwf hS hA hj0 (by decide) rfl rfl rfl hl.1 (Nat.le_of_ble_eq_true rfl) d_Explorer_part_80 (al_g hok)) hP hD hok hK hS hA (fun ad N H locs hext hNN hwf hok1 heN zr34 hP hD hS => ?_)
    have hext0 := al_ext hext hext0 hok
    have hok := hok1
    have hl : lv_has ls 2 [(0, .ref (ad 4 j0)), (1, .int x1)] := by rw [hext 4 j0 hj0]; exact hl
    have hj0 : j0 < N 4 := Nat.lt_of_lt_of_le hj0 (hNN 4)
    refine lv_if_ne (tgt := 89) hx hb d_Explorer_part_83 (by decide) (fun c35 => ?_) (fun c35 => ?_)
    · have h := if_f c35 h
      exact b_89 ad N M33 _ _ _ h hwf hok hext0 hP hD hS (lv_sub hl [0, 1] rfl)
    have h := if_t c35 h
    refine lv_bipush (v := 21) hx hb d_Explorer_part_86 (by decide) ?_
    exact al_reti h hx hb hr hlocks hwf hok hext0 hP hK hD hS d_Explorer_part_88
  have b_47 : ∀ (ad : Nat → Nat → Nat) (N : Nat → Nat) (M : me_M) (s0 : Nat) (H : Heap) (locs : List Loc) (ls : Array Slot), f_Explorer_part_b47 j0 x1 M s0 = (some (MZ, RZ)) → (s0 < N 4) → me_wf N M → me_ok N0 N → (∀ a b, b < N0 a → ad a b = ad0 a b) → va_P D classes (me_W ad ca M) H → va_D A (me_W ad ca M) → va_S A s.heap H locs → lv_has ls 2 [(0, .ref (ad 4 j0)), (1, .int x1)] → W p l e (rm_Explorer_part N0) s m [.ref (ad0 4 j0), .int x1].toArray below meth c H locs (me_cN N - me_cN N0) (me_sN N - me_sN N0) (MQ below (q_Explorer_part D ad0 ca N0 MZ RZ A) [.ref (ad0 4 j0), .int x1].toArray s (me_cN (mN MZ) - me_cN N0) (me_sN (mN MZ) - me_sN N0) A) (F0 m 47 ls [.ref (ad 4 s0)]) := by
    intro ad N M s0 H locs ls h hs0 hwf hok hext0 hP hD hS hl
    unfold f_Explorer_part_b47 at h
    have hj0 : j0 < N 4 := Nat.lt_of_lt_of_le hj0 (hok.2.2.2.2 4)
    refine lv_iconst (v := 0) hx hb d_Explorer_part_47 (by decide) ?_
    exact b_48 ad N M (0 : Int32) s0 _ _ _ h (by decide) hs0 hwf hok hext0 hP hD hS (lv_sub hl [0, 1] rfl)
  obtain ⟨ad, N, hext0, hok, hwf, hP, hD, hN9, had9, hj0⟩ : ∃ (ad : Nat → Nat → Nat) (N : Nat → Nat), (∀ a b, b < N0 a → ad a b = ad0 a b) ∧ me_ok N0 N ∧ me_wf N M0 ∧ va_P D classes (me_W ad ca M0) s.heap ∧ va_D A (me_W ad ca M0) ∧ N = N0 ∧ ad = ad0 ∧ j0 < N 4 := ⟨ad0, N0, fun _ _ _ => rfl, hok, hwf, hP, hD, rfl, rfl, hj0⟩
  have hl : lv_has ls 2 [(0, .ref (ad 4 j0)), (1, .int x1)] := by rw [had9]; exact hl
  have hcs : W p l e (rm_Explorer_part N0) s m [.ref (ad0 4 j0), .int x1].toArray below meth c s.heap [] (me_cN N - me_cN N0) (me_sN N - me_sN N0) (MQ below (q_Explorer_part D ad0 ca N0 MZ RZ A) [.ref (ad0 4 j0), .int x1].toArray s (me_cN (mN MZ) - me_cN N0) (me_sN (mN MZ) - me_sN N0) A) (F0 m 0 ls []) := by
    clear had9
    refine lv_aload_n hx hb d_Explorer_part_0 rfl (lv_at hl 0 rfl) ?_
    refine g_Explorer_1 hx hb hts hown hK hP hwf hj0 (hts _ u_547) d_Explorer_part_1 ?_
    obtain ⟨j36, e37, h⟩ := bd_ob h
    have hj36 : j36 < N 3 := (hwf.2.1 4 j0 1 _ e37 (by decide) hj0)
    refine me_opt (j := j36) e37 ?_
    refine lv_iload_n hx hb d_Explorer_part_4 rfl (lv_at hl 1 rfl) ?_
    refine lv_aload_n hx hb d_Explorer_part_5 rfl (lv_at hl 0 rfl) ?_
    refine g_Explorer_2 hx hb hts hown hK hP hwf hj0 (hts _ u_548) d_Explorer_part_6 ?_
    obtain ⟨j38, e39, h⟩ := bd_ob h
    have hj38 : j38 < N 7 := (hwf.2.1 4 j0 2 _ e39 (by decide) hj0)
    refine me_opt (j := j38) e39 ?_
    refine g_Steps_8 hx hb hts hown hK hP hwf hj38 (hts _ u_463) d_Explorer_part_9 ?_
    have z40 := (hwf.2.2.2 7 j38 8 rfl)
    refine lv_aload_n hx hb d_Explorer_part_12 rfl (lv_at hl 0 rfl) ?_
    refine g_Explorer_2 hx hb hts hown hK hP hwf hj0 (hts _ u_548) d_Explorer_part_13 ?_
    refine me_opt (j := j38) e39 ?_
    refine g_Steps_9 hx hb hts hown hK hP hwf hj38 (hts _ u_465) d_Explorer_part_16 ?_
    have z41 := (hwf.2.2.2 7 j38 9 rfl)
    obtain ⟨M42, eM42, h⟩ := bd_ob h
    refine me_thenv0 (M1 := M42) (me_runV (C := "FilterGuard$Facts") (As := [.int x1, .int (mI M0 7 j38 8), .int (mI M0 7 j38 9)]) (rest := []) ⟨hx, hb, hml, hown, hts⟩ (c_Facts_part l D ad ca N M0 M42 j36 x1 (mI M0 7 j38 8) (mI M0 7 j38 9) eM42 hwf hj36 z40 z41 _) rfl (by show fg_nm y_Facts_part 3; decide +kernel) u_1418 u_1419 u_1420 u_183 u_1421 ⟨Nat.le_of_ble_eq_true rfl, Nat.le_of_ble_eq_true rfl⟩ hX hz hK hP hD hwf hS hA hj36 (by decide) rfl rfl rfl hl.1 (Nat.le_of_ble_eq_true rfl) d_Explorer_part_19 (al_f hok)) hP hD hK hS hA rfl rfl (fun H locs hw hP hD hS => ?_)
    obtain ⟨hwf, hk9⟩ := hw
    refine lv_aload_n hx hb d_Explorer_part_22 rfl (lv_at hl 0 rfl) ?_
    refine lv_aload_n hx hb d_Explorer_part_23 rfl (lv_at hl 0 rfl) ?_
    refine g_Explorer_2 hx hb hts hown hK hP hwf hj0 (hts _ u_548) d_Explorer_part_24 ?_
    obtain ⟨j43, e44, h⟩ := bd_ob h
    have hj43 : j43 < N 7 := (hwf.2.1 4 j0 2 _ e44 (by decide) hj0)
    refine me_opt (j := j43) e44 ?_
    refine g_Steps_8 hx hb hts hown hK hP hwf hj43 (hts _ u_463) d_Explorer_part_27 ?_
    have z45 := (hwf.2.2.2 7 j43 8 rfl)
    refine lv_if_ne (tgt := 47) hx hb d_Explorer_part_30 (by decide) (fun c46 => ?_) (fun c46 => ?_)
    · have h := if_f c46 h
      exact b_47 ad N M42 j0 _ _ _ h hj0 hwf hok hext0 hP hD hS (lv_sub hl [0, 1] rfl)
    have h := if_t c46 h
    refine lv_aload_n hx hb d_Explorer_part_33 rfl (lv_at hl 0 rfl) ?_
    refine g_Explorer_2 hx hb hts hown hK hP hwf hj0 (hts _ u_548) d_Explorer_part_34 ?_
    refine me_opt (j := j43) e44 ?_
    refine g_Steps_9 hx hb hts hown hK hP hwf hj43 (hts _ u_465) d_Explorer_part_37 ?_
    have z47 := (hwf.2.2.2 7 j43 9 rfl)
    refine lv_if_ne (tgt := 47) hx hb d_Explorer_part_40 (by decide) (fun c48 => ?_) (fun c48 => ?_)
    · have h := if_f c48 h
      exact b_47 ad N M42 j0 _ _ _ h hj0 hwf hok hext0 hP hD hS (lv_sub hl [0, 1] rfl)
    have h := if_t c48 h
    refine lv_iconst (v := 1) hx hb d_Explorer_part_43 (by decide) ?_
    refine lv_goto (tgt := 48) hx hb d_Explorer_part_44 (by decide) ?_
    exact b_48 ad N M42 (1 : Int32) j0 _ _ _ h (by decide) hj0 hwf hok hext0 hP hD hS (lv_sub hl [0, 1] rfl)
  rw [hN9] at hcs
  exact hcs
theorem d_Facts_reckon_60 : decode prog_6_method_5_code 60 = .ok (.iload_n 3, 1) := by decide +kernel
theorem d_Facts_reckon_61 : decode prog_6_method_5_code 61 = .ok (.ifCond .eq 20, 3) := by decide +kernel
theorem d_Facts_reckon_81 : decode prog_6_method_5_code 81 = .ok (.aload_n 0, 1) := by decide +kernel
theorem d_Facts_reckon_82 : decode prog_6_method_5_code 82 = .ok (.getfield 22, 3) := by decide +kernel
theorem d_Facts_reckon_85 : decode prog_6_method_5_code 85 = .ok (.iload_n 1, 1) := by decide +kernel
theorem d_Facts_reckon_86 : decode prog_6_method_5_code 86 = .ok (.iconst 2, 1) := by decide +kernel
theorem d_Facts_reckon_87 : decode prog_6_method_5_code 87 = .ok (.iastore, 1) := by decide +kernel
theorem d_Facts_reckon_88 : decode prog_6_method_5_code 88 = .ok (.return_, 1) := by decide +kernel
theorem d_Facts_reckon_64 : decode prog_6_method_5_code 64 = .ok (.aload_n 2, 1) := by decide +kernel
theorem d_Facts_reckon_65 : decode prog_6_method_5_code 65 = .ok (.getfield 41, 3) := by decide +kernel
theorem u_436 : Cond.fieldLink "FilterGuard$Facts" 41 "FilterGuard$Cell" "number" "LFilterGuard$Num;" ∈ fg_g := fg_in (List.mem_of_getElem? (i := 436) (by decide +kernel)) rfl
theorem d_Facts_reckon_68 : decode prog_6_method_5_code 68 = .ok (.getfield 51, 3) := by decide +kernel
theorem u_369 : Cond.fieldLink "FilterGuard$Facts" 51 "FilterGuard$Num" "value" "J" ∈ fg_g := fg_in (List.mem_of_getElem? (i := 369) (by decide +kernel)) rfl
theorem d_Facts_reckon_71 : decode prog_6_method_5_code 71 = .ok (.aload_n 0, 1) := by decide +kernel
theorem d_Facts_reckon_72 : decode prog_6_method_5_code 72 = .ok (.getfield 25, 3) := by decide +kernel
theorem d_Facts_reckon_75 : decode prog_6_method_5_code 75 = .ok (.iload_n 1, 1) := by decide +kernel
theorem d_Facts_reckon_76 : decode prog_6_method_5_code 76 = .ok (.laload, 1) := by decide +kernel
theorem d_Facts_reckon_77 : decode prog_6_method_5_code 77 = .ok (.lcmp, 1) := by decide +kernel
theorem d_Facts_reckon_78 : decode prog_6_method_5_code 78 = .ok (.ifCond .eq 10, 3) := by decide +kernel
theorem d_Facts_reckon_23 : decode prog_6_method_5_code 23 = .ok (.istore_n 3, 1) := by decide +kernel
theorem d_Facts_reckon_24 : decode prog_6_method_5_code 24 = .ok (.aload_n 0, 1) := by decide +kernel
theorem d_Facts_reckon_25 : decode prog_6_method_5_code 25 = .ok (.getfield 22, 3) := by decide +kernel
theorem d_Facts_reckon_28 : decode prog_6_method_5_code 28 = .ok (.iload_n 1, 1) := by decide +kernel
theorem d_Facts_reckon_29 : decode prog_6_method_5_code 29 = .ok (.iaload, 1) := by decide +kernel
theorem d_Facts_reckon_30 : decode prog_6_method_5_code 30 = .ok (.ifCond .ne 30, 3) := by decide +kernel
theorem d_Facts_reckon_33 : decode prog_6_method_5_code 33 = .ok (.iload_n 3, 1) := by decide +kernel
theorem d_Facts_reckon_34 : decode prog_6_method_5_code 34 = .ok (.ifCond .eq 26, 3) := by decide +kernel
theorem d_Facts_reckon_37 : decode prog_6_method_5_code 37 = .ok (.aload_n 0, 1) := by decide +kernel
theorem d_Facts_reckon_38 : decode prog_6_method_5_code 38 = .ok (.getfield 22, 3) := by decide +kernel
theorem d_Facts_reckon_41 : decode prog_6_method_5_code 41 = .ok (.iload_n 1, 1) := by decide +kernel
theorem d_Facts_reckon_42 : decode prog_6_method_5_code 42 = .ok (.iconst 1, 1) := by decide +kernel
theorem d_Facts_reckon_43 : decode prog_6_method_5_code 43 = .ok (.iastore, 1) := by decide +kernel
theorem d_Facts_reckon_44 : decode prog_6_method_5_code 44 = .ok (.aload_n 0, 1) := by decide +kernel
theorem d_Facts_reckon_45 : decode prog_6_method_5_code 45 = .ok (.getfield 25, 3) := by decide +kernel
theorem d_Facts_reckon_48 : decode prog_6_method_5_code 48 = .ok (.iload_n 1, 1) := by decide +kernel
theorem d_Facts_reckon_49 : decode prog_6_method_5_code 49 = .ok (.aload_n 2, 1) := by decide +kernel
theorem d_Facts_reckon_50 : decode prog_6_method_5_code 50 = .ok (.getfield 41, 3) := by decide +kernel
theorem d_Facts_reckon_53 : decode prog_6_method_5_code 53 = .ok (.getfield 51, 3) := by decide +kernel
theorem d_Facts_reckon_56 : decode prog_6_method_5_code 56 = .ok (.lastore, 1) := by decide +kernel
theorem d_Facts_reckon_57 : decode prog_6_method_5_code 57 = .ok (.goto 31, 3) := by decide +kernel
theorem d_Facts_reckon_22 : decode prog_6_method_5_code 22 = .ok (.iconst 0, 1) := by decide +kernel
theorem d_Facts_reckon_0 : decode prog_6_method_5_code 0 = .ok (.aload_n 2, 1) := by decide +kernel
theorem d_Facts_reckon_1 : decode prog_6_method_5_code 1 = .ok (.getfield 35, 3) := by decide +kernel
theorem u_423 : Cond.fieldLink "FilterGuard$Facts" 35 "FilterGuard$Cell" "kind" "I" ∈ fg_g := fg_in (List.mem_of_getElem? (i := 423) (by decide +kernel)) rfl
theorem d_Facts_reckon_4 : decode prog_6_method_5_code 4 = .ok (.iconst 1, 1) := by decide +kernel
theorem d_Facts_reckon_5 : decode prog_6_method_5_code 5 = .ok (.if_icmp .ne 17, 3) := by decide +kernel
theorem d_Facts_reckon_8 : decode prog_6_method_5_code 8 = .ok (.aload_n 2, 1) := by decide +kernel
theorem d_Facts_reckon_9 : decode prog_6_method_5_code 9 = .ok (.getfield 41, 3) := by decide +kernel
theorem d_Facts_reckon_12 : decode prog_6_method_5_code 12 = .ok (.invokevirtual 45, 3) := by decide +kernel
theorem u_1438 : Cond.methodLink "FilterGuard$Facts" 45 ⟨"FilterGuard$Num", "isExact", "()Z"⟩ ∈ fg_g := fg_in (List.mem_of_getElem? (i := 1438) (by decide +kernel)) rfl
theorem d_Facts_reckon_15 : decode prog_6_method_5_code 15 = .ok (.ifCond .eq 7, 3) := by decide +kernel
theorem d_Facts_reckon_18 : decode prog_6_method_5_code 18 = .ok (.iconst 1, 1) := by decide +kernel
theorem d_Facts_reckon_19 : decode prog_6_method_5_code 19 = .ok (.goto 4, 3) := by decide +kernel
abbrev y_Facts_reckon : MethodName := ⟨"FilterGuard$Facts", "reckon", "(ILFilterGuard$Cell;)V"⟩
def rm_Facts_reckon : Room := { frames := 2, cells := 0, slots := 0, locals := 40 }
abbrev q_Facts_reckon (D : va_G) (ad : Nat → Nat → Nat) (ca : Nat → ClassId) (N : Nat → Nat) (M0 MZ : me_M) (A : Nat → Prop) : Array Value → Jvm.State → Outcome → Jvm.State → Prop := va_Qv (fun (_ : Unit) => me_wf N MZ ∧ me_kp M0 MZ) (fg_B D A (fun _ => me_W ad ca MZ) (fun _ => [])) A
set_option maxHeartbeats 4000000 in
set_option maxRecDepth 100000 in
theorem c_Facts_reckon (l : Launch) (D : va_G) (ad : Nat → Nat → Nat) (ca : Nat → ClassId) (N : Nat → Nat) (M0 MZ : me_M) (j0 : Nat) (x1 : Int32) (j2 : Nat) (h : f_Facts_reckon M0 j0 x1 j2 = (some MZ)) (hwf : me_wf N M0) (hj0 : j0 < N 3) (hj2 : j2 < N 10) (sz : Nat) : Met l y_Facts_reckon (fg_w y_Facts_reckon prog_6_method_5_code 4 none) rm_Facts_reckon (va_Pc [.ref (ad 3 j0), .int x1, .ref (ad 10 j2)] (fz_P D (me_T ca) (me_W ad ca M0) sz)) (q_Facts_reckon D ad ca N M0 MZ (va_A (me_W ad ca M0) sz)) rm_Facts_reckon.cells rm_Facts_reckon.slots (va_A (me_W ad ca M0) sz) := by
  refine fz_enter (fun A => q_Facts_reckon D ad ca N M0 MZ A) (by decide +kernel) (Nat.le_of_ble_eq_true rfl) ?_
  intro p e s m below meth c ls A hx hb hml hown hts hr hlocks hin hP hK hD hS hA hX hl hz
  have hl : lv_has ls 4 [(0, .ref (ad 3 j0)), (1, .int x1), (2, .ref (ad 10 j2))] := hl
  unfold f_Facts_reckon at h
  have hkp : me_kp M0 M0 := me_kp.rf
  have hkb := hkp
  have b_60 : ∀ (M : me_M) (y3 : Int32) (H : Heap) (locs : List Loc) (ls : Array Slot), f_Facts_reckon_b60 j0 x1 j2 M y3 = (some MZ) → (y3 = 1 ∨ y3 = 0) → me_wf N M → me_kp M0 M → va_P D classes (me_W ad ca M) H → va_D A (me_W ad ca M) → va_S A s.heap H locs → lv_has ls 4 [(0, .ref (ad 3 j0)), (1, .int x1), (2, .ref (ad 10 j2)), (3, .int y3)] → W p l e rm_Facts_reckon s m [.ref (ad 3 j0), .int x1, .ref (ad 10 j2)].toArray below meth c H locs 0 0 (MQ below (q_Facts_reckon D ad ca N M0 MZ A) [.ref (ad 3 j0), .int x1, .ref (ad 10 j2)].toArray s rm_Facts_reckon.cells rm_Facts_reckon.slots A) (F0 m 60 ls []) := by
    intro M y3 H locs ls h zy3 hwf hkp hP hD hS hl
    unfold f_Facts_reckon_b60 at h
    have hkb := hkp
    refine lv_iload_n hx hb d_Facts_reckon_60 rfl (lv_at hl 3 rfl) ?_
    refine lv_if_eq (tgt := 81) hx hb d_Facts_reckon_61 (by decide) (fun c1 => ?_) (fun c1 => ?_)
    · have h := if_t c1 h
      refine lv_aload_n hx hb d_Facts_reckon_81 rfl (lv_at hl 0 rfl) ?_
      refine g_Facts_3 hx hb hts hown hK hP hwf hj0 (hts _ u_321) d_Facts_reckon_82 ?_
      obtain ⟨j3, e4, h⟩ := bd_ob h
      have hj3 : j3 < N 13 := (hwf.2.1 3 j0 3 _ e4 (by decide) hj0)
      refine me_opt (j := j3) e4 ?_
      refine lv_iload_n hx hb d_Facts_reckon_85 rfl (lv_at hl 1 rfl) ?_
      refine lv_iconst (v := 2) hx hb d_Facts_reckon_86 (by decide) ?_
      obtain ⟨g5, h⟩ := gd_ob h
      obtain ⟨M6, eM6, h⟩ := st_ob h
      refine me_iast eM6 hx hb hK hP hD hwf hS hj3 g5 d_Facts_reckon_87 (fun H locs hP hD hwf hS => ?_)
      have hkp := kp_I eM6 hkp
      exact me_retv (me_kp M0) h hx hb hr hlocks hwf hkp hP hK hD hS d_Facts_reckon_88
    have h := if_f c1 h
    refine lv_aload_n hx hb d_Facts_reckon_64 rfl (lv_at hl 2 rfl) ?_
    refine g_Cell_6 hx hb hts hown hK hP hwf hj2 (hts _ u_436) d_Facts_reckon_65 ?_
    obtain ⟨j7, e8, h⟩ := bd_ob h
    have hj7 : j7 < N 11 := (hwf.2.1 10 j2 6 _ e8 (by decide) hj2)
    refine me_opt (j := j7) e8 ?_
    refine g_Num_0 hx hb hts hown hK hP hwf hj7 (hts _ u_369) d_Facts_reckon_68 ?_
    refine lv_aload_n hx hb d_Facts_reckon_71 rfl (lv_at hl 0 rfl) ?_
    refine g_Facts_4 hx hb hts hown hK hP hwf hj0 (hts _ u_322) d_Facts_reckon_72 ?_
    obtain ⟨j9, e10, h⟩ := bd_ob h
    have hj9 : j9 < N 16 := (hwf.2.1 3 j0 4 _ e10 (by decide) hj0)
    refine me_opt (j := j9) e10 ?_
    refine lv_iload_n hx hb d_Facts_reckon_75 rfl (lv_at hl 1 rfl) ?_
    obtain ⟨g11, h⟩ := gd_ob h
    refine me_lald hx hb hK hP hwf hj9 g11 d_Facts_reckon_76 ?_
    refine W.lcmp hx hb d_Facts_reckon_77 ?_
    refine lv_if_eq (tgt := 88) hx hb d_Facts_reckon_78 (by decide) (fun c12 => ?_) (fun c12 => ?_)
    · have h := if_t ((lg_cmp_eq _ _).mp c12) h
      exact me_retv (me_kp M0) h hx hb hr hlocks hwf hkp hP hK hD hS d_Facts_reckon_88
    have h := if_f (fun z => c12 ((lg_cmp_eq _ _).mpr z)) h
    refine lv_aload_n hx hb d_Facts_reckon_81 rfl (lv_at hl 0 rfl) ?_
    refine g_Facts_3 hx hb hts hown hK hP hwf hj0 (hts _ u_321) d_Facts_reckon_82 ?_
    obtain ⟨j13, e14, h⟩ := bd_ob h
    have hj13 : j13 < N 13 := (hwf.2.1 3 j0 3 _ e14 (by decide) hj0)
    refine me_opt (j := j13) e14 ?_
    refine lv_iload_n hx hb d_Facts_reckon_85 rfl (lv_at hl 1 rfl) ?_
    refine lv_iconst (v := 2) hx hb d_Facts_reckon_86 (by decide) ?_
    obtain ⟨g15, h⟩ := gd_ob h
    obtain ⟨M16, eM16, h⟩ := st_ob h
    refine me_iast eM16 hx hb hK hP hD hwf hS hj13 g15 d_Facts_reckon_87 (fun H locs hP hD hwf hS => ?_)
    have hkp := kp_I eM16 hkp
    exact me_retv (me_kp M0) h hx hb hr hlocks hwf hkp hP hK hD hS d_Facts_reckon_88
  have b_23 : ∀ (M : me_M) (s0 : Int32) (H : Heap) (locs : List Loc) (ls : Array Slot), f_Facts_reckon_b23 j0 x1 j2 M s0 = (some MZ) → (s0 = 1 ∨ s0 = 0) → me_wf N M → me_kp M0 M → va_P D classes (me_W ad ca M) H → va_D A (me_W ad ca M) → va_S A s.heap H locs → lv_has ls 4 [(0, .ref (ad 3 j0)), (1, .int x1), (2, .ref (ad 10 j2))] → W p l e rm_Facts_reckon s m [.ref (ad 3 j0), .int x1, .ref (ad 10 j2)].toArray below meth c H locs 0 0 (MQ below (q_Facts_reckon D ad ca N M0 MZ A) [.ref (ad 3 j0), .int x1, .ref (ad 10 j2)].toArray s rm_Facts_reckon.cells rm_Facts_reckon.slots A) (F0 m 23 ls [.int s0]) := by
    intro M s0 H locs ls h zs0 hwf hkp hP hD hS hl
    unfold f_Facts_reckon_b23 at h
    have hkb := hkp
    refine lv_istore_n (lv' := [(3, .int s0), (0, .ref (ad 3 j0)), (1, .int x1), (2, .ref (ad 10 j2))]) hx hb d_Facts_reckon_23 rfl hl (by decide) rfl (fun ls hl => ?_)
    refine lv_aload_n hx hb d_Facts_reckon_24 rfl (lv_at hl 1 rfl) ?_
    refine g_Facts_3 hx hb hts hown hK hP hwf hj0 (hts _ u_321) d_Facts_reckon_25 ?_
    obtain ⟨j17, e18, h⟩ := bd_ob h
    have hj17 : j17 < N 13 := (hwf.2.1 3 j0 3 _ e18 (by decide) hj0)
    refine me_opt (j := j17) e18 ?_
    refine lv_iload_n hx hb d_Facts_reckon_28 rfl (lv_at hl 2 rfl) ?_
    obtain ⟨g19, h⟩ := gd_ob h
    refine me_iald hx hb hK hP hwf hj17 g19 d_Facts_reckon_29 ?_
    refine lv_if_ne (tgt := 60) hx hb d_Facts_reckon_30 (by decide) (fun c20 => ?_) (fun c20 => ?_)
    · have h := if_f c20 h
      exact b_60 M s0 _ _ _ h zs0 hwf hkp hP hD hS (lv_sub hl [1, 2, 3, 0] rfl)
    have h := if_t c20 h
    refine lv_iload_n hx hb d_Facts_reckon_33 rfl (lv_at hl 0 rfl) ?_
    refine lv_if_eq (tgt := 60) hx hb d_Facts_reckon_34 (by decide) (fun c21 => ?_) (fun c21 => ?_)
    · have h := if_t c21 h
      exact b_60 M s0 _ _ _ h zs0 hwf hkp hP hD hS (lv_sub hl [1, 2, 3, 0] rfl)
    have h := if_f c21 h
    refine lv_aload_n hx hb d_Facts_reckon_37 rfl (lv_at hl 1 rfl) ?_
    refine g_Facts_3 hx hb hts hown hK hP hwf hj0 (hts _ u_321) d_Facts_reckon_38 ?_
    refine me_opt (j := j17) e18 ?_
    refine lv_iload_n hx hb d_Facts_reckon_41 rfl (lv_at hl 2 rfl) ?_
    refine lv_iconst (v := 1) hx hb d_Facts_reckon_42 (by decide) ?_
    obtain ⟨M22, eM22, h⟩ := st_ob h
    refine me_iast eM22 hx hb hK hP hD hwf hS hj17 g19 d_Facts_reckon_43 (fun H locs hP hD hwf hS => ?_)
    have hkp := kp_I eM22 hkp
    refine lv_aload_n hx hb d_Facts_reckon_44 rfl (lv_at hl 1 rfl) ?_
    refine g_Facts_4 hx hb hts hown hK hP hwf hj0 (hts _ u_322) d_Facts_reckon_45 ?_
    obtain ⟨j23, e24, h⟩ := bd_ob h
    have hj23 : j23 < N 16 := (hwf.2.1 3 j0 4 _ (kp_r hkb hkp e24) (by decide) hj0)
    refine me_opt (j := j23) (kp_r hkb hkp e24) ?_
    refine lv_iload_n hx hb d_Facts_reckon_48 rfl (lv_at hl 2 rfl) ?_
    refine lv_aload_n hx hb d_Facts_reckon_49 rfl (lv_at hl 3 rfl) ?_
    refine g_Cell_6 hx hb hts hown hK hP hwf hj2 (hts _ u_436) d_Facts_reckon_50 ?_
    obtain ⟨j25, e26, h⟩ := bd_ob h
    have hj25 : j25 < N 11 := (hwf.2.1 10 j2 6 _ (kp_r hkb hkp e26) (by decide) hj2)
    refine me_opt (j := j25) (kp_r hkb hkp e26) ?_
    refine g_Num_0 hx hb hts hown hK hP hwf hj25 (hts _ u_369) d_Facts_reckon_53 ?_
    obtain ⟨g27, h⟩ := gd_ob h
    obtain ⟨M28, eM28, h⟩ := st_ob h
    refine me_last eM28 hx hb hK hP hD hwf hS hj23 (kp_z hkb.z hkp.z g27) d_Facts_reckon_56 (fun H locs hP hD hwf hS => ?_)
    have hkp := kp_L eM28 hkp
    refine lv_goto (tgt := 88) hx hb d_Facts_reckon_57 (by decide) ?_
    exact me_retv (me_kp M0) h hx hb hr hlocks hwf hkp hP hK hD hS d_Facts_reckon_88
  have b_22 : ∀ (M : me_M) (H : Heap) (locs : List Loc) (ls : Array Slot), f_Facts_reckon_b22 j0 x1 j2 M = (some MZ) → me_wf N M → me_kp M0 M → va_P D classes (me_W ad ca M) H → va_D A (me_W ad ca M) → va_S A s.heap H locs → lv_has ls 4 [(0, .ref (ad 3 j0)), (1, .int x1), (2, .ref (ad 10 j2))] → W p l e rm_Facts_reckon s m [.ref (ad 3 j0), .int x1, .ref (ad 10 j2)].toArray below meth c H locs 0 0 (MQ below (q_Facts_reckon D ad ca N M0 MZ A) [.ref (ad 3 j0), .int x1, .ref (ad 10 j2)].toArray s rm_Facts_reckon.cells rm_Facts_reckon.slots A) (F0 m 22 ls []) := by
    intro M H locs ls h hwf hkp hP hD hS hl
    unfold f_Facts_reckon_b22 at h
    have hkb := hkp
    refine lv_iconst (v := 0) hx hb d_Facts_reckon_22 (by decide) ?_
    exact b_23 M (0 : Int32) _ _ _ h (by decide) hwf hkp hP hD hS (lv_sub hl [0, 1, 2] rfl)
  refine lv_aload_n hx hb d_Facts_reckon_0 rfl (lv_at hl 2 rfl) ?_
  refine g_Cell_0 hx hb hts hown hK hP hwf hj2 (hts _ u_423) d_Facts_reckon_1 ?_
  refine lv_iconst (v := 1) hx hb d_Facts_reckon_4 (by decide) ?_
  refine lv_icmp_ne (tgt := 22) hx hb d_Facts_reckon_5 (by decide) (fun c29 => ?_) (fun c29 => ?_)
  · have h := if_f c29 h
    exact b_22 M0 _ _ _ h hwf hkp hP hD hS (lv_sub hl [0, 1, 2] rfl)
  have h := if_t c29 h
  refine lv_aload_n hx hb d_Facts_reckon_8 rfl (lv_at hl 2 rfl) ?_
  refine g_Cell_6 hx hb hts hown hK hP hwf hj2 (hts _ u_436) d_Facts_reckon_9 ?_
  obtain ⟨j30, e31, h⟩ := bd_ob h
  have hj30 : j30 < N 11 := (hwf.2.1 10 j2 6 _ e31 (by decide) hj2)
  refine me_opt (j := j30) e31 ?_
  obtain ⟨M32, r33, eM32, h⟩ := b2_ob h
  refine me_theni0 (M1 := M32) (me_runV (C := "FilterGuard$Num") (As := []) (rest := []) ⟨hx, hb, hml, hown, hts⟩ (c_Num_isExact0 l D ad ca N M0 M32 r33 j30 eM32 hwf hj30 _) rfl (by show fg_nm y_Num_isExact0 0; decide +kernel) u_1438 u_1158 u_1159 u_187 u_1160 ⟨Nat.le_of_ble_eq_true rfl, Nat.le_of_ble_eq_true rfl⟩ hX hz hK hP hD hwf hS hA hj30 (by decide) rfl rfl rfl hl.1 (Nat.le_of_ble_eq_true rfl) d_Facts_reckon_12 ⟨Nat.le_of_ble_eq_true rfl, Nat.le_of_ble_eq_true rfl⟩) hP hD hK hS hA rfl rfl (fun H locs hw hP hD hS => ?_)
  obtain ⟨hwf, hk9, zr33⟩ := hw
  have hkp := hkp.tr hk9
  refine lv_if_eq (tgt := 22) hx hb d_Facts_reckon_15 (by decide) (fun c34 => ?_) (fun c34 => ?_)
  · have h := if_t c34 h
    exact b_22 M32 _ _ _ h hwf hkp hP hD hS (lv_sub hl [0, 1, 2] rfl)
  have h := if_f c34 h
  refine lv_iconst (v := 1) hx hb d_Facts_reckon_18 (by decide) ?_
  refine lv_goto (tgt := 23) hx hb d_Facts_reckon_19 (by decide) ?_
  exact b_23 M32 (1 : Int32) _ _ _ h (by decide) hwf hkp hP hD hS (lv_sub hl [0, 1, 2] rfl)
theorem d_Code_behind_0 : decode prog_4_method_10_code 0 = .ok (.iload_n 1, 1) := by decide +kernel
theorem d_Code_behind_1 : decode prog_4_method_10_code 1 = .ok (.aload_n 0, 1) := by decide +kernel
theorem d_Code_behind_2 : decode prog_4_method_10_code 2 = .ok (.getfield 55, 3) := by decide +kernel
theorem d_Code_behind_5 : decode prog_4_method_10_code 5 = .ok (.iconst 1, 1) := by decide +kernel
theorem d_Code_behind_6 : decode prog_4_method_10_code 6 = .ok (.if_icmp .ne 7, 3) := by decide +kernel
theorem d_Code_behind_13 : decode prog_4_method_10_code 13 = .ok (.iconst 1, 1) := by decide +kernel
theorem d_Code_behind_14 : decode prog_4_method_10_code 14 = .ok (.iadd, 1) := by decide +kernel
theorem d_Code_behind_15 : decode prog_4_method_10_code 15 = .ok (.ireturn, 1) := by decide +kernel
theorem d_Code_behind_9 : decode prog_4_method_10_code 9 = .ok (.iconst 2, 1) := by decide +kernel
theorem d_Code_behind_10 : decode prog_4_method_10_code 10 = .ok (.goto 4, 3) := by decide +kernel
abbrev y_Code_behind : MethodName := ⟨"FilterGuard$Code", "behind", "(I)I"⟩
def rm_Code_behind : Room := { frames := 1, cells := 0, slots := 0, locals := 20 }
abbrev q_Code_behind (D : va_G) (ad : Nat → Nat → Nat) (ca : Nat → ClassId) (N : Nat → Nat) (M0 MZ : me_M) (RZ : Int32) (A : Nat → Prop) : Array Value → Jvm.State → Outcome → Jvm.State → Prop := va_Qi (fun r (_ : Unit) => r = RZ ∧ me_wf N MZ ∧ me_kp M0 MZ) (fg_B D A (fun _ => me_W ad ca MZ) (fun _ => [])) A
set_option maxHeartbeats 4000000 in
set_option maxRecDepth 100000 in
theorem c_Code_behind (l : Launch) (D : va_G) (ad : Nat → Nat → Nat) (ca : Nat → ClassId) (N : Nat → Nat) (M0 MZ : me_M) (RZ : Int32) (j0 : Nat) (x1 : Int32) (h : f_Code_behind M0 j0 x1 = (some (MZ, RZ))) (hwf : me_wf N M0) (hj0 : j0 < N 2) (sz : Nat) : Met l y_Code_behind (fg_w y_Code_behind prog_4_method_10_code 2 (some .int)) rm_Code_behind (va_Pc [.ref (ad 2 j0), .int x1] (fz_P D (me_T ca) (me_W ad ca M0) sz)) (q_Code_behind D ad ca N M0 MZ RZ (va_A (me_W ad ca M0) sz)) rm_Code_behind.cells rm_Code_behind.slots (va_A (me_W ad ca M0) sz) := by
  refine fz_enter (fun A => q_Code_behind D ad ca N M0 MZ RZ A) (by decide +kernel) (Nat.le_of_ble_eq_true rfl) ?_
  intro p e s m below meth c ls A hx hb hml hown hts hr hlocks hin hP hK hD hS hA hX hl hz
  have hl : lv_has ls 2 [(0, .ref (ad 2 j0)), (1, .int x1)] := hl
  unfold f_Code_behind at h
  have hkp : me_kp M0 M0 := me_kp.rf
  have hkb := hkp
  refine lv_iload_n hx hb d_Code_behind_0 rfl (lv_at hl 1 rfl) ?_
  refine lv_aload_n hx hb d_Code_behind_1 rfl (lv_at hl 0 rfl) ?_
  refine g_Code_10 hx hb hts hown hK hP hwf hj0 (hts _ u_252) d_Code_behind_2 ?_
  refine lv_iconst (v := 1) hx hb d_Code_behind_5 (by decide) ?_
  refine lv_icmp_ne (tgt := 13) hx hb d_Code_behind_6 (by decide) (fun c1 => ?_) (fun c1 => ?_)
  · have h := if_f c1 h
    refine lv_iconst (v := 1) hx hb d_Code_behind_13 (by decide) ?_
    refine lv_iadd hx hb d_Code_behind_14 ?_
    exact me_reti (me_kp M0) h hx hb hr hlocks hwf hkp hP hK hD hS d_Code_behind_15
  have h := if_t c1 h
  refine lv_iconst (v := 2) hx hb d_Code_behind_9 (by decide) ?_
  refine lv_goto (tgt := 14) hx hb d_Code_behind_10 (by decide) ?_
  refine lv_iadd hx hb d_Code_behind_14 ?_
  exact me_reti (me_kp M0) h hx hb hr hlocks hwf hkp hP hK hD hS d_Code_behind_15
theorem d_Explorer_goOn_0 : decode prog_5_method_8_code 0 = .ok (.aload_n 0, 1) := by decide +kernel
theorem d_Explorer_goOn_1 : decode prog_5_method_8_code 1 = .ok (.getfield 27, 3) := by decide +kernel
theorem d_Explorer_goOn_4 : decode prog_5_method_8_code 4 = .ok (.getfield 150, 3) := by decide +kernel
theorem u_256 : Cond.fieldLink "FilterGuard$Explorer" 150 "FilterGuard$Code" "family" "I" ∈ fg_g := fg_in (List.mem_of_getElem? (i := 256) (by decide +kernel)) rfl
theorem d_Explorer_goOn_7 : decode prog_5_method_8_code 7 = .ok (.tableswitch 89 6 10 #[63, 46, 33, 89, 39], 33) := by decide +kernel
theorem d_Explorer_goOn_70 : decode prog_5_method_8_code 70 = .ok (.aload_n 0, 1) := by decide +kernel
theorem d_Explorer_goOn_71 : decode prog_5_method_8_code 71 = .ok (.getfield 31, 3) := by decide +kernel
theorem d_Explorer_goOn_74 : decode prog_5_method_8_code 74 = .ok (.iload_n 1, 1) := by decide +kernel
theorem d_Explorer_goOn_75 : decode prog_5_method_8_code 75 = .ok (.aload_n 0, 1) := by decide +kernel
theorem d_Explorer_goOn_76 : decode prog_5_method_8_code 76 = .ok (.getfield 45, 3) := by decide +kernel
theorem d_Explorer_goOn_79 : decode prog_5_method_8_code 79 = .ok (.getfield 130, 3) := by decide +kernel
theorem d_Explorer_goOn_82 : decode prog_5_method_8_code 82 = .ok (.aload_n 0, 1) := by decide +kernel
theorem d_Explorer_goOn_83 : decode prog_5_method_8_code 83 = .ok (.getfield 27, 3) := by decide +kernel
theorem d_Explorer_goOn_86 : decode prog_5_method_8_code 86 = .ok (.getfield 159, 3) := by decide +kernel
theorem u_237 : Cond.fieldLink "FilterGuard$Explorer" 159 "FilterGuard$Code" "to" "I" ∈ fg_g := fg_in (List.mem_of_getElem? (i := 237) (by decide +kernel)) rfl
theorem d_Explorer_goOn_89 : decode prog_5_method_8_code 89 = .ok (.aaload, 1) := by decide +kernel
theorem d_Explorer_goOn_90 : decode prog_5_method_8_code 90 = .ok (.invokevirtual 162, 3) := by decide +kernel
theorem u_1434 : Cond.methodLink "FilterGuard$Explorer" 162 ⟨"FilterGuard$Facts", "reckon", "(ILFilterGuard$Cell;)V"⟩ ∈ fg_g := fg_in (List.mem_of_getElem? (i := 1434) (by decide +kernel)) rfl
theorem u_1437 : Cond.code ⟨"FilterGuard$Facts", "reckon", "(ILFilterGuard$Cell;)V"⟩ prog_6_method_5_code 4 none ∈ fg_g := fg_in (List.mem_of_getElem? (i := 1437) (by decide +kernel)) rfl
theorem u_1435 : Cond.instanceMethod ⟨"FilterGuard$Facts", "reckon", "(ILFilterGuard$Cell;)V"⟩ ∈ fg_g := fg_in (List.mem_of_getElem? (i := 1435) (by decide +kernel)) rfl
theorem u_1436 : Cond.selects "FilterGuard$Facts" ⟨"FilterGuard$Facts", "reckon", "(ILFilterGuard$Cell;)V"⟩ ⟨"FilterGuard$Facts", "reckon", "(ILFilterGuard$Cell;)V"⟩ ∈ fg_g := fg_in (List.mem_of_getElem? (i := 1436) (by decide +kernel)) rfl
theorem d_Explorer_goOn_93 : decode prog_5_method_8_code 93 = .ok (.goto 3, 3) := by decide +kernel
theorem d_Explorer_goOn_96 : decode prog_5_method_8_code 96 = .ok (.aload_n 0, 1) := by decide +kernel
theorem d_Explorer_goOn_97 : decode prog_5_method_8_code 97 = .ok (.getfield 45, 3) := by decide +kernel
theorem d_Explorer_goOn_100 : decode prog_5_method_8_code 100 = .ok (.aload_n 0, 1) := by decide +kernel
theorem d_Explorer_goOn_101 : decode prog_5_method_8_code 101 = .ok (.getfield 27, 3) := by decide +kernel
theorem d_Explorer_goOn_104 : decode prog_5_method_8_code 104 = .ok (.iload_n 1, 1) := by decide +kernel
theorem d_Explorer_goOn_105 : decode prog_5_method_8_code 105 = .ok (.invokevirtual 166, 3) := by decide +kernel
theorem u_1439 : Cond.methodLink "FilterGuard$Explorer" 166 ⟨"FilterGuard$Code", "behind", "(I)I"⟩ ∈ fg_g := fg_in (List.mem_of_getElem? (i := 1439) (by decide +kernel)) rfl
theorem u_1442 : Cond.code ⟨"FilterGuard$Code", "behind", "(I)I"⟩ prog_4_method_10_code 2 (some .int) ∈ fg_g := fg_in (List.mem_of_getElem? (i := 1442) (by decide +kernel)) rfl
theorem u_1440 : Cond.instanceMethod ⟨"FilterGuard$Code", "behind", "(I)I"⟩ ∈ fg_g := fg_in (List.mem_of_getElem? (i := 1440) (by decide +kernel)) rfl
theorem u_1441 : Cond.selects "FilterGuard$Code" ⟨"FilterGuard$Code", "behind", "(I)I"⟩ ⟨"FilterGuard$Code", "behind", "(I)I"⟩ ∈ fg_g := fg_in (List.mem_of_getElem? (i := 1441) (by decide +kernel)) rfl
theorem d_Explorer_goOn_108 : decode prog_5_method_8_code 108 = .ok (.putfield 65, 3) := by decide +kernel
theorem d_Explorer_goOn_111 : decode prog_5_method_8_code 111 = .ok (.iconst 0, 1) := by decide +kernel
theorem d_Explorer_goOn_112 : decode prog_5_method_8_code 112 = .ok (.ireturn, 1) := by decide +kernel
theorem d_Explorer_goOn_53 : decode prog_5_method_8_code 53 = .ok (.aload_n 0, 1) := by decide +kernel
theorem d_Explorer_goOn_54 : decode prog_5_method_8_code 54 = .ok (.getfield 45, 3) := by decide +kernel
theorem d_Explorer_goOn_57 : decode prog_5_method_8_code 57 = .ok (.aload_n 0, 1) := by decide +kernel
theorem d_Explorer_goOn_58 : decode prog_5_method_8_code 58 = .ok (.getfield 27, 3) := by decide +kernel
theorem d_Explorer_goOn_61 : decode prog_5_method_8_code 61 = .ok (.iload_n 1, 1) := by decide +kernel
theorem d_Explorer_goOn_62 : decode prog_5_method_8_code 62 = .ok (.invokevirtual 156, 3) := by decide +kernel
theorem d_Explorer_goOn_65 : decode prog_5_method_8_code 65 = .ok (.putfield 65, 3) := by decide +kernel
theorem d_Explorer_goOn_68 : decode prog_5_method_8_code 68 = .ok (.iconst 0, 1) := by decide +kernel
theorem d_Explorer_goOn_69 : decode prog_5_method_8_code 69 = .ok (.ireturn, 1) := by decide +kernel
theorem d_Explorer_goOn_40 : decode prog_5_method_8_code 40 = .ok (.aload_n 0, 1) := by decide +kernel
theorem d_Explorer_goOn_41 : decode prog_5_method_8_code 41 = .ok (.iload_n 1, 1) := by decide +kernel
theorem d_Explorer_goOn_42 : decode prog_5_method_8_code 42 = .ok (.invokevirtual 153, 3) := by decide +kernel
theorem u_1414 : Cond.methodLink "FilterGuard$Explorer" 153 ⟨"FilterGuard$Explorer", "part", "(I)I"⟩ ∈ fg_g := fg_in (List.mem_of_getElem? (i := 1414) (by decide +kernel)) rfl
theorem u_1417 : Cond.code ⟨"FilterGuard$Explorer", "part", "(I)I"⟩ prog_5_method_9_code 2 (some .int) ∈ fg_g := fg_in (List.mem_of_getElem? (i := 1417) (by decide +kernel)) rfl
theorem u_1416 : Cond.instanceMethod ⟨"FilterGuard$Explorer", "part", "(I)I"⟩ ∈ fg_g := fg_in (List.mem_of_getElem? (i := 1416) (by decide +kernel)) rfl
theorem u_54 : Cond.selects "FilterGuard$Explorer" ⟨"FilterGuard$Explorer", "part", "(I)I"⟩ ⟨"FilterGuard$Explorer", "part", "(I)I"⟩ ∈ fg_g := fg_in (List.mem_of_getElem? (i := 54) (by decide +kernel)) rfl
theorem d_Explorer_goOn_45 : decode prog_5_method_8_code 45 = .ok (.ireturn, 1) := by decide +kernel
theorem d_Explorer_goOn_46 : decode prog_5_method_8_code 46 = .ok (.aload_n 0, 1) := by decide +kernel
theorem d_Explorer_goOn_47 : decode prog_5_method_8_code 47 = .ok (.iconst 1, 1) := by decide +kernel
theorem d_Explorer_goOn_48 : decode prog_5_method_8_code 48 = .ok (.putfield 75, 3) := by decide +kernel
theorem d_Explorer_goOn_51 : decode prog_5_method_8_code 51 = .ok (.iconst 0, 1) := by decide +kernel
theorem d_Explorer_goOn_52 : decode prog_5_method_8_code 52 = .ok (.ireturn, 1) := by decide +kernel
abbrev y_Explorer_goOn : MethodName := ⟨"FilterGuard$Explorer", "goOn", "(I)I"⟩
def rm_Explorer_goOn (N0 : Nat → Nat) : Room := { frames := 6, cells := me_CL - me_cN N0, slots := me_SL - me_sN N0, locals := 134 }
abbrev q_Explorer_goOn (D : va_G) (ad0 : Nat → Nat → Nat) (ca : Nat → ClassId) (N0 : Nat → Nat) (MZ : me_M) (RZ : Int32) (A : Nat → Prop) : Array Value → Jvm.State → Outcome → Jvm.State → Prop := va_Qi (fun r (u : Nat → Nat → Nat) => r = RZ ∧ al_P ad0 N0 MZ u ∧ True) (fg_B D A (fun u => me_W u ca MZ) (fun _ => [])) A
set_option maxHeartbeats 4000000 in
set_option maxRecDepth 100000 in
theorem c_Explorer_goOn (l : Launch) (D : va_G) (ad0 : Nat → Nat → Nat) (ca : Nat → ClassId) (N0 : Nat → Nat) (M0 MZ : me_M) (RZ : Int32) (j0 : Nat) (x1 : Int32) (h : f_Explorer_goOn M0 j0 x1 = (some (MZ, RZ))) (hwf : me_wf N0 M0) (hcl : me_cN N0 ≤ me_CL ∧ me_sN N0 ≤ me_SL) (hj0 : j0 < N0 4) (sz : Nat) : Met l y_Explorer_goOn (fg_w y_Explorer_goOn prog_5_method_8_code 2 (some .int)) (rm_Explorer_goOn N0) (va_Pc [.ref (ad0 4 j0), .int x1] (fz_P D (me_T ca) (me_W ad0 ca M0) sz)) (q_Explorer_goOn D ad0 ca N0 MZ RZ (va_A (me_W ad0 ca M0) sz)) (me_cN (mN MZ) - me_cN N0) (me_sN (mN MZ) - me_sN N0) (va_A (me_W ad0 ca M0) sz) := by
  refine fz_enter (fun A => q_Explorer_goOn D ad0 ca N0 MZ RZ A) (by decide +kernel) (Nat.le_of_ble_eq_true rfl) ?_
  intro p e s m below meth c ls A hx hb hml hown hts hr hlocks hin hP hK hD hS hA hX hl hz
  refine W.widen (k := me_cN N0 - me_cN N0) (n := me_sN N0 - me_sN N0) (Nat.zero_le _) (Nat.zero_le _) ?_
  unfold f_Explorer_goOn at h
  have hok : me_ok N0 N0 := me_ok.rf hcl
  obtain ⟨ad, N, hext0, hok, hwf, hP, hD, hN9, had9, hj0⟩ : ∃ (ad : Nat → Nat → Nat) (N : Nat → Nat), (∀ a b, b < N0 a → ad a b = ad0 a b) ∧ me_ok N0 N ∧ me_wf N M0 ∧ va_P D classes (me_W ad ca M0) s.heap ∧ va_D A (me_W ad ca M0) ∧ N = N0 ∧ ad = ad0 ∧ j0 < N 4 := ⟨ad0, N0, fun _ _ _ => rfl, hok, hwf, hP, hD, rfl, rfl, hj0⟩
  have hl : lv_has ls 2 [(0, .ref (ad 4 j0)), (1, .int x1)] := by rw [had9]; exact hl
  have hcs : W p l e (rm_Explorer_goOn N0) s m [.ref (ad0 4 j0), .int x1].toArray below meth c s.heap [] (me_cN N - me_cN N0) (me_sN N - me_sN N0) (MQ below (q_Explorer_goOn D ad0 ca N0 MZ RZ A) [.ref (ad0 4 j0), .int x1].toArray s (me_cN (mN MZ) - me_cN N0) (me_sN (mN MZ) - me_sN N0) A) (F0 m 0 ls []) := by
    clear had9
    refine lv_aload_n hx hb d_Explorer_goOn_0 rfl (lv_at hl 0 rfl) ?_
    refine g_Explorer_0 hx hb hts hown hK hP hwf hj0 (hts _ u_546) d_Explorer_goOn_1 ?_
    obtain ⟨j1, e2, h⟩ := bd_ob h
    have hj1 : j1 < N 2 := (hwf.2.1 4 j0 0 _ e2 (by decide) hj0)
    refine me_opt (j := j1) e2 ?_
    refine g_Code_10 hx hb hts hown hK hP hwf hj1 (hts _ u_256) d_Explorer_goOn_4 ?_
    refine lv_topi (fun w3 ew3 => ?_)
    by_cases n4 : w3 = 6
    · have h := if_t (ew3.symm.trans n4) h
      subst n4
      refine lv_tableIn (off := 63) (tgt := 70) hx hb d_Explorer_goOn_7 (by decide) (by decide) (by decide) (by decide) ?_
      refine lv_aload_n hx hb d_Explorer_goOn_70 rfl (lv_at hl 0 rfl) ?_
      refine g_Explorer_1 hx hb hts hown hK hP hwf hj0 (hts _ u_547) d_Explorer_goOn_71 ?_
      obtain ⟨j5, e6, h⟩ := bd_ob h
      have hj5 : j5 < N 3 := (hwf.2.1 4 j0 1 _ e6 (by decide) hj0)
      refine me_opt (j := j5) e6 ?_
      refine lv_iload_n hx hb d_Explorer_goOn_74 rfl (lv_at hl 1 rfl) ?_
      refine lv_aload_n hx hb d_Explorer_goOn_75 rfl (lv_at hl 0 rfl) ?_
      refine g_Explorer_8 hx hb hts hown hK hP hwf hj0 (hts _ u_554) d_Explorer_goOn_76 ?_
      obtain ⟨j7, e8, h⟩ := bd_ob h
      have hj7 : j7 < N 9 := (hwf.2.1 4 j0 8 _ e8 (by decide) hj0)
      refine me_opt (j := j7) e8 ?_
      refine g_State_0 hx hb hts hown hK hP hwf hj7 (hts _ u_526) d_Explorer_goOn_79 ?_
      obtain ⟨j9, e10, h⟩ := bd_ob h
      have hj9 : j9 < N 18 := (hwf.2.1 9 j7 0 _ e10 (by decide) hj7)
      refine me_opt (j := j9) e10 ?_
      refine lv_aload_n hx hb d_Explorer_goOn_82 rfl (lv_at hl 0 rfl) ?_
      refine g_Explorer_0 hx hb hts hown hK hP hwf hj0 (hts _ u_546) d_Explorer_goOn_83 ?_
      refine me_opt (j := j1) e2 ?_
      refine g_Code_6 hx hb hts hown hK hP hwf hj1 (hts _ u_237) d_Explorer_goOn_86 ?_
      obtain ⟨g11, h⟩ := gd_ob h
      refine me_aald (k := 18) (t := 10) hx hb hK hP hwf hj9 (by decide) (by decide) rfl (fun _ => rfl) g11 d_Explorer_goOn_89 ?_
      obtain ⟨j12, e13, h⟩ := bd_ob h
      have hj12 : j12 < N 10 := (hwf.2.1 18 j9 ((mI M0 2 j1 6).toNatClampNeg) _ e13 (by decide) hj9)
      refine me_opt (j := j12) e13 ?_
      obtain ⟨M14, eM14, h⟩ := bd_ob h
      refine me_thenv0 (M1 := M14) (me_runV (C := "FilterGuard$Facts") (As := [.int x1, .ref (ad 10 j12)]) (rest := []) ⟨hx, hb, hml, hown, hts⟩ (c_Facts_reckon l D ad ca N M0 M14 j5 x1 j12 eM14 hwf hj5 hj12 _) rfl (by show fg_nm y_Facts_reckon 2; decide +kernel) u_1434 u_1435 u_1436 u_183 u_1437 ⟨Nat.le_of_ble_eq_true rfl, Nat.le_of_ble_eq_true rfl⟩ hX hz hK hP hD hwf hS hA hj5 (by decide) rfl rfl rfl hl.1 (Nat.le_of_ble_eq_true rfl) d_Explorer_goOn_90 (al_f hok)) hP hD hK hS hA rfl rfl (fun H locs hw hP hD hS => ?_)
      obtain ⟨hwf, hk9⟩ := hw
      refine lv_goto (tgt := 96) hx hb d_Explorer_goOn_93 (by decide) ?_
      refine lv_aload_n hx hb d_Explorer_goOn_96 rfl (lv_at hl 0 rfl) ?_
      refine g_Explorer_8 hx hb hts hown hK hP hwf hj0 (hts _ u_554) d_Explorer_goOn_97 ?_
      obtain ⟨j15, e16, h⟩ := bd_ob h
      have hj15 : j15 < N 9 := (hwf.2.1 4 j0 8 _ e16 (by decide) hj0)
      refine me_opt (j := j15) e16 ?_
      refine lv_aload_n hx hb d_Explorer_goOn_100 rfl (lv_at hl 0 rfl) ?_
      refine g_Explorer_0 hx hb hts hown hK hP hwf hj0 (hts _ u_546) d_Explorer_goOn_101 ?_
      obtain ⟨j17, e18, h⟩ := bd_ob h
      have hj17 : j17 < N 2 := (hwf.2.1 4 j0 0 _ e18 (by decide) hj0)
      refine me_opt (j := j17) e18 ?_
      refine lv_iload_n hx hb d_Explorer_goOn_104 rfl (lv_at hl 1 rfl) ?_
      obtain ⟨M19, r20, eM19, h⟩ := b2_ob h
      refine me_theni0 (M1 := M19) (me_runV (C := "FilterGuard$Code") (As := [.int x1]) (rest := [.ref (ad 9 j15)]) ⟨hx, hb, hml, hown, hts⟩ (c_Code_behind l D ad ca N M14 M19 r20 j17 x1 eM19 hwf hj17 _) rfl (by show fg_nm y_Code_behind 1; decide +kernel) u_1439 u_1440 u_1441 u_182 u_1442 ⟨Nat.le_of_ble_eq_true rfl, Nat.le_of_ble_eq_true rfl⟩ hX hz hK hP hD hwf hS hA hj17 (by decide) rfl rfl rfl hl.1 (Nat.le_of_ble_eq_true rfl) d_Explorer_goOn_105 (al_f hok)) hP hD hK hS hA rfl rfl (fun H locs hw hP hD hS => ?_)
      obtain ⟨hwf, hk9⟩ := hw
      obtain ⟨M21, eM21, h⟩ := st_ob h
      refine p_State_2 eM21 hx hb hts hown hK hP hD hwf hS hj15 (hts _ u_531) d_Explorer_goOn_108 (fun H locs hP hD hwf hS => ?_)
      refine lv_iconst (v := 0) hx hb d_Explorer_goOn_111 (by decide) ?_
      exact al_reti h hx hb hr hlocks hwf hok hext0 hP hK hD hS d_Explorer_goOn_112
    have h := if_f (fun z => n4 (ew3.trans z)) h
    by_cases n22 : w3 = 7
    · have h := if_t (ew3.symm.trans n22) h
      subst n22
      refine lv_tableIn (off := 46) (tgt := 53) hx hb d_Explorer_goOn_7 (by decide) (by decide) (by decide) (by decide) ?_
      refine lv_aload_n hx hb d_Explorer_goOn_53 rfl (lv_at hl 0 rfl) ?_
      refine g_Explorer_8 hx hb hts hown hK hP hwf hj0 (hts _ u_554) d_Explorer_goOn_54 ?_
      obtain ⟨j23, e24, h⟩ := bd_ob h
      have hj23 : j23 < N 9 := (hwf.2.1 4 j0 8 _ e24 (by decide) hj0)
      refine me_opt (j := j23) e24 ?_
      refine lv_aload_n hx hb d_Explorer_goOn_57 rfl (lv_at hl 0 rfl) ?_
      refine g_Explorer_0 hx hb hts hown hK hP hwf hj0 (hts _ u_546) d_Explorer_goOn_58 ?_
      refine me_opt (j := j1) e2 ?_
      refine lv_iload_n hx hb d_Explorer_goOn_61 rfl (lv_at hl 1 rfl) ?_
      obtain ⟨M25, r26, eM25, h⟩ := b2_ob h
      refine me_theni0 (M1 := M25) (me_runV (C := "FilterGuard$Code") (As := [.int x1]) (rest := [.ref (ad 9 j23)]) ⟨hx, hb, hml, hown, hts⟩ (c_Code_target l D ad ca N M0 M25 r26 j1 x1 eM25 hwf hj1 _) rfl (by show fg_nm y_Code_target 1; decide +kernel) u_1422 u_1005 u_1006 u_182 u_1007 ⟨Nat.le_of_ble_eq_true rfl, Nat.le_of_ble_eq_true rfl⟩ hX hz hK hP hD hwf hS hA hj1 (by decide) rfl rfl rfl hl.1 (Nat.le_of_ble_eq_true rfl) d_Explorer_goOn_62 (al_f hok)) hP hD hK hS hA rfl rfl (fun H locs hw hP hD hS => ?_)
      obtain ⟨hwf, hk9⟩ := hw
      obtain ⟨M27, eM27, h⟩ := st_ob h
      refine p_State_2 eM27 hx hb hts hown hK hP hD hwf hS hj23 (hts _ u_531) d_Explorer_goOn_65 (fun H locs hP hD hwf hS => ?_)
      refine lv_iconst (v := 0) hx hb d_Explorer_goOn_68 (by decide) ?_
      exact al_reti h hx hb hr hlocks hwf hok hext0 hP hK hD hS d_Explorer_goOn_69
    have h := if_f (fun z => n22 (ew3.trans z)) h
    by_cases n28 : w3 = 8
    · have h := if_t (ew3.symm.trans n28) h
      subst n28
      refine lv_tableIn (off := 33) (tgt := 40) hx hb d_Explorer_goOn_7 (by decide) (by decide) (by decide) (by decide) ?_
      refine lv_aload_n hx hb d_Explorer_goOn_40 rfl (lv_at hl 0 rfl) ?_
      refine lv_iload_n hx hb d_Explorer_goOn_41 rfl (lv_at hl 1 rfl) ?_
      obtain ⟨M29, r30, eM29, h⟩ := b2_ob h
      refine al_theni (M1 := M29) (al_runV (C := "FilterGuard$Explorer") (As := [.int x1]) (rest := []) ⟨hx, hb, hml, hown, hts⟩ (c_Explorer_part l D ad ca N M0 M29 r30 j0 x1 eM29 hwf ⟨hok.2.2.1, hok.2.2.2.1⟩ hj0 _) rfl (by show fg_nm y_Explorer_part 1; decide +kernel) u_1414 u_1416 u_54 u_184 u_1417 ⟨Nat.le_of_ble_eq_true rfl, Nat.le_of_ble_eq_true rfl⟩ hX hz hK hP hD hwf hS hA hj0 (by decide) rfl rfl rfl hl.1 (Nat.le_of_ble_eq_true rfl) d_Explorer_goOn_42 (al_g hok)) hP hD hok hK hS hA (fun ad N H locs hext hNN hwf hok1 heN hq9 hP hD hS => ?_)
      have hext0 := al_ext hext hext0 hok
      have hok := hok1
      have hl : lv_has ls 2 [(0, .ref (ad 4 j0)), (1, .int x1)] := by rw [hext 4 j0 hj0]; exact hl
      have hj0 : j0 < N 4 := Nat.lt_of_lt_of_le hj0 (hNN 4)
      exact al_reti h hx hb hr hlocks hwf hok hext0 hP hK hD hS d_Explorer_goOn_45
    have h := if_f (fun z => n28 (ew3.trans z)) h
    by_cases n31 : w3 = 9
    · have h := if_t (ew3.symm.trans n31) h
      subst n31
      refine lv_tableIn (off := 89) (tgt := 96) hx hb d_Explorer_goOn_7 (by decide) (by decide) (by decide) (by decide) ?_
      refine lv_aload_n hx hb d_Explorer_goOn_96 rfl (lv_at hl 0 rfl) ?_
      refine g_Explorer_8 hx hb hts hown hK hP hwf hj0 (hts _ u_554) d_Explorer_goOn_97 ?_
      obtain ⟨j32, e33, h⟩ := bd_ob h
      have hj32 : j32 < N 9 := (hwf.2.1 4 j0 8 _ e33 (by decide) hj0)
      refine me_opt (j := j32) e33 ?_
      refine lv_aload_n hx hb d_Explorer_goOn_100 rfl (lv_at hl 0 rfl) ?_
      refine g_Explorer_0 hx hb hts hown hK hP hwf hj0 (hts _ u_546) d_Explorer_goOn_101 ?_
      refine me_opt (j := j1) e2 ?_
      refine lv_iload_n hx hb d_Explorer_goOn_104 rfl (lv_at hl 1 rfl) ?_
      obtain ⟨M34, r35, eM34, h⟩ := b2_ob h
      refine me_theni0 (M1 := M34) (me_runV (C := "FilterGuard$Code") (As := [.int x1]) (rest := [.ref (ad 9 j32)]) ⟨hx, hb, hml, hown, hts⟩ (c_Code_behind l D ad ca N M0 M34 r35 j1 x1 eM34 hwf hj1 _) rfl (by show fg_nm y_Code_behind 1; decide +kernel) u_1439 u_1440 u_1441 u_182 u_1442 ⟨Nat.le_of_ble_eq_true rfl, Nat.le_of_ble_eq_true rfl⟩ hX hz hK hP hD hwf hS hA hj1 (by decide) rfl rfl rfl hl.1 (Nat.le_of_ble_eq_true rfl) d_Explorer_goOn_105 (al_f hok)) hP hD hK hS hA rfl rfl (fun H locs hw hP hD hS => ?_)
      obtain ⟨hwf, hk9⟩ := hw
      obtain ⟨M36, eM36, h⟩ := st_ob h
      refine p_State_2 eM36 hx hb hts hown hK hP hD hwf hS hj32 (hts _ u_531) d_Explorer_goOn_108 (fun H locs hP hD hwf hS => ?_)
      refine lv_iconst (v := 0) hx hb d_Explorer_goOn_111 (by decide) ?_
      exact al_reti h hx hb hr hlocks hwf hok hext0 hP hK hD hS d_Explorer_goOn_112
    have h := if_f (fun z => n31 (ew3.trans z)) h
    by_cases n37 : w3 = 10
    · have h := if_t (ew3.symm.trans n37) h
      subst n37
      refine lv_tableIn (off := 39) (tgt := 46) hx hb d_Explorer_goOn_7 (by decide) (by decide) (by decide) (by decide) ?_
      refine lv_aload_n hx hb d_Explorer_goOn_46 rfl (lv_at hl 0 rfl) ?_
      refine lv_iconst (v := 1) hx hb d_Explorer_goOn_47 (by decide) ?_
      obtain ⟨M38, eM38, h⟩ := st_ob h
      refine p_Explorer_10 eM38 hx hb hts hown hK hP hD hwf hS hj0 (by decide) (hts _ u_556) d_Explorer_goOn_48 (fun H locs hP hD hwf hS => ?_)
      refine lv_iconst (v := 0) hx hb d_Explorer_goOn_51 (by decide) ?_
      exact al_reti h hx hb hr hlocks hwf hok hext0 hP hK hD hS d_Explorer_goOn_52
    have h := if_f (fun z => n37 (ew3.trans z)) h
    have in4 := lv_neT n4 (show (6 : Int32).toInt = 6 from rfl)
    have in22 := lv_neT n22 (show (7 : Int32).toInt = 7 from rfl)
    have in28 := lv_neT n28 (show (8 : Int32).toInt = 8 from rfl)
    have in31 := lv_neT n31 (show (9 : Int32).toInt = 9 from rfl)
    have in37 := lv_neT n37 (show (10 : Int32).toInt = 10 from rfl)
    refine lv_tableOut (tgt := 96) hx hb d_Explorer_goOn_7 (by omega) (by decide) ?_
    refine lv_aload_n hx hb d_Explorer_goOn_96 rfl (lv_at hl 0 rfl) ?_
    refine g_Explorer_8 hx hb hts hown hK hP hwf hj0 (hts _ u_554) d_Explorer_goOn_97 ?_
    obtain ⟨j39, e40, h⟩ := bd_ob h
    have hj39 : j39 < N 9 := (hwf.2.1 4 j0 8 _ e40 (by decide) hj0)
    refine me_opt (j := j39) e40 ?_
    refine lv_aload_n hx hb d_Explorer_goOn_100 rfl (lv_at hl 0 rfl) ?_
    refine g_Explorer_0 hx hb hts hown hK hP hwf hj0 (hts _ u_546) d_Explorer_goOn_101 ?_
    refine me_opt (j := j1) e2 ?_
    refine lv_iload_n hx hb d_Explorer_goOn_104 rfl (lv_at hl 1 rfl) ?_
    obtain ⟨M41, r42, eM41, h⟩ := b2_ob h
    refine me_theni0 (M1 := M41) (me_runV (C := "FilterGuard$Code") (As := [.int x1]) (rest := [.ref (ad 9 j39)]) ⟨hx, hb, hml, hown, hts⟩ (c_Code_behind l D ad ca N M0 M41 r42 j1 x1 eM41 hwf hj1 _) rfl (by show fg_nm y_Code_behind 1; decide +kernel) u_1439 u_1440 u_1441 u_182 u_1442 ⟨Nat.le_of_ble_eq_true rfl, Nat.le_of_ble_eq_true rfl⟩ hX hz hK hP hD hwf hS hA hj1 (by decide) rfl rfl rfl hl.1 (Nat.le_of_ble_eq_true rfl) d_Explorer_goOn_105 (al_f hok)) hP hD hK hS hA rfl rfl (fun H locs hw hP hD hS => ?_)
    obtain ⟨hwf, hk9⟩ := hw
    obtain ⟨M43, eM43, h⟩ := st_ob h
    refine p_State_2 eM43 hx hb hts hown hK hP hD hwf hS hj39 (hts _ u_531) d_Explorer_goOn_108 (fun H locs hP hD hwf hS => ?_)
    refine lv_iconst (v := 0) hx hb d_Explorer_goOn_111 (by decide) ?_
    exact al_reti h hx hb hr hlocks hwf hok hext0 hP hK hD hS d_Explorer_goOn_112
  rw [hN9] at hcs
  exact hcs
