theorem d_G_map_38 : decode prog_1_method_4_code 38 = .ok (.istore 5, 2) := by decide +kernel
theorem d_G_map_40 : decode prog_1_method_4_code 40 = .ok (.iload 5, 2) := by decide +kernel
theorem d_G_map_42 : decode prog_1_method_4_code 42 = .ok (.ifCond .eq 27, 3) := by decide +kernel
theorem d_G_map_69 : decode prog_1_method_4_code 69 = .ok (.new 78, 3) := by decide +kernel
theorem d_G_map_45 : decode prog_1_method_4_code 45 = .ok (.iload_n 3, 1) := by decide +kernel
theorem d_G_map_46 : decode prog_1_method_4_code 46 = .ok (.iconst 1, 1) := by decide +kernel
theorem d_G_map_47 : decode prog_1_method_4_code 47 = .ok (.if_icmp .lt 22, 3) := by decide +kernel
theorem d_G_map_50 : decode prog_1_method_4_code 50 = .ok (.iload_n 3, 1) := by decide +kernel
theorem d_G_map_51 : decode prog_1_method_4_code 51 = .ok (.bipush 64, 2) := by decide +kernel
theorem d_G_map_53 : decode prog_1_method_4_code 53 = .ok (.if_icmp .gt 16, 3) := by decide +kernel
theorem d_G_map_56 : decode prog_1_method_4_code 56 = .ok (.iload 4, 2) := by decide +kernel
theorem d_G_map_58 : decode prog_1_method_4_code 58 = .ok (.iconst 1, 1) := by decide +kernel
theorem d_G_map_59 : decode prog_1_method_4_code 59 = .ok (.if_icmp .lt 10, 3) := by decide +kernel
theorem d_G_map_62 : decode prog_1_method_4_code 62 = .ok (.iload 4, 2) := by decide +kernel
theorem d_G_map_64 : decode prog_1_method_4_code 64 = .ok (.bipush 64, 2) := by decide +kernel
theorem d_G_map_66 : decode prog_1_method_4_code 66 = .ok (.if_icmp .le 13, 3) := by decide +kernel
theorem d_G_map_79 : decode prog_1_method_4_code 79 = .ok (.aload_n 0, 1) := by decide +kernel
theorem d_G_map_80 : decode prog_1_method_4_code 80 = .ok (.getfield 85, 3) := by decide +kernel
theorem u_696 : Cond.fieldLink "FilterGuard" 85 "FilterGuard" "maps" "I" ∈ fg_g := fg_in (List.mem_of_getElem? (i := 696) (by decide +kernel)) rfl
theorem g_G_3 {p : Program} {l : Launch} {e : Env} {R : Room} {s : Jvm.State} {m : MethodId} {args : Array Value} {below : List Frame} {meth : Method} {c : Code} {H : Heap} {locs : List Loc} {cells slots : Nat} {Q : Jvm.State → Prop} {cc : ByteArray} {pc : Nat} {ls : Array Slot} {rest : List Value} {D : va_G} {ad : Nat → Nat → Nat} {ca : Nat → ClassId} {M : me_M} {N : Nat → Nat} {own : String} {index j : Nat} (hexec : p.tables.exec = Jvm.exec) (hb : c.code = cc) (hts : ∀ w ∈ fg_g, w.before args s = true) (hown : s.vm.findClass own = some m.cls) (hK : va_K D classes (me_T ca) s) (hP : va_P D classes (me_W ad ca M) H) (hwf : me_wf N M) (hj : j < N 0) (hlink : (Cond.fieldLink own index "FilterGuard" "maps" "I").before args s = true) (hdg : decode cc pc = .ok (.getfield index, 3)) (kk : W p l e R s m args below meth c H locs cells slots Q (F0 m (pc + 3) ls (.int (mI M 0 j 3) :: rest))) : W p l e R s m args below meth c H locs cells slots Q (F0 m pc ls (.ref (ad 0 j) :: rest)) := me_get (k := 0) (f := 3) (C := "FilterGuard") (T := F_G) (Nf := 14) hexec hb hts i_G hown hK hP hwf hj (by decide) rfl (by decide) (by decide) hlink (fun _ h9 => h9) hdg kk
theorem d_G_map_83 : decode prog_1_method_4_code 83 = .ok (.iconst 4, 1) := by decide +kernel
theorem d_G_map_84 : decode prog_1_method_4_code 84 = .ok (.if_icmp .ge 10, 3) := by decide +kernel
theorem d_G_map_94 : decode prog_1_method_4_code 94 = .ok (.new 92, 3) := by decide +kernel
theorem d_G_map_87 : decode prog_1_method_4_code 87 = .ok (.aload_n 0, 1) := by decide +kernel
theorem d_G_map_88 : decode prog_1_method_4_code 88 = .ok (.getfield 88, 3) := by decide +kernel
theorem u_706 : Cond.fieldLink "FilterGuard" 88 "FilterGuard" "wasAccepted" "Z" ∈ fg_g := fg_in (List.mem_of_getElem? (i := 706) (by decide +kernel)) rfl
theorem g_G_13 {p : Program} {l : Launch} {e : Env} {R : Room} {s : Jvm.State} {m : MethodId} {args : Array Value} {below : List Frame} {meth : Method} {c : Code} {H : Heap} {locs : List Loc} {cells slots : Nat} {Q : Jvm.State → Prop} {cc : ByteArray} {pc : Nat} {ls : Array Slot} {rest : List Value} {D : va_G} {ad : Nat → Nat → Nat} {ca : Nat → ClassId} {M : me_M} {N : Nat → Nat} {own : String} {index j : Nat} (hexec : p.tables.exec = Jvm.exec) (hb : c.code = cc) (hts : ∀ w ∈ fg_g, w.before args s = true) (hown : s.vm.findClass own = some m.cls) (hK : va_K D classes (me_T ca) s) (hP : va_P D classes (me_W ad ca M) H) (hwf : me_wf N M) (hj : j < N 0) (hlink : (Cond.fieldLink own index "FilterGuard" "wasAccepted" "Z").before args s = true) (hdg : decode cc pc = .ok (.getfield index, 3)) (kk : W p l e R s m args below meth c H locs cells slots Q (F0 m (pc + 3) ls (.int (mI M 0 j 13) :: rest))) : W p l e R s m args below meth c H locs cells slots Q (F0 m pc ls (.ref (ad 0 j) :: rest)) := me_get (k := 0) (f := 13) (C := "FilterGuard") (T := F_G) (Nf := 14) hexec hb hts i_G hown hK hP hwf hj (by decide) rfl (by decide) (by decide) hlink (fun _ h9 => h9) hdg kk
theorem d_G_map_91 : decode prog_1_method_4_code 91 = .ok (.ifCond .eq 13, 3) := by decide +kernel
theorem d_G_map_104 : decode prog_1_method_4_code 104 = .ok (.aload_n 0, 1) := by decide +kernel
theorem d_G_map_105 : decode prog_1_method_4_code 105 = .ok (.getfield 15, 3) := by decide +kernel
theorem d_G_map_108 : decode prog_1_method_4_code 108 = .ok (.aload_n 0, 1) := by decide +kernel
theorem d_G_map_109 : decode prog_1_method_4_code 109 = .ok (.getfield 85, 3) := by decide +kernel
theorem d_G_map_112 : decode prog_1_method_4_code 112 = .ok (.new 13, 3) := by decide +kernel
theorem u_895 : Cond.instantiable "FilterGuard$Store" 7 ∈ fg_g := fg_in (List.mem_of_getElem? (i := 895) (by decide +kernel)) rfl
theorem u_201 : Cond.initialized "FilterGuard$Store" ∈ fg_g := fg_in (List.mem_of_getElem? (i := 201) (by decide +kernel)) rfl
theorem d_G_map_115 : decode prog_1_method_4_code 115 = .ok (.dup, 1) := by decide +kernel
theorem d_G_map_116 : decode prog_1_method_4_code 116 = .ok (.iload_n 1, 1) := by decide +kernel
theorem d_G_map_117 : decode prog_1_method_4_code 117 = .ok (.iload_n 2, 1) := by decide +kernel
theorem d_G_map_118 : decode prog_1_method_4_code 118 = .ok (.iload_n 3, 1) := by decide +kernel
theorem d_G_map_119 : decode prog_1_method_4_code 119 = .ok (.iload 4, 2) := by decide +kernel
theorem d_G_map_121 : decode prog_1_method_4_code 121 = .ok (.invokespecial 97, 3) := by decide +kernel
theorem u_896 : Cond.methodLink "FilterGuard" 97 ⟨"FilterGuard$Store", "<init>", "(IIII)V"⟩ ∈ fg_g := fg_in (List.mem_of_getElem? (i := 896) (by decide +kernel)) rfl
theorem u_898 : Cond.code ⟨"FilterGuard$Store", "<init>", "(IIII)V"⟩ prog_12_method_1_code 6 none ∈ fg_g := fg_in (List.mem_of_getElem? (i := 898) (by decide +kernel)) rfl
theorem u_897 : Cond.instanceMethod ⟨"FilterGuard$Store", "<init>", "(IIII)V"⟩ ∈ fg_g := fg_in (List.mem_of_getElem? (i := 897) (by decide +kernel)) rfl
theorem d_G_map_124 : decode prog_1_method_4_code 124 = .ok (.aastore, 1) := by decide +kernel
theorem d_G_map_125 : decode prog_1_method_4_code 125 = .ok (.aload_n 0, 1) := by decide +kernel
theorem d_G_map_126 : decode prog_1_method_4_code 126 = .ok (.dup, 1) := by decide +kernel
theorem d_G_map_127 : decode prog_1_method_4_code 127 = .ok (.getfield 85, 3) := by decide +kernel
theorem d_G_map_130 : decode prog_1_method_4_code 130 = .ok (.iconst 1, 1) := by decide +kernel
theorem d_G_map_131 : decode prog_1_method_4_code 131 = .ok (.iadd, 1) := by decide +kernel
theorem d_G_map_132 : decode prog_1_method_4_code 132 = .ok (.putfield 85, 3) := by decide +kernel
theorem p_G_3 {p : Program} {l : Launch} {e : Env} {R : Room} {s : Jvm.State} {m : MethodId} {args : Array Value} {below : List Frame} {meth : Method} {c : Code} {H : Heap} {locs : List Loc} {cells slots : Nat} {Q : Jvm.State → Prop} {cc : ByteArray} {pc : Nat} {ls : Array Slot} {rest : List Value} {D : va_G} {A : Nat → Prop} {H0 : Heap} {ad : Nat → Nat → Nat} {ca : Nat → ClassId} {M M1 : me_M} {N : Nat → Nat} {own : String} {index j : Nat} {v : Int32} (he : M1 = wI M 0 j 3 v) (hexec : p.tables.exec = Jvm.exec) (hb : c.code = cc) (hts : ∀ w ∈ fg_g, w.before args s = true) (hown : s.vm.findClass own = some m.cls) (hK : va_K D classes (me_T ca) s) (hP : va_P D classes (me_W ad ca M) H) (hD : va_D A (me_W ad ca M)) (hwf : me_wf N M) (hS : va_S A H0 H locs) (hj : j < N 0) (hlink : (Cond.fieldLink own index "FilterGuard" "maps" "I").before args s = true) (hdg : decode cc pc = .ok (.putfield index, 3)) (kk : ∀ (H1 : Heap) (locs1 : List Loc), va_P D classes (me_W ad ca M1) H1 → va_D A (me_W ad ca M1) → me_wf N M1 → va_S A H0 H1 locs1 → W p l e R s m args below meth c H1 locs1 cells slots Q (F0 m (pc + 3) ls rest)) : W p l e R s m args below meth c H locs cells slots Q (F0 m pc ls (.int v :: .ref (ad 0 j) :: rest)) := by
  subst he
  exact me_put (M1 := wI M 0 j 3 v) (k := 0) (f := 3) (C := "FilterGuard") (T := F_G) (Nf := 14) hexec hb hts i_G t_G t_G_ok n_G hown hK hP hD hwf hS hj (by decide) rfl (by decide) (by decide) hlink (fun _ h9 => h9) rfl rfl rfl rfl (fun a b h => me_wIE h) (me_fIw (by decide) (by decide)) hdg (fun H1 locs1 a1 a2 a3 => kk H1 locs1 a1 a2 (me_wfI hwf (fun z => absurd z (by decide)) (fun z => absurd z (by decide))) a3)
theorem d_G_map_135 : decode prog_1_method_4_code 135 = .ok (.aload_n 0, 1) := by decide +kernel
theorem d_G_map_136 : decode prog_1_method_4_code 136 = .ok (.getfield 85, 3) := by decide +kernel
theorem d_G_map_139 : decode prog_1_method_4_code 139 = .ok (.iconst 1, 1) := by decide +kernel
theorem d_G_map_140 : decode prog_1_method_4_code 140 = .ok (.isub, 1) := by decide +kernel
theorem d_G_map_141 : decode prog_1_method_4_code 141 = .ok (.ireturn, 1) := by decide +kernel
theorem d_G_map_37 : decode prog_1_method_4_code 37 = .ok (.iconst 0, 1) := by decide +kernel
theorem d_G_map_0 : decode prog_1_method_4_code 0 = .ok (.iload_n 1, 1) := by decide +kernel
theorem d_G_map_1 : decode prog_1_method_4_code 1 = .ok (.ifCond .ne 16, 3) := by decide +kernel
theorem d_G_map_17 : decode prog_1_method_4_code 17 = .ok (.iload_n 1, 1) := by decide +kernel
theorem d_G_map_18 : decode prog_1_method_4_code 18 = .ok (.iconst 1, 1) := by decide +kernel
theorem d_G_map_19 : decode prog_1_method_4_code 19 = .ok (.if_icmp .ne 18, 3) := by decide +kernel
theorem d_G_map_22 : decode prog_1_method_4_code 22 = .ok (.iload_n 2, 1) := by decide +kernel
theorem d_G_map_23 : decode prog_1_method_4_code 23 = .ok (.iconst 1, 1) := by decide +kernel
theorem d_G_map_24 : decode prog_1_method_4_code 24 = .ok (.if_icmp .lt 13, 3) := by decide +kernel
theorem d_G_map_27 : decode prog_1_method_4_code 27 = .ok (.iload_n 2, 1) := by decide +kernel
theorem d_G_map_28 : decode prog_1_method_4_code 28 = .ok (.bipush 16, 2) := by decide +kernel
theorem d_G_map_30 : decode prog_1_method_4_code 30 = .ok (.if_icmp .gt 7, 3) := by decide +kernel
theorem d_G_map_33 : decode prog_1_method_4_code 33 = .ok (.iconst 1, 1) := by decide +kernel
theorem d_G_map_34 : decode prog_1_method_4_code 34 = .ok (.goto 4, 3) := by decide +kernel
theorem d_G_map_4 : decode prog_1_method_4_code 4 = .ok (.iload_n 2, 1) := by decide +kernel
theorem d_G_map_5 : decode prog_1_method_4_code 5 = .ok (.iconst 4, 1) := by decide +kernel
theorem d_G_map_6 : decode prog_1_method_4_code 6 = .ok (.if_icmp .ne 7, 3) := by decide +kernel
theorem d_G_map_13 : decode prog_1_method_4_code 13 = .ok (.iconst 0, 1) := by decide +kernel
theorem d_G_map_14 : decode prog_1_method_4_code 14 = .ok (.goto 24, 3) := by decide +kernel
theorem d_G_map_9 : decode prog_1_method_4_code 9 = .ok (.iconst 1, 1) := by decide +kernel
theorem d_G_map_10 : decode prog_1_method_4_code 10 = .ok (.goto 28, 3) := by decide +kernel
abbrev y_G_map : MethodName := ⟨"FilterGuard", "map", "(IIII)I"⟩
theorem o_853 : Cond.stringRef "FilterGuard" 80 "no such map can be" ∈ lw_tbl := List.mem_of_getElem? (i := 853) (by decide +kernel)
theorem d_G_map_72 : decode prog_1_method_4_code 72 = .ok (.dup, 1) := by decide +kernel
theorem d_G_map_73 : decode prog_1_method_4_code 73 = .ok (.ldc 80, 2) := by decide +kernel
theorem d_G_map_75 : decode prog_1_method_4_code 75 = .ok (.invokespecial 82, 3) := by decide +kernel
theorem d_G_map_78 : decode prog_1_method_4_code 78 = .ok (.athrow, 1) := by decide +kernel
theorem a_G_82 : ∀ w ∈ Bundle.ownAtoms "FilterGuard" 82 "java/lang/IllegalArgumentException" fg_up, (w ∈ lw_tbl ∨ w = .isRef (.static Bundle.tN "UNASSIGNED_STACK" Bundle.steD) ∨ w = .isRef (.static Bundle.tN "SUPPRESSED_SENTINEL" Bundle.listD)) ∧ fg_exq w = true := by decide +kernel
theorem u_812 : Cond.classLink "FilterGuard" 78 "java/lang/IllegalArgumentException" ∈ fg_g := fg_in (List.mem_of_getElem? (i := 812) (by decide +kernel)) rfl
theorem u_199 : Cond.initialized "java/lang/IllegalArgumentException" ∈ fg_g := fg_in (List.mem_of_getElem? (i := 199) (by decide +kernel)) rfl
theorem o_888 : Cond.stringRef "FilterGuard" 94 "no more maps" ∈ lw_tbl := List.mem_of_getElem? (i := 888) (by decide +kernel)
theorem d_G_map_97 : decode prog_1_method_4_code 97 = .ok (.dup, 1) := by decide +kernel
theorem d_G_map_98 : decode prog_1_method_4_code 98 = .ok (.ldc 94, 2) := by decide +kernel
theorem d_G_map_100 : decode prog_1_method_4_code 100 = .ok (.invokespecial 96, 3) := by decide +kernel
theorem d_G_map_103 : decode prog_1_method_4_code 103 = .ok (.athrow, 1) := by decide +kernel
theorem a_G_96 : ∀ w ∈ Bundle.ownAtoms "FilterGuard" 96 "java/lang/IllegalStateException" fg_up, (w ∈ lw_tbl ∨ w = .isRef (.static Bundle.tN "UNASSIGNED_STACK" Bundle.steD) ∨ w = .isRef (.static Bundle.tN "SUPPRESSED_SENTINEL" Bundle.listD)) ∧ fg_exq w = true := by decide +kernel
theorem u_879 : Cond.classLink "FilterGuard" 92 "java/lang/IllegalStateException" ∈ fg_g := fg_in (List.mem_of_getElem? (i := 879) (by decide +kernel)) rfl
theorem u_200 : Cond.initialized "java/lang/IllegalStateException" ∈ fg_g := fg_in (List.mem_of_getElem? (i := 200) (by decide +kernel)) rfl
def rm_G_map (N0 : Nat → Nat) : Room := { frames := 2, cells := me_CL - me_cN N0, slots := me_SL - me_sN N0, locals := 55 }
abbrev q_G_map (D : va_G) (ad0 : Nat → Nat → Nat) (ca : Nat → ClassId) (N0 : Nat → Nat) (MZ : me_M) (RZ : Int32) (A : Nat → Prop) : Array Value → Jvm.State → Outcome → Jvm.State → Prop := va_Qi (fun r (u : Nat → Nat → Nat) => r = RZ ∧ al_P ad0 N0 MZ u ∧ True) (fg_B D A (fun u => me_W u ca MZ) (fun _ => [])) A
set_option maxHeartbeats 4000000 in
set_option maxRecDepth 100000 in
theorem c_G_map (l : Launch) (D : va_G) (ad0 : Nat → Nat → Nat) (ca : Nat → ClassId) (N0 : Nat → Nat) (M0 MZ : me_M) (RZ : Int32) (j0 : Nat) (x1 : Int32) (x2 : Int32) (x3 : Int32) (x4 : Int32) (h : f_G_map M0 j0 x1 x2 x3 x4 = (some (MZ, RZ))) (hwf : me_wf N0 M0) (hcl : me_cN N0 ≤ me_CL ∧ me_sN N0 ≤ me_SL) (hj0 : j0 < N0 0) (sz : Nat) : Met l y_G_map (fg_w y_G_map prog_1_method_4_code 6 (some .int)) (rm_G_map N0) (va_Pc [.ref (ad0 0 j0), .int x1, .int x2, .int x3, .int x4] (fz_P D (me_T ca) (me_W ad0 ca M0) sz)) (q_G_map D ad0 ca N0 MZ RZ (va_A (me_W ad0 ca M0) sz)) (me_cN (mN MZ) - me_cN N0) (me_sN (mN MZ) - me_sN N0) (va_A (me_W ad0 ca M0) sz) := by
  refine fz_enter (fun A => q_G_map D ad0 ca N0 MZ RZ A) (by decide +kernel) (Nat.le_of_ble_eq_true rfl) ?_
  intro p e s m below meth c ls A hx hb hml hown hts hr hlocks hin hP hK hD hS hA hX hl hz
  refine W.widen (k := me_cN N0 - me_cN N0) (n := me_sN N0 - me_sN N0) (Nat.zero_le _) (Nat.zero_le _) ?_
  unfold f_G_map at h
  have hok : me_ok N0 N0 := me_ok.rf hcl
  have b_38 : ∀ (ad : Nat → Nat → Nat) (N : Nat → Nat) (M : me_M) (s0 : Int32) (H : Heap) (locs : List Loc) (ls : Array Slot), f_G_map_b38 j0 x1 x2 x3 x4 M s0 = (some (MZ, RZ)) → (s0 = 1 ∨ s0 = 0) → me_wf N M → me_ok N0 N → (∀ a b, b < N0 a → ad a b = ad0 a b) → va_P D classes (me_W ad ca M) H → va_D A (me_W ad ca M) → va_S A s.heap H locs → lv_has ls 6 [(0, .ref (ad 0 j0)), (1, .int x1), (2, .int x2), (3, .int x3), (4, .int x4)] → W p l e (rm_G_map N0) s m [.ref (ad0 0 j0), .int x1, .int x2, .int x3, .int x4].toArray below meth c H locs (me_cN N - me_cN N0) (me_sN N - me_sN N0) (MQ below (q_G_map D ad0 ca N0 MZ RZ A) [.ref (ad0 0 j0), .int x1, .int x2, .int x3, .int x4].toArray s (me_cN (mN MZ) - me_cN N0) (me_sN (mN MZ) - me_sN N0) A) (F0 m 38 ls [.int s0]) := by
    intro ad N M s0 H locs ls h zs0 hwf hok hext0 hP hD hS hl
    unfold f_G_map_b38 at h
    have hj0 : j0 < N 0 := Nat.lt_of_lt_of_le hj0 (hok.2.2.2.2 0)
    refine lv_istore (lv' := [(5, .int s0), (0, .ref (ad 0 j0)), (1, .int x1), (2, .int x2), (3, .int x3), (4, .int x4)]) hx hb d_G_map_38 hl (by decide) rfl (fun ls hl => ?_)
    refine lv_iload hx hb d_G_map_40 (lv_at hl 0 rfl) ?_
    refine lv_if_eq (tgt := 69) hx hb d_G_map_42 (by decide) (fun c1 => ?_) (fun c1 => ?_)
    · have h := if_t c1 h
      exact absurd h (by simp)
    have h := if_f c1 h
    refine lv_iload_n hx hb d_G_map_45 rfl (lv_at hl 4 rfl) ?_
    refine lv_iconst (v := 1) hx hb d_G_map_46 (by decide) ?_
    refine lv_icmp_lt (tgt := 69) hx hb d_G_map_47 (by decide) (fun c2 => ?_) (fun c2 => ?_)
    · have h := if_t c2 h
      exact absurd h (by simp)
    have h := if_f c2 h
    refine lv_iload_n hx hb d_G_map_50 rfl (lv_at hl 4 rfl) ?_
    refine lv_bipush (v := 64) hx hb d_G_map_51 (by decide) ?_
    refine lv_icmp_gt (tgt := 69) hx hb d_G_map_53 (by decide) (fun c3 => ?_) (fun c3 => ?_)
    · have h := if_t c3 h
      exact absurd h (by simp)
    have h := if_f c3 h
    refine lv_iload hx hb d_G_map_56 (lv_at hl 5 rfl) ?_
    refine lv_iconst (v := 1) hx hb d_G_map_58 (by decide) ?_
    refine lv_icmp_lt (tgt := 69) hx hb d_G_map_59 (by decide) (fun c4 => ?_) (fun c4 => ?_)
    · have h := if_t c4 h
      exact absurd h (by simp)
    have h := if_f c4 h
    refine lv_iload hx hb d_G_map_62 (lv_at hl 5 rfl) ?_
    refine lv_bipush (v := 64) hx hb d_G_map_64 (by decide) ?_
    refine lv_icmp_le (tgt := 79) hx hb d_G_map_66 (by decide) (fun c5 => ?_) (fun c5 => ?_)
    · have h := if_t c5 h
      refine lv_aload_n hx hb d_G_map_79 rfl (lv_at hl 1 rfl) ?_
      refine g_G_3 hx hb hts hown hK hP hwf hj0 (hts _ u_696) d_G_map_80 ?_
      refine lv_iconst (v := 4) hx hb d_G_map_83 (by decide) ?_
      refine lv_icmp_ge (tgt := 94) hx hb d_G_map_84 (by decide) (fun c6 => ?_) (fun c6 => ?_)
      · have h := if_t c6 h
        exact absurd h (by simp)
      have h := if_f c6 h
      refine lv_aload_n hx hb d_G_map_87 rfl (lv_at hl 1 rfl) ?_
      refine g_G_13 hx hb hts hown hK hP hwf hj0 (hts _ u_706) d_G_map_88 ?_
      have z7 := (hwf.2.2.2 0 j0 13 rfl)
      refine lv_if_eq (tgt := 104) hx hb d_G_map_91 (by decide) (fun c8 => ?_) (fun c8 => ?_)
      · have h := if_t c8 h
        refine lv_aload_n hx hb d_G_map_104 rfl (lv_at hl 1 rfl) ?_
        refine g_G_2 hx hb hts hown hK hP hwf hj0 (hts _ u_695) d_G_map_105 ?_
        obtain ⟨j9, e10, h⟩ := bd_ob h
        have hj9 : j9 < N 19 := (hwf.2.1 0 j0 2 _ e10 (by decide) hj0)
        refine me_opt (j := j9) e10 ?_
        refine lv_aload_n hx hb d_G_map_108 rfl (lv_at hl 1 rfl) ?_
        refine g_G_3 hx hb hts hown hK hP hwf hj0 (hts _ u_696) d_G_map_109 ?_
        obtain ⟨g11, h⟩ := gd_ob h
        obtain ⟨M12, eM12, h⟩ := st_ob h
        refine al_new (k := 12) (fs := [.int 0, .int 0, .int 0, .int 0, .null, .null, .null]) (C := "FilterGuard$Store") (T := F_Store) (Nf := 7) eM12 g11 hx hb hts i_Store t_Store t_Store_ok hown (hts _ u_212) (hts _ u_895) (hts _ u_201) hK hP hD hwf hok hS hA (by decide) rfl (by decide) z_Store rfl rfl rfl d_G_map_112 (fun ad N H hext hNN hn13 hwf hok1 hP hD hS => ?_)
        have hext0 := al_ext hext hext0 hok
        have hok := hok1
        have hl : lv_has ls 6 [(5, .int s0), (0, .ref (ad 0 j0)), (1, .int x1), (2, .int x2), (3, .int x3), (4, .int x4)] := by rw [hext 0 j0 hj0]; exact hl
        refine W.eq (g2 := F0 m 115 ls [.ref (ad 12 (mN M 12)), .int (mI M 0 j0 3), .ref (ad 19 j9)]) (by rw [hext 19 j9 hj9]) ?_
        have hj0 : j0 < N 0 := Nat.lt_of_lt_of_le hj0 (hNN 0)
        have hj9 : j9 < N 19 := Nat.lt_of_lt_of_le hj9 (hNN 19)
        refine lv_dup hx hb d_G_map_115 rfl ?_
        refine lv_iload_n hx hb d_G_map_116 rfl (lv_at hl 2 rfl) ?_
        refine lv_iload_n hx hb d_G_map_117 rfl (lv_at hl 3 rfl) ?_
        refine lv_iload_n hx hb d_G_map_118 rfl (lv_at hl 4 rfl) ?_
        refine lv_iload hx hb d_G_map_119 (lv_at hl 5 rfl) ?_
        obtain ⟨M14, eM14, h⟩ := bd_ob h
        refine al_thenv (M1 := M14) (al_runI (As := [.int x1, .int x2, .int x3, .int x4]) (rest := [.ref (ad 12 (mN M 12)), .int (mI M 0 j0 3), .ref (ad 19 j9)]) ⟨hx, hb, hml, hown, hts⟩ (c_Store_init l D ad ca N M12 M14 (mN M 12) x1 x2 x3 x4 eM14 hwf ⟨hok.2.2.1, hok.2.2.2.1⟩ hn13 _) rfl (by show fg_nm y_Store_init 4; decide +kernel) u_896 u_897 u_201 u_898 ⟨Nat.le_of_ble_eq_true rfl, Nat.le_of_ble_eq_true rfl⟩ hX hz hK hP hD hS hA rfl hl.1 (Nat.le_of_ble_eq_true rfl) d_G_map_121 (al_g hok)) hP hD hok hK hS hA (fun ad N H locs hext hNN hwf hok1 heN hq9 hP hD hS => ?_)
        have hext0 := al_ext hext hext0 hok
        have hok := hok1
        have hl : lv_has ls 6 [(5, .int s0), (0, .ref (ad 0 j0)), (1, .int x1), (2, .int x2), (3, .int x3), (4, .int x4)] := by rw [hext 0 j0 hj0]; exact hl
        refine W.eq (g2 := F0 m 124 ls [.ref (ad 12 (mN M 12)), .int (mI M 0 j0 3), .ref (ad 19 j9)]) (by rw [hext 12 (mN M 12) hn13, hext 19 j9 hj9]) ?_
        have hj0 : j0 < N 0 := Nat.lt_of_lt_of_le hj0 (hNN 0)
        have hn13 : (mN M 12) < N 12 := Nat.lt_of_lt_of_le hn13 (hNN 12)
        have hj9 : j9 < N 19 := Nat.lt_of_lt_of_le hj9 (hNN 19)
        obtain ⟨g15, h⟩ := gd_ob h
        obtain ⟨M16, eM16, h⟩ := st_ob h
        refine me_aast (k := 19) (t := 12) eM16 hx hb hK hP hD hwf hS hj9 hn13 (by decide) (by decide) (by decide) rfl rfl (fun _ => rfl) g15 d_G_map_124 (fun H locs hP hD hwf hS => ?_)
        refine lv_aload_n hx hb d_G_map_125 rfl (lv_at hl 1 rfl) ?_
        refine lv_dup hx hb d_G_map_126 rfl ?_
        refine g_G_3 hx hb hts hown hK hP hwf hj0 (hts _ u_696) d_G_map_127 ?_
        refine lv_iconst (v := 1) hx hb d_G_map_130 (by decide) ?_
        refine lv_iadd hx hb d_G_map_131 ?_
        obtain ⟨M17, eM17, h⟩ := st_ob h
        refine p_G_3 eM17 hx hb hts hown hK hP hD hwf hS hj0 (hts _ u_696) d_G_map_132 (fun H locs hP hD hwf hS => ?_)
        refine lv_aload_n hx hb d_G_map_135 rfl (lv_at hl 1 rfl) ?_
        refine g_G_3 hx hb hts hown hK hP hwf hj0 (hts _ u_696) d_G_map_136 ?_
        refine lv_iconst (v := 1) hx hb d_G_map_139 (by decide) ?_
        refine lv_isub hx hb d_G_map_140 ?_
        exact al_reti h hx hb hr hlocks hwf hok hext0 hP hK hD hS d_G_map_141
      have h := if_f c8 h
      exact absurd h (by simp)
    have h := if_f c5 h
    exact absurd h (by simp)
  have b_37 : ∀ (ad : Nat → Nat → Nat) (N : Nat → Nat) (M : me_M) (H : Heap) (locs : List Loc) (ls : Array Slot), f_G_map_b37 j0 x1 x2 x3 x4 M = (some (MZ, RZ)) → me_wf N M → me_ok N0 N → (∀ a b, b < N0 a → ad a b = ad0 a b) → va_P D classes (me_W ad ca M) H → va_D A (me_W ad ca M) → va_S A s.heap H locs → lv_has ls 6 [(0, .ref (ad 0 j0)), (1, .int x1), (2, .int x2), (3, .int x3), (4, .int x4)] → W p l e (rm_G_map N0) s m [.ref (ad0 0 j0), .int x1, .int x2, .int x3, .int x4].toArray below meth c H locs (me_cN N - me_cN N0) (me_sN N - me_sN N0) (MQ below (q_G_map D ad0 ca N0 MZ RZ A) [.ref (ad0 0 j0), .int x1, .int x2, .int x3, .int x4].toArray s (me_cN (mN MZ) - me_cN N0) (me_sN (mN MZ) - me_sN N0) A) (F0 m 37 ls []) := by
    intro ad N M H locs ls h hwf hok hext0 hP hD hS hl
    unfold f_G_map_b37 at h
    have hj0 : j0 < N 0 := Nat.lt_of_lt_of_le hj0 (hok.2.2.2.2 0)
    refine lv_iconst (v := 0) hx hb d_G_map_37 (by decide) ?_
    exact b_38 ad N M (0 : Int32) _ _ _ h (by decide) hwf hok hext0 hP hD hS (lv_sub hl [0, 1, 2, 3, 4] rfl)
  obtain ⟨ad, N, hext0, hok, hwf, hP, hD, hN9, had9, hj0⟩ : ∃ (ad : Nat → Nat → Nat) (N : Nat → Nat), (∀ a b, b < N0 a → ad a b = ad0 a b) ∧ me_ok N0 N ∧ me_wf N M0 ∧ va_P D classes (me_W ad ca M0) s.heap ∧ va_D A (me_W ad ca M0) ∧ N = N0 ∧ ad = ad0 ∧ j0 < N 0 := ⟨ad0, N0, fun _ _ _ => rfl, hok, hwf, hP, hD, rfl, rfl, hj0⟩
  have hl : lv_has ls 6 [(0, .ref (ad 0 j0)), (1, .int x1), (2, .int x2), (3, .int x3), (4, .int x4)] := by rw [had9]; exact hl
  have hcs : W p l e (rm_G_map N0) s m [.ref (ad0 0 j0), .int x1, .int x2, .int x3, .int x4].toArray below meth c s.heap [] (me_cN N - me_cN N0) (me_sN N - me_sN N0) (MQ below (q_G_map D ad0 ca N0 MZ RZ A) [.ref (ad0 0 j0), .int x1, .int x2, .int x3, .int x4].toArray s (me_cN (mN MZ) - me_cN N0) (me_sN (mN MZ) - me_sN N0) A) (F0 m 0 ls []) := by
    clear had9
    refine lv_iload_n hx hb d_G_map_0 rfl (lv_at hl 1 rfl) ?_
    refine lv_if_ne (tgt := 17) hx hb d_G_map_1 (by decide) (fun c18 => ?_) (fun c18 => ?_)
    · have h := if_f c18 h
      refine lv_iload_n hx hb d_G_map_17 rfl (lv_at hl 1 rfl) ?_
      refine lv_iconst (v := 1) hx hb d_G_map_18 (by decide) ?_
      refine lv_icmp_ne (tgt := 37) hx hb d_G_map_19 (by decide) (fun c19 => ?_) (fun c19 => ?_)
      · have h := if_f c19 h
        exact b_37 ad N M0 _ _ _ h hwf hok hext0 hP hD hS (lv_sub hl [0, 1, 2, 3, 4] rfl)
      have h := if_t c19 h
      refine lv_iload_n hx hb d_G_map_22 rfl (lv_at hl 2 rfl) ?_
      refine lv_iconst (v := 1) hx hb d_G_map_23 (by decide) ?_
      refine lv_icmp_lt (tgt := 37) hx hb d_G_map_24 (by decide) (fun c20 => ?_) (fun c20 => ?_)
      · have h := if_t c20 h
        exact b_37 ad N M0 _ _ _ h hwf hok hext0 hP hD hS (lv_sub hl [0, 1, 2, 3, 4] rfl)
      have h := if_f c20 h
      refine lv_iload_n hx hb d_G_map_27 rfl (lv_at hl 2 rfl) ?_
      refine lv_bipush (v := 16) hx hb d_G_map_28 (by decide) ?_
      refine lv_icmp_gt (tgt := 37) hx hb d_G_map_30 (by decide) (fun c21 => ?_) (fun c21 => ?_)
      · have h := if_t c21 h
        exact b_37 ad N M0 _ _ _ h hwf hok hext0 hP hD hS (lv_sub hl [0, 1, 2, 3, 4] rfl)
      have h := if_f c21 h
      refine lv_iconst (v := 1) hx hb d_G_map_33 (by decide) ?_
      refine lv_goto (tgt := 38) hx hb d_G_map_34 (by decide) ?_
      exact b_38 ad N M0 (1 : Int32) _ _ _ h (by decide) hwf hok hext0 hP hD hS (lv_sub hl [0, 1, 2, 3, 4] rfl)
    have h := if_t c18 h
    refine lv_iload_n hx hb d_G_map_4 rfl (lv_at hl 2 rfl) ?_
    refine lv_iconst (v := 4) hx hb d_G_map_5 (by decide) ?_
    refine lv_icmp_ne (tgt := 13) hx hb d_G_map_6 (by decide) (fun c22 => ?_) (fun c22 => ?_)
    · have h := if_f c22 h
      refine lv_iconst (v := 0) hx hb d_G_map_13 (by decide) ?_
      refine lv_goto (tgt := 38) hx hb d_G_map_14 (by decide) ?_
      exact b_38 ad N M0 (0 : Int32) _ _ _ h (by decide) hwf hok hext0 hP hD hS (lv_sub hl [0, 1, 2, 3, 4] rfl)
    have h := if_t c22 h
    refine lv_iconst (v := 1) hx hb d_G_map_9 (by decide) ?_
    refine lv_goto (tgt := 38) hx hb d_G_map_10 (by decide) ?_
    exact b_38 ad N M0 (1 : Int32) _ _ _ h (by decide) hwf hok hext0 hP hD hS (lv_sub hl [0, 1, 2, 3, 4] rfl)
  rw [hN9] at hcs
  exact hcs
def rmT1_G_map : Room := { frames := 6, cells := 1, slots := 6, locals := 100 }
abbrev qT1_G_map (D : va_G) (ad : Nat → Nat → Nat) (ca : Nat → ClassId) (N : Nat → Nat) (M0 MZ : me_M) (A : Nat → Prop) : Array Value → Jvm.State → Outcome → Jvm.State → Prop := fg_Qt "java/lang/IllegalArgumentException" (fun (_ : Unit) => me_wf N MZ ∧ me_kz M0 MZ) (fg_B D A (fun _ => me_W ad ca MZ) (fun _ => [])) A
set_option maxHeartbeats 4000000 in
set_option maxRecDepth 100000 in
theorem cT1_G_map (l : Launch) (hl9 : l.stackTraces = false) (D : va_G) (ad : Nat → Nat → Nat) (ca : Nat → ClassId) (N : Nat → Nat) (M0 MZ : me_M) (j0 : Nat) (x1 : Int32) (x2 : Int32) (x3 : Int32) (x4 : Int32) (h : fT1_G_map M0 j0 x1 x2 x3 x4 = (some MZ)) (hwf : me_wf N M0) (hj0 : j0 < N 0) (sz : Nat) : fg_MetT l y_G_map (fg_w y_G_map prog_1_method_4_code 6 (some .int)) rmT1_G_map (va_Pc [.ref (ad 0 j0), .int x1, .int x2, .int x3, .int x4] (fg_PZ D (me_T ca) (me_W ad ca M0) sz)) (qT1_G_map D ad ca N M0 MZ (va_A (me_W ad ca M0) sz)) rmT1_G_map.cells rmT1_G_map.slots (va_A (me_W ad ca M0) sz) := by
  refine fg_enterT (fun A => qT1_G_map D ad ca N M0 MZ A) (by decide +kernel) (Nat.le_of_ble_eq_true rfl) ?_
  intro p e s m below meth c ls A hx hb hml hown hts hr hlocks hin hP hK hD hS hA hX hl hno hz hy
  have hz0 := hz.1
  have hz := hz.2
  have hl : lv_has ls 6 [(0, .ref (ad 0 j0)), (1, .int x1), (2, .int x2), (3, .int x3), (4, .int x4)] := hl
  unfold fT1_G_map at h
  have hkp : me_kz M0 M0 := me_kz.rf
  have hkb := hkp
  have b_38 : ∀ (M : me_M) (s0 : Int32) (H : Heap) (locs : List Loc) (ls : Array Slot), fT1_G_map_b38 j0 x1 x2 x3 x4 M s0 = (some MZ) → (s0 = 1 ∨ s0 = 0) → me_wf N M → me_kz M0 M → va_P D classes (me_W ad ca M) H → va_D A (me_W ad ca M) → va_S A s.heap H locs → lv_has ls 6 [(0, .ref (ad 0 j0)), (1, .int x1), (2, .int x2), (3, .int x3), (4, .int x4)] → W p l e rmT1_G_map s m [.ref (ad 0 j0), .int x1, .int x2, .int x3, .int x4].toArray below meth c H locs 0 0 (fg_MQT below (qT1_G_map D ad ca N M0 MZ A) [.ref (ad 0 j0), .int x1, .int x2, .int x3, .int x4].toArray s rmT1_G_map.cells rmT1_G_map.slots A) (F0 m 38 ls [.int s0]) := by
    intro M s0 H locs ls h zs0 hwf hkp hP hD hS hl
    unfold fT1_G_map_b38 at h
    have hkb := hkp
    refine lv_istore (lv' := [(5, .int s0), (0, .ref (ad 0 j0)), (1, .int x1), (2, .int x2), (3, .int x3), (4, .int x4)]) hx hb d_G_map_38 hl (by decide) rfl (fun ls hl => ?_)
    refine lv_iload hx hb d_G_map_40 (lv_at hl 0 rfl) ?_
    refine lv_if_eq (tgt := 69) hx hb d_G_map_42 (by decide) (fun c1 => ?_) (fun c1 => ?_)
    · have h := if_t c1 h
      obtain ⟨hwf, hkp, hP, hD⟩ := me_sub1 (me_kz M0) h hwf hkp hP hD
      obtain ⟨qs2, hqs2⟩ := hy.1 _ _ _ o_853
      exact fg_throw (X := "java/lang/IllegalArgumentException") (names := fg_up) () hl9 hx hb hno hlocks hown hts hX hz0 hqs2 (by decide +kernel) (by decide +kernel) a_G_82 u_812 u_199 ⟨hwf, hkp⟩ hP (hK.sub (tys' := []) [] rfl) hD hS (hl.1.trans hml.symm) (Nat.lt_of_lt_of_le (Nat.lt_succ_self 5) (Nat.le_of_ble_eq_true rfl)) (Nat.le_of_ble_eq_true rfl) (Nat.le_of_ble_eq_true rfl) (Nat.le_of_ble_eq_true rfl) (Nat.le_of_ble_eq_true rfl) (Nat.le_of_ble_eq_true rfl) d_G_map_69 d_G_map_72 d_G_map_73 d_G_map_75 d_G_map_78
    have h := if_f c1 h
    refine lv_iload_n hx hb d_G_map_45 rfl (lv_at hl 4 rfl) ?_
    refine lv_iconst (v := 1) hx hb d_G_map_46 (by decide) ?_
    refine lv_icmp_lt (tgt := 69) hx hb d_G_map_47 (by decide) (fun c3 => ?_) (fun c3 => ?_)
    · have h := if_t c3 h
      obtain ⟨hwf, hkp, hP, hD⟩ := me_sub1 (me_kz M0) h hwf hkp hP hD
      obtain ⟨qs4, hqs4⟩ := hy.1 _ _ _ o_853
      exact fg_throw (X := "java/lang/IllegalArgumentException") (names := fg_up) () hl9 hx hb hno hlocks hown hts hX hz0 hqs4 (by decide +kernel) (by decide +kernel) a_G_82 u_812 u_199 ⟨hwf, hkp⟩ hP (hK.sub (tys' := []) [] rfl) hD hS (hl.1.trans hml.symm) (Nat.lt_of_lt_of_le (Nat.lt_succ_self 5) (Nat.le_of_ble_eq_true rfl)) (Nat.le_of_ble_eq_true rfl) (Nat.le_of_ble_eq_true rfl) (Nat.le_of_ble_eq_true rfl) (Nat.le_of_ble_eq_true rfl) (Nat.le_of_ble_eq_true rfl) d_G_map_69 d_G_map_72 d_G_map_73 d_G_map_75 d_G_map_78
    have h := if_f c3 h
    refine lv_iload_n hx hb d_G_map_50 rfl (lv_at hl 4 rfl) ?_
    refine lv_bipush (v := 64) hx hb d_G_map_51 (by decide) ?_
    refine lv_icmp_gt (tgt := 69) hx hb d_G_map_53 (by decide) (fun c5 => ?_) (fun c5 => ?_)
    · have h := if_t c5 h
      obtain ⟨hwf, hkp, hP, hD⟩ := me_sub1 (me_kz M0) h hwf hkp hP hD
      obtain ⟨qs6, hqs6⟩ := hy.1 _ _ _ o_853
      exact fg_throw (X := "java/lang/IllegalArgumentException") (names := fg_up) () hl9 hx hb hno hlocks hown hts hX hz0 hqs6 (by decide +kernel) (by decide +kernel) a_G_82 u_812 u_199 ⟨hwf, hkp⟩ hP (hK.sub (tys' := []) [] rfl) hD hS (hl.1.trans hml.symm) (Nat.lt_of_lt_of_le (Nat.lt_succ_self 5) (Nat.le_of_ble_eq_true rfl)) (Nat.le_of_ble_eq_true rfl) (Nat.le_of_ble_eq_true rfl) (Nat.le_of_ble_eq_true rfl) (Nat.le_of_ble_eq_true rfl) (Nat.le_of_ble_eq_true rfl) d_G_map_69 d_G_map_72 d_G_map_73 d_G_map_75 d_G_map_78
    have h := if_f c5 h
    refine lv_iload hx hb d_G_map_56 (lv_at hl 5 rfl) ?_
    refine lv_iconst (v := 1) hx hb d_G_map_58 (by decide) ?_
    refine lv_icmp_lt (tgt := 69) hx hb d_G_map_59 (by decide) (fun c7 => ?_) (fun c7 => ?_)
    · have h := if_t c7 h
      obtain ⟨hwf, hkp, hP, hD⟩ := me_sub1 (me_kz M0) h hwf hkp hP hD
      obtain ⟨qs8, hqs8⟩ := hy.1 _ _ _ o_853
      exact fg_throw (X := "java/lang/IllegalArgumentException") (names := fg_up) () hl9 hx hb hno hlocks hown hts hX hz0 hqs8 (by decide +kernel) (by decide +kernel) a_G_82 u_812 u_199 ⟨hwf, hkp⟩ hP (hK.sub (tys' := []) [] rfl) hD hS (hl.1.trans hml.symm) (Nat.lt_of_lt_of_le (Nat.lt_succ_self 5) (Nat.le_of_ble_eq_true rfl)) (Nat.le_of_ble_eq_true rfl) (Nat.le_of_ble_eq_true rfl) (Nat.le_of_ble_eq_true rfl) (Nat.le_of_ble_eq_true rfl) (Nat.le_of_ble_eq_true rfl) d_G_map_69 d_G_map_72 d_G_map_73 d_G_map_75 d_G_map_78
    have h := if_f c7 h
    refine lv_iload hx hb d_G_map_62 (lv_at hl 5 rfl) ?_
    refine lv_bipush (v := 64) hx hb d_G_map_64 (by decide) ?_
    refine lv_icmp_le (tgt := 79) hx hb d_G_map_66 (by decide) (fun c9 => ?_) (fun c9 => ?_)
    · have h := if_t c9 h
      refine lv_aload_n hx hb d_G_map_79 rfl (lv_at hl 1 rfl) ?_
      refine g_G_3 hx hb hts hown hK hP hwf hj0 (hts _ u_696) d_G_map_80 ?_
      refine lv_iconst (v := 4) hx hb d_G_map_83 (by decide) ?_
      refine lv_icmp_ge (tgt := 94) hx hb d_G_map_84 (by decide) (fun c10 => ?_) (fun c10 => ?_)
      · have h := if_t c10 h
        exact absurd h (by simp)
      have h := if_f c10 h
      refine lv_aload_n hx hb d_G_map_87 rfl (lv_at hl 1 rfl) ?_
      refine g_G_13 hx hb hts hown hK hP hwf hj0 (hts _ u_706) d_G_map_88 ?_
      have z11 := (hwf.2.2.2 0 j0 13 rfl)
      refine lv_if_eq (tgt := 104) hx hb d_G_map_91 (by decide) (fun c12 => ?_) (fun c12 => ?_)
      · have h := if_t c12 h
        refine lv_aload_n hx hb d_G_map_104 rfl (lv_at hl 1 rfl) ?_
        refine g_G_2 hx hb hts hown hK hP hwf hj0 (hts _ u_695) d_G_map_105 ?_
        obtain ⟨j13, e14, h⟩ := bd_ob h
        have hj13 : j13 < N 19 := (hwf.2.1 0 j0 2 _ e14 (by decide) hj0)
        refine me_opt (j := j13) e14 ?_
        refine lv_aload_n hx hb d_G_map_108 rfl (lv_at hl 1 rfl) ?_
        refine g_G_3 hx hb hts hown hK hP hwf hj0 (hts _ u_696) d_G_map_109 ?_
        exact absurd h (by simp)
      have h := if_f c12 h
      exact absurd h (by simp)
    have h := if_f c9 h
    obtain ⟨hwf, hkp, hP, hD⟩ := me_sub1 (me_kz M0) h hwf hkp hP hD
    obtain ⟨qs15, hqs15⟩ := hy.1 _ _ _ o_853
    exact fg_throw (X := "java/lang/IllegalArgumentException") (names := fg_up) () hl9 hx hb hno hlocks hown hts hX hz0 hqs15 (by decide +kernel) (by decide +kernel) a_G_82 u_812 u_199 ⟨hwf, hkp⟩ hP (hK.sub (tys' := []) [] rfl) hD hS (hl.1.trans hml.symm) (Nat.lt_of_lt_of_le (Nat.lt_succ_self 5) (Nat.le_of_ble_eq_true rfl)) (Nat.le_of_ble_eq_true rfl) (Nat.le_of_ble_eq_true rfl) (Nat.le_of_ble_eq_true rfl) (Nat.le_of_ble_eq_true rfl) (Nat.le_of_ble_eq_true rfl) d_G_map_69 d_G_map_72 d_G_map_73 d_G_map_75 d_G_map_78
  have b_37 : ∀ (M : me_M) (H : Heap) (locs : List Loc) (ls : Array Slot), fT1_G_map_b37 j0 x1 x2 x3 x4 M = (some MZ) → me_wf N M → me_kz M0 M → va_P D classes (me_W ad ca M) H → va_D A (me_W ad ca M) → va_S A s.heap H locs → lv_has ls 6 [(0, .ref (ad 0 j0)), (1, .int x1), (2, .int x2), (3, .int x3), (4, .int x4)] → W p l e rmT1_G_map s m [.ref (ad 0 j0), .int x1, .int x2, .int x3, .int x4].toArray below meth c H locs 0 0 (fg_MQT below (qT1_G_map D ad ca N M0 MZ A) [.ref (ad 0 j0), .int x1, .int x2, .int x3, .int x4].toArray s rmT1_G_map.cells rmT1_G_map.slots A) (F0 m 37 ls []) := by
    intro M H locs ls h hwf hkp hP hD hS hl
    unfold fT1_G_map_b37 at h
    have hkb := hkp
    refine lv_iconst (v := 0) hx hb d_G_map_37 (by decide) ?_
    exact b_38 M (0 : Int32) _ _ _ h (by decide) hwf hkp hP hD hS (lv_sub hl [0, 1, 2, 3, 4] rfl)
  refine lv_iload_n hx hb d_G_map_0 rfl (lv_at hl 1 rfl) ?_
  refine lv_if_ne (tgt := 17) hx hb d_G_map_1 (by decide) (fun c16 => ?_) (fun c16 => ?_)
  · have h := if_f c16 h
    refine lv_iload_n hx hb d_G_map_17 rfl (lv_at hl 1 rfl) ?_
    refine lv_iconst (v := 1) hx hb d_G_map_18 (by decide) ?_
    refine lv_icmp_ne (tgt := 37) hx hb d_G_map_19 (by decide) (fun c17 => ?_) (fun c17 => ?_)
    · have h := if_f c17 h
      exact b_37 M0 _ _ _ h hwf hkp hP hD hS (lv_sub hl [0, 1, 2, 3, 4] rfl)
    have h := if_t c17 h
    refine lv_iload_n hx hb d_G_map_22 rfl (lv_at hl 2 rfl) ?_
    refine lv_iconst (v := 1) hx hb d_G_map_23 (by decide) ?_
    refine lv_icmp_lt (tgt := 37) hx hb d_G_map_24 (by decide) (fun c18 => ?_) (fun c18 => ?_)
    · have h := if_t c18 h
      exact b_37 M0 _ _ _ h hwf hkp hP hD hS (lv_sub hl [0, 1, 2, 3, 4] rfl)
    have h := if_f c18 h
    refine lv_iload_n hx hb d_G_map_27 rfl (lv_at hl 2 rfl) ?_
    refine lv_bipush (v := 16) hx hb d_G_map_28 (by decide) ?_
    refine lv_icmp_gt (tgt := 37) hx hb d_G_map_30 (by decide) (fun c19 => ?_) (fun c19 => ?_)
    · have h := if_t c19 h
      exact b_37 M0 _ _ _ h hwf hkp hP hD hS (lv_sub hl [0, 1, 2, 3, 4] rfl)
    have h := if_f c19 h
    refine lv_iconst (v := 1) hx hb d_G_map_33 (by decide) ?_
    refine lv_goto (tgt := 38) hx hb d_G_map_34 (by decide) ?_
    exact b_38 M0 (1 : Int32) _ _ _ h (by decide) hwf hkp hP hD hS (lv_sub hl [0, 1, 2, 3, 4] rfl)
  have h := if_t c16 h
  refine lv_iload_n hx hb d_G_map_4 rfl (lv_at hl 2 rfl) ?_
  refine lv_iconst (v := 4) hx hb d_G_map_5 (by decide) ?_
  refine lv_icmp_ne (tgt := 13) hx hb d_G_map_6 (by decide) (fun c20 => ?_) (fun c20 => ?_)
  · have h := if_f c20 h
    refine lv_iconst (v := 0) hx hb d_G_map_13 (by decide) ?_
    refine lv_goto (tgt := 38) hx hb d_G_map_14 (by decide) ?_
    exact b_38 M0 (0 : Int32) _ _ _ h (by decide) hwf hkp hP hD hS (lv_sub hl [0, 1, 2, 3, 4] rfl)
  have h := if_t c20 h
  refine lv_iconst (v := 1) hx hb d_G_map_9 (by decide) ?_
  refine lv_goto (tgt := 38) hx hb d_G_map_10 (by decide) ?_
  exact b_38 M0 (1 : Int32) _ _ _ h (by decide) hwf hkp hP hD hS (lv_sub hl [0, 1, 2, 3, 4] rfl)
def rmT2_G_map : Room := { frames := 6, cells := 1, slots := 6, locals := 100 }
abbrev qT2_G_map (D : va_G) (ad : Nat → Nat → Nat) (ca : Nat → ClassId) (N : Nat → Nat) (M0 MZ : me_M) (A : Nat → Prop) : Array Value → Jvm.State → Outcome → Jvm.State → Prop := fg_Qt "java/lang/IllegalStateException" (fun (_ : Unit) => me_wf N MZ ∧ me_kz M0 MZ) (fg_B D A (fun _ => me_W ad ca MZ) (fun _ => [])) A
set_option maxHeartbeats 4000000 in
set_option maxRecDepth 100000 in
theorem cT2_G_map (l : Launch) (hl9 : l.stackTraces = false) (D : va_G) (ad : Nat → Nat → Nat) (ca : Nat → ClassId) (N : Nat → Nat) (M0 MZ : me_M) (j0 : Nat) (x1 : Int32) (x2 : Int32) (x3 : Int32) (x4 : Int32) (h : fT2_G_map M0 j0 x1 x2 x3 x4 = (some MZ)) (hwf : me_wf N M0) (hj0 : j0 < N 0) (sz : Nat) : fg_MetT l y_G_map (fg_w y_G_map prog_1_method_4_code 6 (some .int)) rmT2_G_map (va_Pc [.ref (ad 0 j0), .int x1, .int x2, .int x3, .int x4] (fg_PZ D (me_T ca) (me_W ad ca M0) sz)) (qT2_G_map D ad ca N M0 MZ (va_A (me_W ad ca M0) sz)) rmT2_G_map.cells rmT2_G_map.slots (va_A (me_W ad ca M0) sz) := by
  refine fg_enterT (fun A => qT2_G_map D ad ca N M0 MZ A) (by decide +kernel) (Nat.le_of_ble_eq_true rfl) ?_
  intro p e s m below meth c ls A hx hb hml hown hts hr hlocks hin hP hK hD hS hA hX hl hno hz hy
  have hz0 := hz.1
  have hz := hz.2
  have hl : lv_has ls 6 [(0, .ref (ad 0 j0)), (1, .int x1), (2, .int x2), (3, .int x3), (4, .int x4)] := hl
  unfold fT2_G_map at h
  have hkp : me_kz M0 M0 := me_kz.rf
  have hkb := hkp
  have b_38 : ∀ (M : me_M) (s0 : Int32) (H : Heap) (locs : List Loc) (ls : Array Slot), fT2_G_map_b38 j0 x1 x2 x3 x4 M s0 = (some MZ) → (s0 = 1 ∨ s0 = 0) → me_wf N M → me_kz M0 M → va_P D classes (me_W ad ca M) H → va_D A (me_W ad ca M) → va_S A s.heap H locs → lv_has ls 6 [(0, .ref (ad 0 j0)), (1, .int x1), (2, .int x2), (3, .int x3), (4, .int x4)] → W p l e rmT2_G_map s m [.ref (ad 0 j0), .int x1, .int x2, .int x3, .int x4].toArray below meth c H locs 0 0 (fg_MQT below (qT2_G_map D ad ca N M0 MZ A) [.ref (ad 0 j0), .int x1, .int x2, .int x3, .int x4].toArray s rmT2_G_map.cells rmT2_G_map.slots A) (F0 m 38 ls [.int s0]) := by
    intro M s0 H locs ls h zs0 hwf hkp hP hD hS hl
    unfold fT2_G_map_b38 at h
    have hkb := hkp
    refine lv_istore (lv' := [(5, .int s0), (0, .ref (ad 0 j0)), (1, .int x1), (2, .int x2), (3, .int x3), (4, .int x4)]) hx hb d_G_map_38 hl (by decide) rfl (fun ls hl => ?_)
    refine lv_iload hx hb d_G_map_40 (lv_at hl 0 rfl) ?_
    refine lv_if_eq (tgt := 69) hx hb d_G_map_42 (by decide) (fun c1 => ?_) (fun c1 => ?_)
    · have h := if_t c1 h
      exact absurd h (by simp)
    have h := if_f c1 h
    refine lv_iload_n hx hb d_G_map_45 rfl (lv_at hl 4 rfl) ?_
    refine lv_iconst (v := 1) hx hb d_G_map_46 (by decide) ?_
    refine lv_icmp_lt (tgt := 69) hx hb d_G_map_47 (by decide) (fun c2 => ?_) (fun c2 => ?_)
    · have h := if_t c2 h
      exact absurd h (by simp)
    have h := if_f c2 h
    refine lv_iload_n hx hb d_G_map_50 rfl (lv_at hl 4 rfl) ?_
    refine lv_bipush (v := 64) hx hb d_G_map_51 (by decide) ?_
    refine lv_icmp_gt (tgt := 69) hx hb d_G_map_53 (by decide) (fun c3 => ?_) (fun c3 => ?_)
    · have h := if_t c3 h
      exact absurd h (by simp)
    have h := if_f c3 h
    refine lv_iload hx hb d_G_map_56 (lv_at hl 5 rfl) ?_
    refine lv_iconst (v := 1) hx hb d_G_map_58 (by decide) ?_
    refine lv_icmp_lt (tgt := 69) hx hb d_G_map_59 (by decide) (fun c4 => ?_) (fun c4 => ?_)
    · have h := if_t c4 h
      exact absurd h (by simp)
    have h := if_f c4 h
    refine lv_iload hx hb d_G_map_62 (lv_at hl 5 rfl) ?_
    refine lv_bipush (v := 64) hx hb d_G_map_64 (by decide) ?_
    refine lv_icmp_le (tgt := 79) hx hb d_G_map_66 (by decide) (fun c5 => ?_) (fun c5 => ?_)
    · have h := if_t c5 h
      refine lv_aload_n hx hb d_G_map_79 rfl (lv_at hl 1 rfl) ?_
      refine g_G_3 hx hb hts hown hK hP hwf hj0 (hts _ u_696) d_G_map_80 ?_
      refine lv_iconst (v := 4) hx hb d_G_map_83 (by decide) ?_
      refine lv_icmp_ge (tgt := 94) hx hb d_G_map_84 (by decide) (fun c6 => ?_) (fun c6 => ?_)
      · have h := if_t c6 h
        obtain ⟨hwf, hkp, hP, hD⟩ := me_sub1 (me_kz M0) h hwf hkp hP hD
        obtain ⟨qs7, hqs7⟩ := hy.1 _ _ _ o_888
        exact fg_throw (X := "java/lang/IllegalStateException") (names := fg_up) () hl9 hx hb hno hlocks hown hts hX hz0 hqs7 (by decide +kernel) (by decide +kernel) a_G_96 u_879 u_200 ⟨hwf, hkp⟩ hP (hK.sub (tys' := []) [] rfl) hD hS (hl.1.trans hml.symm) (Nat.lt_of_lt_of_le (Nat.lt_succ_self 5) (Nat.le_of_ble_eq_true rfl)) (Nat.le_of_ble_eq_true rfl) (Nat.le_of_ble_eq_true rfl) (Nat.le_of_ble_eq_true rfl) (Nat.le_of_ble_eq_true rfl) (Nat.le_of_ble_eq_true rfl) d_G_map_94 d_G_map_97 d_G_map_98 d_G_map_100 d_G_map_103
      have h := if_f c6 h
      refine lv_aload_n hx hb d_G_map_87 rfl (lv_at hl 1 rfl) ?_
      refine g_G_13 hx hb hts hown hK hP hwf hj0 (hts _ u_706) d_G_map_88 ?_
      have z8 := (hwf.2.2.2 0 j0 13 rfl)
      refine lv_if_eq (tgt := 104) hx hb d_G_map_91 (by decide) (fun c9 => ?_) (fun c9 => ?_)
      · have h := if_t c9 h
        refine lv_aload_n hx hb d_G_map_104 rfl (lv_at hl 1 rfl) ?_
        refine g_G_2 hx hb hts hown hK hP hwf hj0 (hts _ u_695) d_G_map_105 ?_
        obtain ⟨j10, e11, h⟩ := bd_ob h
        have hj10 : j10 < N 19 := (hwf.2.1 0 j0 2 _ e11 (by decide) hj0)
        refine me_opt (j := j10) e11 ?_
        refine lv_aload_n hx hb d_G_map_108 rfl (lv_at hl 1 rfl) ?_
        refine g_G_3 hx hb hts hown hK hP hwf hj0 (hts _ u_696) d_G_map_109 ?_
        exact absurd h (by simp)
      have h := if_f c9 h
      obtain ⟨hwf, hkp, hP, hD⟩ := me_sub1 (me_kz M0) h hwf hkp hP hD
      obtain ⟨qs12, hqs12⟩ := hy.1 _ _ _ o_888
      exact fg_throw (X := "java/lang/IllegalStateException") (names := fg_up) () hl9 hx hb hno hlocks hown hts hX hz0 hqs12 (by decide +kernel) (by decide +kernel) a_G_96 u_879 u_200 ⟨hwf, hkp⟩ hP (hK.sub (tys' := []) [] rfl) hD hS (hl.1.trans hml.symm) (Nat.lt_of_lt_of_le (Nat.lt_succ_self 5) (Nat.le_of_ble_eq_true rfl)) (Nat.le_of_ble_eq_true rfl) (Nat.le_of_ble_eq_true rfl) (Nat.le_of_ble_eq_true rfl) (Nat.le_of_ble_eq_true rfl) (Nat.le_of_ble_eq_true rfl) d_G_map_94 d_G_map_97 d_G_map_98 d_G_map_100 d_G_map_103
    have h := if_f c5 h
    exact absurd h (by simp)
  have b_37 : ∀ (M : me_M) (H : Heap) (locs : List Loc) (ls : Array Slot), fT2_G_map_b37 j0 x1 x2 x3 x4 M = (some MZ) → me_wf N M → me_kz M0 M → va_P D classes (me_W ad ca M) H → va_D A (me_W ad ca M) → va_S A s.heap H locs → lv_has ls 6 [(0, .ref (ad 0 j0)), (1, .int x1), (2, .int x2), (3, .int x3), (4, .int x4)] → W p l e rmT2_G_map s m [.ref (ad 0 j0), .int x1, .int x2, .int x3, .int x4].toArray below meth c H locs 0 0 (fg_MQT below (qT2_G_map D ad ca N M0 MZ A) [.ref (ad 0 j0), .int x1, .int x2, .int x3, .int x4].toArray s rmT2_G_map.cells rmT2_G_map.slots A) (F0 m 37 ls []) := by
    intro M H locs ls h hwf hkp hP hD hS hl
    unfold fT2_G_map_b37 at h
    have hkb := hkp
    refine lv_iconst (v := 0) hx hb d_G_map_37 (by decide) ?_
    exact b_38 M (0 : Int32) _ _ _ h (by decide) hwf hkp hP hD hS (lv_sub hl [0, 1, 2, 3, 4] rfl)
  refine lv_iload_n hx hb d_G_map_0 rfl (lv_at hl 1 rfl) ?_
  refine lv_if_ne (tgt := 17) hx hb d_G_map_1 (by decide) (fun c13 => ?_) (fun c13 => ?_)
  · have h := if_f c13 h
    refine lv_iload_n hx hb d_G_map_17 rfl (lv_at hl 1 rfl) ?_
    refine lv_iconst (v := 1) hx hb d_G_map_18 (by decide) ?_
    refine lv_icmp_ne (tgt := 37) hx hb d_G_map_19 (by decide) (fun c14 => ?_) (fun c14 => ?_)
    · have h := if_f c14 h
      exact b_37 M0 _ _ _ h hwf hkp hP hD hS (lv_sub hl [0, 1, 2, 3, 4] rfl)
    have h := if_t c14 h
    refine lv_iload_n hx hb d_G_map_22 rfl (lv_at hl 2 rfl) ?_
    refine lv_iconst (v := 1) hx hb d_G_map_23 (by decide) ?_
    refine lv_icmp_lt (tgt := 37) hx hb d_G_map_24 (by decide) (fun c15 => ?_) (fun c15 => ?_)
    · have h := if_t c15 h
      exact b_37 M0 _ _ _ h hwf hkp hP hD hS (lv_sub hl [0, 1, 2, 3, 4] rfl)
    have h := if_f c15 h
    refine lv_iload_n hx hb d_G_map_27 rfl (lv_at hl 2 rfl) ?_
    refine lv_bipush (v := 16) hx hb d_G_map_28 (by decide) ?_
    refine lv_icmp_gt (tgt := 37) hx hb d_G_map_30 (by decide) (fun c16 => ?_) (fun c16 => ?_)
    · have h := if_t c16 h
      exact b_37 M0 _ _ _ h hwf hkp hP hD hS (lv_sub hl [0, 1, 2, 3, 4] rfl)
    have h := if_f c16 h
    refine lv_iconst (v := 1) hx hb d_G_map_33 (by decide) ?_
    refine lv_goto (tgt := 38) hx hb d_G_map_34 (by decide) ?_
    exact b_38 M0 (1 : Int32) _ _ _ h (by decide) hwf hkp hP hD hS (lv_sub hl [0, 1, 2, 3, 4] rfl)
  have h := if_t c13 h
  refine lv_iload_n hx hb d_G_map_4 rfl (lv_at hl 2 rfl) ?_
  refine lv_iconst (v := 4) hx hb d_G_map_5 (by decide) ?_
  refine lv_icmp_ne (tgt := 13) hx hb d_G_map_6 (by decide) (fun c17 => ?_) (fun c17 => ?_)
  · have h := if_f c17 h
    refine lv_iconst (v := 0) hx hb d_G_map_13 (by decide) ?_
    refine lv_goto (tgt := 38) hx hb d_G_map_14 (by decide) ?_
    exact b_38 M0 (0 : Int32) _ _ _ h (by decide) hwf hkp hP hD hS (lv_sub hl [0, 1, 2, 3, 4] rfl)
  have h := if_t c17 h
  refine lv_iconst (v := 1) hx hb d_G_map_9 (by decide) ?_
  refine lv_goto (tgt := 38) hx hb d_G_map_10 (by decide) ?_
  exact b_38 M0 (1 : Int32) _ _ _ h (by decide) hwf hkp hP hD hS (lv_sub hl [0, 1, 2, 3, 4] rfl)
theorem d_Code_load_24 : decode prog_4_method_2_code 24 = .ok (.iload 6, 2) := by decide +kernel
theorem d_Code_load_26 : decode prog_4_method_2_code 26 = .ok (.ifCond .lt 31, 3) := by decide +kernel
theorem d_Code_load_57 : decode prog_4_method_2_code 57 = .ok (.aload_n 0, 1) := by decide +kernel
theorem d_Code_load_58 : decode prog_4_method_2_code 58 = .ok (.getfield 9, 3) := by decide +kernel
theorem g_Code_0 {p : Program} {l : Launch} {e : Env} {R : Room} {s : Jvm.State} {m : MethodId} {args : Array Value} {below : List Frame} {meth : Method} {c : Code} {H : Heap} {locs : List Loc} {cells slots : Nat} {Q : Jvm.State → Prop} {cc : ByteArray} {pc : Nat} {ls : Array Slot} {rest : List Value} {D : va_G} {ad : Nat → Nat → Nat} {ca : Nat → ClassId} {M : me_M} {N : Nat → Nat} {own : String} {index j : Nat} (hexec : p.tables.exec = Jvm.exec) (hb : c.code = cc) (hts : ∀ w ∈ fg_g, w.before args s = true) (hown : s.vm.findClass own = some m.cls) (hK : va_K D classes (me_T ca) s) (hP : va_P D classes (me_W ad ca M) H) (hwf : me_wf N M) (hj : j < N 2) (hlink : (Cond.fieldLink own index "FilterGuard$Code" "slots" "[J").before args s = true) (hdg : decode cc pc = .ok (.getfield index, 3)) (kk : W p l e R s m args below meth c H locs cells slots Q (F0 m (pc + 3) ls (va_rf ((mR M 2 j 0).map (ad 16)) :: rest))) : W p l e R s m args below meth c H locs cells slots Q (F0 m pc ls (.ref (ad 2 j) :: rest)) := me_get (k := 2) (f := 0) (C := "FilterGuard$Code") (T := F_Code) (Nf := 16) hexec hb hts i_Code hown hK hP hwf hj (by decide) rfl (by decide) (by decide) hlink (fun _ h9 => h9) hdg kk
theorem d_Code_load_61 : decode prog_4_method_2_code 61 = .ok (.iload_n 3, 1) := by decide +kernel
theorem d_Code_load_62 : decode prog_4_method_2_code 62 = .ok (.lload 4, 2) := by decide +kernel
theorem d_Code_load_64 : decode prog_4_method_2_code 64 = .ok (.lastore, 1) := by decide +kernel
theorem d_Code_load_65 : decode prog_4_method_2_code 65 = .ok (.aload_n 0, 1) := by decide +kernel
theorem d_Code_load_66 : decode prog_4_method_2_code 66 = .ok (.getfield 15, 3) := by decide +kernel
theorem g_Code_1 {p : Program} {l : Launch} {e : Env} {R : Room} {s : Jvm.State} {m : MethodId} {args : Array Value} {below : List Frame} {meth : Method} {c : Code} {H : Heap} {locs : List Loc} {cells slots : Nat} {Q : Jvm.State → Prop} {cc : ByteArray} {pc : Nat} {ls : Array Slot} {rest : List Value} {D : va_G} {ad : Nat → Nat → Nat} {ca : Nat → ClassId} {M : me_M} {N : Nat → Nat} {own : String} {index j : Nat} (hexec : p.tables.exec = Jvm.exec) (hb : c.code = cc) (hts : ∀ w ∈ fg_g, w.before args s = true) (hown : s.vm.findClass own = some m.cls) (hK : va_K D classes (me_T ca) s) (hP : va_P D classes (me_W ad ca M) H) (hwf : me_wf N M) (hj : j < N 2) (hlink : (Cond.fieldLink own index "FilterGuard$Code" "isSecond" "[Z").before args s = true) (hdg : decode cc pc = .ok (.getfield index, 3)) (kk : W p l e R s m args below meth c H locs cells slots Q (F0 m (pc + 3) ls (va_rf ((mR M 2 j 1).map (ad 15)) :: rest))) : W p l e R s m args below meth c H locs cells slots Q (F0 m pc ls (.ref (ad 2 j) :: rest)) := me_get (k := 2) (f := 1) (C := "FilterGuard$Code") (T := F_Code) (Nf := 16) hexec hb hts i_Code hown hK hP hwf hj (by decide) rfl (by decide) (by decide) hlink (fun _ h9 => h9) hdg kk
theorem d_Code_load_69 : decode prog_4_method_2_code 69 = .ok (.iload_n 3, 1) := by decide +kernel
theorem d_Code_load_70 : decode prog_4_method_2_code 70 = .ok (.iconst 0, 1) := by decide +kernel
theorem d_Code_load_71 : decode prog_4_method_2_code 71 = .ok (.bastore, 1) := by decide +kernel
theorem d_Code_load_72 : decode prog_4_method_2_code 72 = .ok (.aload_n 0, 1) := by decide +kernel
theorem d_Code_load_73 : decode prog_4_method_2_code 73 = .ok (.getfield 19, 3) := by decide +kernel
theorem g_Code_2 {p : Program} {l : Launch} {e : Env} {R : Room} {s : Jvm.State} {m : MethodId} {args : Array Value} {below : List Frame} {meth : Method} {c : Code} {H : Heap} {locs : List Loc} {cells slots : Nat} {Q : Jvm.State → Prop} {cc : ByteArray} {pc : Nat} {ls : Array Slot} {rest : List Value} {D : va_G} {ad : Nat → Nat → Nat} {ca : Nat → ClassId} {M : me_M} {N : Nat → Nat} {own : String} {index j : Nat} (hexec : p.tables.exec = Jvm.exec) (hb : c.code = cc) (hts : ∀ w ∈ fg_g, w.before args s = true) (hown : s.vm.findClass own = some m.cls) (hK : va_K D classes (me_T ca) s) (hP : va_P D classes (me_W ad ca M) H) (hwf : me_wf N M) (hj : j < N 2) (hlink : (Cond.fieldLink own index "FilterGuard$Code" "isMark" "[Z").before args s = true) (hdg : decode cc pc = .ok (.getfield index, 3)) (kk : W p l e R s m args below meth c H locs cells slots Q (F0 m (pc + 3) ls (va_rf ((mR M 2 j 2).map (ad 15)) :: rest))) : W p l e R s m args below meth c H locs cells slots Q (F0 m pc ls (.ref (ad 2 j) :: rest)) := me_get (k := 2) (f := 2) (C := "FilterGuard$Code") (T := F_Code) (Nf := 16) hexec hb hts i_Code hown hK hP hwf hj (by decide) rfl (by decide) (by decide) hlink (fun _ h9 => h9) hdg kk
theorem d_Code_load_76 : decode prog_4_method_2_code 76 = .ok (.iload_n 3, 1) := by decide +kernel
theorem d_Code_load_77 : decode prog_4_method_2_code 77 = .ok (.iconst 0, 1) := by decide +kernel
theorem d_Code_load_78 : decode prog_4_method_2_code 78 = .ok (.bastore, 1) := by decide +kernel
theorem d_Code_load_79 : decode prog_4_method_2_code 79 = .ok (.iinc 3 1, 3) := by decide +kernel
theorem d_Code_load_82 : decode prog_4_method_2_code 82 = .ok (.goto (-70), 3) := by decide +kernel
theorem d_Code_load_29 : decode prog_4_method_2_code 29 = .ok (.lload 4, 2) := by decide +kernel
theorem d_Code_load_31 : decode prog_4_method_2_code 31 = .ok (.bipush 8, 2) := by decide +kernel
theorem d_Code_load_33 : decode prog_4_method_2_code 33 = .ok (.lshl, 1) := by decide +kernel
theorem d_Code_load_34 : decode prog_4_method_2_code 34 = .ok (.aload_n 1, 1) := by decide +kernel
theorem d_Code_load_35 : decode prog_4_method_2_code 35 = .ok (.bipush 8, 2) := by decide +kernel
theorem d_Code_load_37 : decode prog_4_method_2_code 37 = .ok (.iload_n 3, 1) := by decide +kernel
theorem d_Code_load_38 : decode prog_4_method_2_code 38 = .ok (.imul, 1) := by decide +kernel
theorem d_Code_load_39 : decode prog_4_method_2_code 39 = .ok (.iload 6, 2) := by decide +kernel
theorem d_Code_load_41 : decode prog_4_method_2_code 41 = .ok (.iadd, 1) := by decide +kernel
theorem d_Code_load_42 : decode prog_4_method_2_code 42 = .ok (.baload, 1) := by decide +kernel
theorem d_Code_load_43 : decode prog_4_method_2_code 43 = .ok (.sipush 255, 3) := by decide +kernel
theorem d_Code_load_46 : decode prog_4_method_2_code 46 = .ok (.iand, 1) := by decide +kernel
theorem d_Code_load_47 : decode prog_4_method_2_code 47 = .ok (.i2l, 1) := by decide +kernel
theorem d_Code_load_48 : decode prog_4_method_2_code 48 = .ok (.lor, 1) := by decide +kernel
theorem d_Code_load_49 : decode prog_4_method_2_code 49 = .ok (.lstore 4, 2) := by decide +kernel
theorem d_Code_load_51 : decode prog_4_method_2_code 51 = .ok (.iinc 6 (-1), 3) := by decide +kernel
theorem d_Code_load_54 : decode prog_4_method_2_code 54 = .ok (.goto (-30), 3) := by decide +kernel
theorem d_Code_load_12 : decode prog_4_method_2_code 12 = .ok (.iload_n 3, 1) := by decide +kernel
theorem d_Code_load_13 : decode prog_4_method_2_code 13 = .ok (.iload_n 2, 1) := by decide +kernel
theorem d_Code_load_14 : decode prog_4_method_2_code 14 = .ok (.if_icmp .ge 71, 3) := by decide +kernel
theorem d_Code_load_85 : decode prog_4_method_2_code 85 = .ok (.return_, 1) := by decide +kernel
theorem d_Code_load_17 : decode prog_4_method_2_code 17 = .ok (.lconst 0, 1) := by decide +kernel
theorem d_Code_load_18 : decode prog_4_method_2_code 18 = .ok (.lstore 4, 2) := by decide +kernel
theorem d_Code_load_20 : decode prog_4_method_2_code 20 = .ok (.bipush 7, 2) := by decide +kernel
theorem d_Code_load_22 : decode prog_4_method_2_code 22 = .ok (.istore 6, 2) := by decide +kernel
theorem d_Code_load_0 : decode prog_4_method_2_code 0 = .ok (.aload_n 0, 1) := by decide +kernel
theorem d_Code_load_1 : decode prog_4_method_2_code 1 = .ok (.iload_n 2, 1) := by decide +kernel
theorem d_Code_load_2 : decode prog_4_method_2_code 2 = .ok (.putfield 22, 3) := by decide +kernel
theorem u_226 : Cond.fieldLink "FilterGuard$Code" 22 "FilterGuard$Code" "size" "I" ∈ fg_g := fg_in (List.mem_of_getElem? (i := 226) (by decide +kernel)) rfl
theorem p_Code_3 {p : Program} {l : Launch} {e : Env} {R : Room} {s : Jvm.State} {m : MethodId} {args : Array Value} {below : List Frame} {meth : Method} {c : Code} {H : Heap} {locs : List Loc} {cells slots : Nat} {Q : Jvm.State → Prop} {cc : ByteArray} {pc : Nat} {ls : Array Slot} {rest : List Value} {D : va_G} {A : Nat → Prop} {H0 : Heap} {ad : Nat → Nat → Nat} {ca : Nat → ClassId} {M M1 : me_M} {N : Nat → Nat} {own : String} {index j : Nat} {v : Int32} (he : M1 = wI M 2 j 3 v) (hexec : p.tables.exec = Jvm.exec) (hb : c.code = cc) (hts : ∀ w ∈ fg_g, w.before args s = true) (hown : s.vm.findClass own = some m.cls) (hK : va_K D classes (me_T ca) s) (hP : va_P D classes (me_W ad ca M) H) (hD : va_D A (me_W ad ca M)) (hwf : me_wf N M) (hS : va_S A H0 H locs) (hj : j < N 2) (hlink : (Cond.fieldLink own index "FilterGuard$Code" "size" "I").before args s = true) (hdg : decode cc pc = .ok (.putfield index, 3)) (kk : ∀ (H1 : Heap) (locs1 : List Loc), va_P D classes (me_W ad ca M1) H1 → va_D A (me_W ad ca M1) → me_wf N M1 → va_S A H0 H1 locs1 → W p l e R s m args below meth c H1 locs1 cells slots Q (F0 m (pc + 3) ls rest)) : W p l e R s m args below meth c H locs cells slots Q (F0 m pc ls (.int v :: .ref (ad 2 j) :: rest)) := by
  subst he
  exact me_put (M1 := wI M 2 j 3 v) (k := 2) (f := 3) (C := "FilterGuard$Code") (T := F_Code) (Nf := 16) hexec hb hts i_Code t_Code t_Code_ok n_Code hown hK hP hD hwf hS hj (by decide) rfl (by decide) (by decide) hlink (fun _ h9 => h9) rfl rfl rfl rfl (fun a b h => me_wIE h) (me_fIw (by decide) (by decide)) hdg (fun H1 locs1 a1 a2 a3 => kk H1 locs1 a1 a2 (me_wfI hwf (fun z => absurd z (by decide)) (fun z => absurd z (by decide))) a3)
theorem d_Code_load_5 : decode prog_4_method_2_code 5 = .ok (.aload_n 0, 1) := by decide +kernel
theorem d_Code_load_6 : decode prog_4_method_2_code 6 = .ok (.iconst (-1), 1) := by decide +kernel
theorem d_Code_load_7 : decode prog_4_method_2_code 7 = .ok (.putfield 26, 3) := by decide +kernel
theorem u_229 : Cond.fieldLink "FilterGuard$Code" 26 "FilterGuard$Code" "faultSlot" "I" ∈ fg_g := fg_in (List.mem_of_getElem? (i := 229) (by decide +kernel)) rfl
theorem p_Code_4 {p : Program} {l : Launch} {e : Env} {R : Room} {s : Jvm.State} {m : MethodId} {args : Array Value} {below : List Frame} {meth : Method} {c : Code} {H : Heap} {locs : List Loc} {cells slots : Nat} {Q : Jvm.State → Prop} {cc : ByteArray} {pc : Nat} {ls : Array Slot} {rest : List Value} {D : va_G} {A : Nat → Prop} {H0 : Heap} {ad : Nat → Nat → Nat} {ca : Nat → ClassId} {M M1 : me_M} {N : Nat → Nat} {own : String} {index j : Nat} {v : Int32} (he : M1 = wI M 2 j 4 v) (hexec : p.tables.exec = Jvm.exec) (hb : c.code = cc) (hts : ∀ w ∈ fg_g, w.before args s = true) (hown : s.vm.findClass own = some m.cls) (hK : va_K D classes (me_T ca) s) (hP : va_P D classes (me_W ad ca M) H) (hD : va_D A (me_W ad ca M)) (hwf : me_wf N M) (hS : va_S A H0 H locs) (hj : j < N 2) (hlink : (Cond.fieldLink own index "FilterGuard$Code" "faultSlot" "I").before args s = true) (hdg : decode cc pc = .ok (.putfield index, 3)) (kk : ∀ (H1 : Heap) (locs1 : List Loc), va_P D classes (me_W ad ca M1) H1 → va_D A (me_W ad ca M1) → me_wf N M1 → va_S A H0 H1 locs1 → W p l e R s m args below meth c H1 locs1 cells slots Q (F0 m (pc + 3) ls rest)) : W p l e R s m args below meth c H locs cells slots Q (F0 m pc ls (.int v :: .ref (ad 2 j) :: rest)) := by
  subst he
  exact me_put (M1 := wI M 2 j 4 v) (k := 2) (f := 4) (C := "FilterGuard$Code") (T := F_Code) (Nf := 16) hexec hb hts i_Code t_Code t_Code_ok n_Code hown hK hP hD hwf hS hj (by decide) rfl (by decide) (by decide) hlink (fun _ h9 => h9) rfl rfl rfl rfl (fun a b h => me_wIE h) (me_fIw (by decide) (by decide)) hdg (fun H1 locs1 a1 a2 a3 => kk H1 locs1 a1 a2 (me_wfI hwf (fun z => absurd z (by decide)) (fun z => absurd z (by decide))) a3)
theorem d_Code_load_10 : decode prog_4_method_2_code 10 = .ok (.iconst 0, 1) := by decide +kernel
theorem d_Code_load_11 : decode prog_4_method_2_code 11 = .ok (.istore_n 3, 1) := by decide +kernel
abbrev y_Code_load : MethodName := ⟨"FilterGuard$Code", "load", "([BI)V"⟩
def rm_Code_load : Room := { frames := 1, cells := 0, slots := 0, locals := 20 }
abbrev q_Code_load (D : va_G) (ad : Nat → Nat → Nat) (ca : Nat → ClassId) (N : Nat → Nat) (M0 MZ : me_M) (A : Nat → Prop) : Array Value → Jvm.State → Outcome → Jvm.State → Prop := va_Qv (fun (_ : Unit) => me_wf N MZ ∧ me_kp M0 MZ) (fg_B D A (fun _ => me_W ad ca MZ) (fun _ => [])) A
set_option maxHeartbeats 4000000 in
set_option maxRecDepth 100000 in
theorem c_Code_load (l : Launch) (D : va_G) (ad : Nat → Nat → Nat) (ca : Nat → ClassId) (N : Nat → Nat) (M0 MZ : me_M) (j0 : Nat) (j1 : Nat) (x2 : Int32) (h : f_Code_load M0 j0 j1 x2 = (some MZ)) (hwf : me_wf N M0) (hj0 : j0 < N 2) (hj1 : j1 < N 14) (sz : Nat) : Met l y_Code_load (fg_w y_Code_load prog_4_method_2_code 7 none) rm_Code_load (va_Pc [.ref (ad 2 j0), .ref (ad 14 j1), .int x2] (fz_P D (me_T ca) (me_W ad ca M0) sz)) (q_Code_load D ad ca N M0 MZ (va_A (me_W ad ca M0) sz)) rm_Code_load.cells rm_Code_load.slots (va_A (me_W ad ca M0) sz) := by
  refine fz_enter (fun A => q_Code_load D ad ca N M0 MZ A) (by decide +kernel) (Nat.le_of_ble_eq_true rfl) ?_
  intro p e s m below meth c ls A hx hb hml hown hts hr hlocks hin hP hK hD hS hA hX hl hz
  have hl : lv_has ls 7 [(0, .ref (ad 2 j0)), (1, .ref (ad 14 j1)), (2, .int x2)] := hl
  unfold f_Code_load at h
  have hkp : me_kp M0 M0 := me_kp.rf
  have hkb := hkp
  have b_24 : ∀ (k12 : me_M → Int32 → Option me_M) (hk12 : ∀ (M : me_M) (y3 : Int32) (H : Heap) (locs : List Loc) (ls : Array Slot), k12 M y3 = (some MZ) → me_wf N M → me_kp M0 M → va_P D classes (me_W ad ca M) H → va_D A (me_W ad ca M) → va_S A s.heap H locs → lv_has ls 7 [(0, .ref (ad 2 j0)), (1, .ref (ad 14 j1)), (2, .int x2), (3, .int y3)] → W p l e rm_Code_load s m [.ref (ad 2 j0), .ref (ad 14 j1), .int x2].toArray below meth c H locs 0 0 (MQ below (q_Code_load D ad ca N M0 MZ A) [.ref (ad 2 j0), .ref (ad 14 j1), .int x2].toArray s rm_Code_load.cells rm_Code_load.slots A) (F0 m 12 ls [])), ∀ (fu : Nat), ∀ (M : me_M) (y3 : Int32) (y4 : Int64) (y6 : Int32) (H : Heap) (locs : List Loc) (ls : Array Slot), f_Code_load_l24 k12 j0 j1 x2 fu M y3 y4 y6 = (some MZ) → me_wf N M → me_kp M0 M → va_P D classes (me_W ad ca M) H → va_D A (me_W ad ca M) → va_S A s.heap H locs → lv_has ls 7 [(0, .ref (ad 2 j0)), (1, .ref (ad 14 j1)), (2, .int x2), (3, .int y3), (4, .long y4), (6, .int y6)] → W p l e rm_Code_load s m [.ref (ad 2 j0), .ref (ad 14 j1), .int x2].toArray below meth c H locs 0 0 (MQ below (q_Code_load D ad ca N M0 MZ A) [.ref (ad 2 j0), .ref (ad 14 j1), .int x2].toArray s rm_Code_load.cells rm_Code_load.slots A) (F0 m 24 ls []) := by
    intro k12 hk12 fu
    induction fu with
    | zero =>
      intro M y3 y4 y6 H locs ls h hwf hkp hP hD hS hl
      cases h
    | succ fu ih =>
      intro M y3 y4 y6 H locs ls h hwf hkp hP hD hS hl
      unfold f_Code_load_l24 at h
      have hkb := hkp
      refine lv_iload hx hb d_Code_load_24 (lv_at hl 5 rfl) ?_
      refine lv_if_lt (tgt := 57) hx hb d_Code_load_26 (by decide) (fun c1 => ?_) (fun c1 => ?_)
      · have h := if_t c1 h
        refine lv_aload_n hx hb d_Code_load_57 rfl (lv_at hl 0 rfl) ?_
        refine g_Code_0 hx hb hts hown hK hP hwf hj0 (hts _ u_220) d_Code_load_58 ?_
        obtain ⟨j2, e3, h⟩ := bd_ob h
        have hj2 : j2 < N 16 := (hwf.2.1 2 j0 0 _ e3 (by decide) hj0)
        refine me_opt (j := j2) e3 ?_
        refine lv_iload_n hx hb d_Code_load_61 rfl (lv_at hl 3 rfl) ?_
        refine lv_lload hx hb d_Code_load_62 (lv_at hl 4 rfl) ?_
        obtain ⟨g4, h⟩ := gd_ob h
        obtain ⟨M5, eM5, h⟩ := st_ob h
        refine me_last eM5 hx hb hK hP hD hwf hS hj2 g4 d_Code_load_64 (fun H locs hP hD hwf hS => ?_)
        have hkp := kp_L eM5 hkp
        refine lv_aload_n hx hb d_Code_load_65 rfl (lv_at hl 0 rfl) ?_
        refine g_Code_1 hx hb hts hown hK hP hwf hj0 (hts _ u_223) d_Code_load_66 ?_
        obtain ⟨j6, e7, h⟩ := bd_ob h
        have hj6 : j6 < N 15 := (hwf.2.1 2 j0 1 _ (kp_r hkb hkp e7) (by decide) hj0)
        refine me_opt (j := j6) (kp_r hkb hkp e7) ?_
        refine lv_iload_n hx hb d_Code_load_69 rfl (lv_at hl 3 rfl) ?_
        refine lv_iconst (v := 0) hx hb d_Code_load_70 (by decide) ?_
        obtain ⟨g8, h⟩ := gd_ob h
        obtain ⟨M9, eM9, h⟩ := st_ob h
        refine me_zast eM9 hx hb hK hP hD hwf hS hj6 (kp_z hkb.z hkp.z g8) d_Code_load_71 (fun H locs hP hD hwf hS => ?_)
        have hkp := kp_I eM9 hkp
        refine lv_aload_n hx hb d_Code_load_72 rfl (lv_at hl 0 rfl) ?_
        refine g_Code_2 hx hb hts hown hK hP hwf hj0 (hts _ u_225) d_Code_load_73 ?_
        obtain ⟨j10, e11, h⟩ := bd_ob h
        have hj10 : j10 < N 15 := (hwf.2.1 2 j0 2 _ (kp_r hkb hkp e11) (by decide) hj0)
        refine me_opt (j := j10) (kp_r hkb hkp e11) ?_
        refine lv_iload_n hx hb d_Code_load_76 rfl (lv_at hl 3 rfl) ?_
        refine lv_iconst (v := 0) hx hb d_Code_load_77 (by decide) ?_
        obtain ⟨g12, h⟩ := gd_ob h
        obtain ⟨M13, eM13, h⟩ := st_ob h
        refine me_zast eM13 hx hb hK hP hD hwf hS hj10 (kp_z hkb.z hkp.z g12) d_Code_load_78 (fun H locs hP hD hwf hS => ?_)
        have hkp := kp_I eM13 hkp
        refine lv_iinc (v := y3 + 1) (lv' := [(3, .int (y3 + 1)), (0, .ref (ad 2 j0)), (1, .ref (ad 14 j1)), (2, .int x2), (4, .long y4), (6, .int y6)]) hx hb d_Code_load_79 hl (k := 3) rfl (by rfl) (by decide) rfl (fun ls hl => ?_)
        refine lv_goto (tgt := 12) hx hb d_Code_load_82 (by decide) ?_
        exact hk12 M13 (y3 + 1) _ _ _ h hwf hkp hP hD hS (lv_sub hl [1, 2, 3, 0] rfl)
      have h := if_f c1 h
      refine lv_lload hx hb d_Code_load_29 (lv_at hl 4 rfl) ?_
      refine lv_bipush (v := 8) hx hb d_Code_load_31 (by decide) ?_
      refine lv_lshl (v := jlshl y4 (8 : Int32)) hx hb d_Code_load_33 rfl ?_
      refine lv_aload_n hx hb d_Code_load_34 rfl (lv_at hl 1 rfl) ?_
      refine lv_bipush (v := 8) hx hb d_Code_load_35 (by decide) ?_
      refine lv_iload_n hx hb d_Code_load_37 rfl (lv_at hl 3 rfl) ?_
      refine lv_imul hx hb d_Code_load_38 ?_
      refine lv_iload hx hb d_Code_load_39 (lv_at hl 5 rfl) ?_
      refine lv_iadd hx hb d_Code_load_41 ?_
      obtain ⟨g14, h⟩ := gd_ob h
      refine me_bald hx hb hK hP hwf hj1 g14 d_Code_load_42 ?_
      refine lv_sipush (v := 255) hx hb d_Code_load_43 (by decide) ?_
      refine lv_iand hx hb d_Code_load_46 ?_
      refine lv_i2l (v := ((mI M 14 j1 ((8 * y3) + y6).toNatClampNeg) &&& 255).toInt64) hx hb d_Code_load_47 rfl ?_
      refine lv_lor hx hb d_Code_load_48 ?_
      obtain ⟨v15, ev15, h⟩ := st_ob h
      refine fg_topl (y := v15) ev15.symm ?_
      refine lv_lstore (lv' := [(4, .long v15), (0, .ref (ad 2 j0)), (1, .ref (ad 14 j1)), (2, .int x2), (3, .int y3), (6, .int y6)]) hx hb d_Code_load_49 hl (by decide) rfl (fun ls hl => ?_)
      refine lv_iinc (v := y6 + (-1)) (lv' := [(6, .int (y6 + (-1))), (4, .long v15), (0, .ref (ad 2 j0)), (1, .ref (ad 14 j1)), (2, .int x2), (3, .int y3)]) hx hb d_Code_load_51 hl (k := 5) rfl (by rfl) (by decide) rfl (fun ls hl => ?_)
      refine lv_goto (tgt := 24) hx hb d_Code_load_54 (by decide) ?_
      exact ih M y3 v15 (y6 + (-1)) _ _ _ h hwf hkp hP hD hS (lv_sub hl [2, 3, 4, 5, 1, 0] rfl)
  have b_12 : ∀ (fu : Nat), ∀ (M : me_M) (y3 : Int32) (H : Heap) (locs : List Loc) (ls : Array Slot), f_Code_load_l12 j0 j1 x2 fu M y3 = (some MZ) → me_wf N M → me_kp M0 M → va_P D classes (me_W ad ca M) H → va_D A (me_W ad ca M) → va_S A s.heap H locs → lv_has ls 7 [(0, .ref (ad 2 j0)), (1, .ref (ad 14 j1)), (2, .int x2), (3, .int y3)] → W p l e rm_Code_load s m [.ref (ad 2 j0), .ref (ad 14 j1), .int x2].toArray below meth c H locs 0 0 (MQ below (q_Code_load D ad ca N M0 MZ A) [.ref (ad 2 j0), .ref (ad 14 j1), .int x2].toArray s rm_Code_load.cells rm_Code_load.slots A) (F0 m 12 ls []) := by
    intro fu
    induction fu with
    | zero =>
      intro M y3 H locs ls h hwf hkp hP hD hS hl
      cases h
    | succ fu ih =>
      intro M y3 H locs ls h hwf hkp hP hD hS hl
      unfold f_Code_load_l12 at h
      have hkb := hkp
      refine lv_iload_n hx hb d_Code_load_12 rfl (lv_at hl 3 rfl) ?_
      refine lv_iload_n hx hb d_Code_load_13 rfl (lv_at hl 2 rfl) ?_
      refine lv_icmp_ge (tgt := 85) hx hb d_Code_load_14 (by decide) (fun c16 => ?_) (fun c16 => ?_)
      · have h := if_t c16 h
        exact me_retv (me_kp M0) h hx hb hr hlocks hwf hkp hP hK hD hS d_Code_load_85
      have h := if_f c16 h
      refine lv_lconst (v := 0) hx hb d_Code_load_17 (by decide) ?_
      refine lv_lstore (lv' := [(4, .long 0), (0, .ref (ad 2 j0)), (1, .ref (ad 14 j1)), (2, .int x2), (3, .int y3)]) hx hb d_Code_load_18 hl (by decide) rfl (fun ls hl => ?_)
      refine lv_bipush (v := 7) hx hb d_Code_load_20 (by decide) ?_
      refine lv_istore (lv' := [(6, .int 7), (4, .long 0), (0, .ref (ad 2 j0)), (1, .ref (ad 14 j1)), (2, .int x2), (3, .int y3)]) hx hb d_Code_load_22 hl (by decide) rfl (fun ls hl => ?_)
      exact b_24 _ ih _ M y3 (0 : Int64) (7 : Int32) _ _ _ h hwf hkp hP hD hS (lv_sub hl [2, 3, 4, 5, 1, 0] rfl)
  refine lv_aload_n hx hb d_Code_load_0 rfl (lv_at hl 0 rfl) ?_
  refine lv_iload_n hx hb d_Code_load_1 rfl (lv_at hl 2 rfl) ?_
  obtain ⟨M17, eM17, h⟩ := st_ob h
  refine p_Code_3 eM17 hx hb hts hown hK hP hD hwf hS hj0 (hts _ u_226) d_Code_load_2 (fun H locs hP hD hwf hS => ?_)
  have hkp := kp_I eM17 hkp
  refine lv_aload_n hx hb d_Code_load_5 rfl (lv_at hl 0 rfl) ?_
  refine lv_iconst (v := (-1)) hx hb d_Code_load_6 (by decide) ?_
  obtain ⟨M18, eM18, h⟩ := st_ob h
  refine p_Code_4 eM18 hx hb hts hown hK hP hD hwf hS hj0 (hts _ u_229) d_Code_load_7 (fun H locs hP hD hwf hS => ?_)
  have hkp := kp_I eM18 hkp
  refine lv_iconst (v := 0) hx hb d_Code_load_10 (by decide) ?_
  refine lv_istore_n (lv' := [(3, .int 0), (0, .ref (ad 2 j0)), (1, .ref (ad 14 j1)), (2, .int x2)]) hx hb d_Code_load_11 rfl hl (by decide) rfl (fun ls hl => ?_)
  exact b_12 _ M18 (0 : Int32) _ _ _ h hwf hkp hP hD hS (lv_sub hl [1, 2, 3, 0] rfl)
theorem d_Facts_clear_2 : decode prog_6_method_2_code 2 = .ok (.iload_n 2, 1) := by decide +kernel
theorem d_Facts_clear_3 : decode prog_6_method_2_code 3 = .ok (.iload_n 1, 1) := by decide +kernel
theorem d_Facts_clear_4 : decode prog_6_method_2_code 4 = .ok (.if_icmp .ge 44, 3) := by decide +kernel
theorem d_Facts_clear_48 : decode prog_6_method_2_code 48 = .ok (.return_, 1) := by decide +kernel
theorem d_Facts_clear_7 : decode prog_6_method_2_code 7 = .ok (.aload_n 0, 1) := by decide +kernel
theorem d_Facts_clear_8 : decode prog_6_method_2_code 8 = .ok (.getfield 9, 3) := by decide +kernel
theorem g_Facts_0 {p : Program} {l : Launch} {e : Env} {R : Room} {s : Jvm.State} {m : MethodId} {args : Array Value} {below : List Frame} {meth : Method} {c : Code} {H : Heap} {locs : List Loc} {cells slots : Nat} {Q : Jvm.State → Prop} {cc : ByteArray} {pc : Nat} {ls : Array Slot} {rest : List Value} {D : va_G} {ad : Nat → Nat → Nat} {ca : Nat → ClassId} {M : me_M} {N : Nat → Nat} {own : String} {index j : Nat} (hexec : p.tables.exec = Jvm.exec) (hb : c.code = cc) (hts : ∀ w ∈ fg_g, w.before args s = true) (hown : s.vm.findClass own = some m.cls) (hK : va_K D classes (me_T ca) s) (hP : va_P D classes (me_W ad ca M) H) (hwf : me_wf N M) (hj : j < N 3) (hlink : (Cond.fieldLink own index "FilterGuard$Facts" "visits" "[I").before args s = true) (hdg : decode cc pc = .ok (.getfield index, 3)) (kk : W p l e R s m args below meth c H locs cells slots Q (F0 m (pc + 3) ls (va_rf ((mR M 3 j 0).map (ad 13)) :: rest))) : W p l e R s m args below meth c H locs cells slots Q (F0 m pc ls (.ref (ad 3 j) :: rest)) := me_get (k := 3) (f := 0) (C := "FilterGuard$Facts") (T := F_Facts) (Nf := 7) hexec hb hts i_Facts hown hK hP hwf hj (by decide) rfl (by decide) (by decide) hlink (fun _ h9 => h9) hdg kk
theorem d_Facts_clear_11 : decode prog_6_method_2_code 11 = .ok (.iload_n 2, 1) := by decide +kernel
theorem d_Facts_clear_12 : decode prog_6_method_2_code 12 = .ok (.iconst 0, 1) := by decide +kernel
theorem d_Facts_clear_13 : decode prog_6_method_2_code 13 = .ok (.iastore, 1) := by decide +kernel
theorem d_Facts_clear_14 : decode prog_6_method_2_code 14 = .ok (.aload_n 0, 1) := by decide +kernel
theorem d_Facts_clear_15 : decode prog_6_method_2_code 15 = .ok (.getfield 15, 3) := by decide +kernel
theorem g_Facts_1 {p : Program} {l : Launch} {e : Env} {R : Room} {s : Jvm.State} {m : MethodId} {args : Array Value} {below : List Frame} {meth : Method} {c : Code} {H : Heap} {locs : List Loc} {cells slots : Nat} {Q : Jvm.State → Prop} {cc : ByteArray} {pc : Nat} {ls : Array Slot} {rest : List Value} {D : va_G} {ad : Nat → Nat → Nat} {ca : Nat → ClassId} {M : me_M} {N : Nat → Nat} {own : String} {index j : Nat} (hexec : p.tables.exec = Jvm.exec) (hb : c.code = cc) (hts : ∀ w ∈ fg_g, w.before args s = true) (hown : s.vm.findClass own = some m.cls) (hK : va_K D classes (me_T ca) s) (hP : va_P D classes (me_W ad ca M) H) (hwf : me_wf N M) (hj : j < N 3) (hlink : (Cond.fieldLink own index "FilterGuard$Facts" "went" "[Z").before args s = true) (hdg : decode cc pc = .ok (.getfield index, 3)) (kk : W p l e R s m args below meth c H locs cells slots Q (F0 m (pc + 3) ls (va_rf ((mR M 3 j 1).map (ad 15)) :: rest))) : W p l e R s m args below meth c H locs cells slots Q (F0 m pc ls (.ref (ad 3 j) :: rest)) := me_get (k := 3) (f := 1) (C := "FilterGuard$Facts") (T := F_Facts) (Nf := 7) hexec hb hts i_Facts hown hK hP hwf hj (by decide) rfl (by decide) (by decide) hlink (fun _ h9 => h9) hdg kk
theorem d_Facts_clear_18 : decode prog_6_method_2_code 18 = .ok (.iload_n 2, 1) := by decide +kernel
theorem d_Facts_clear_19 : decode prog_6_method_2_code 19 = .ok (.iconst 0, 1) := by decide +kernel
theorem d_Facts_clear_20 : decode prog_6_method_2_code 20 = .ok (.bastore, 1) := by decide +kernel
theorem d_Facts_clear_21 : decode prog_6_method_2_code 21 = .ok (.aload_n 0, 1) := by decide +kernel
theorem d_Facts_clear_22 : decode prog_6_method_2_code 22 = .ok (.getfield 19, 3) := by decide +kernel
theorem g_Facts_2 {p : Program} {l : Launch} {e : Env} {R : Room} {s : Jvm.State} {m : MethodId} {args : Array Value} {below : List Frame} {meth : Method} {c : Code} {H : Heap} {locs : List Loc} {cells slots : Nat} {Q : Jvm.State → Prop} {cc : ByteArray} {pc : Nat} {ls : Array Slot} {rest : List Value} {D : va_G} {ad : Nat → Nat → Nat} {ca : Nat → ClassId} {M : me_M} {N : Nat → Nat} {own : String} {index j : Nat} (hexec : p.tables.exec = Jvm.exec) (hb : c.code = cc) (hts : ∀ w ∈ fg_g, w.before args s = true) (hown : s.vm.findClass own = some m.cls) (hK : va_K D classes (me_T ca) s) (hP : va_P D classes (me_W ad ca M) H) (hwf : me_wf N M) (hj : j < N 3) (hlink : (Cond.fieldLink own index "FilterGuard$Facts" "fell" "[Z").before args s = true) (hdg : decode cc pc = .ok (.getfield index, 3)) (kk : W p l e R s m args below meth c H locs cells slots Q (F0 m (pc + 3) ls (va_rf ((mR M 3 j 2).map (ad 15)) :: rest))) : W p l e R s m args below meth c H locs cells slots Q (F0 m pc ls (.ref (ad 3 j) :: rest)) := me_get (k := 3) (f := 2) (C := "FilterGuard$Facts") (T := F_Facts) (Nf := 7) hexec hb hts i_Facts hown hK hP hwf hj (by decide) rfl (by decide) (by decide) hlink (fun _ h9 => h9) hdg kk
theorem d_Facts_clear_25 : decode prog_6_method_2_code 25 = .ok (.iload_n 2, 1) := by decide +kernel
theorem d_Facts_clear_26 : decode prog_6_method_2_code 26 = .ok (.iconst 0, 1) := by decide +kernel
theorem d_Facts_clear_27 : decode prog_6_method_2_code 27 = .ok (.bastore, 1) := by decide +kernel
theorem d_Facts_clear_28 : decode prog_6_method_2_code 28 = .ok (.aload_n 0, 1) := by decide +kernel
theorem d_Facts_clear_29 : decode prog_6_method_2_code 29 = .ok (.getfield 22, 3) := by decide +kernel
theorem g_Facts_3 {p : Program} {l : Launch} {e : Env} {R : Room} {s : Jvm.State} {m : MethodId} {args : Array Value} {below : List Frame} {meth : Method} {c : Code} {H : Heap} {locs : List Loc} {cells slots : Nat} {Q : Jvm.State → Prop} {cc : ByteArray} {pc : Nat} {ls : Array Slot} {rest : List Value} {D : va_G} {ad : Nat → Nat → Nat} {ca : Nat → ClassId} {M : me_M} {N : Nat → Nat} {own : String} {index j : Nat} (hexec : p.tables.exec = Jvm.exec) (hb : c.code = cc) (hts : ∀ w ∈ fg_g, w.before args s = true) (hown : s.vm.findClass own = some m.cls) (hK : va_K D classes (me_T ca) s) (hP : va_P D classes (me_W ad ca M) H) (hwf : me_wf N M) (hj : j < N 3) (hlink : (Cond.fieldLink own index "FilterGuard$Facts" "exactness" "[I").before args s = true) (hdg : decode cc pc = .ok (.getfield index, 3)) (kk : W p l e R s m args below meth c H locs cells slots Q (F0 m (pc + 3) ls (va_rf ((mR M 3 j 3).map (ad 13)) :: rest))) : W p l e R s m args below meth c H locs cells slots Q (F0 m pc ls (.ref (ad 3 j) :: rest)) := me_get (k := 3) (f := 3) (C := "FilterGuard$Facts") (T := F_Facts) (Nf := 7) hexec hb hts i_Facts hown hK hP hwf hj (by decide) rfl (by decide) (by decide) hlink (fun _ h9 => h9) hdg kk
theorem d_Facts_clear_32 : decode prog_6_method_2_code 32 = .ok (.iload_n 2, 1) := by decide +kernel
theorem d_Facts_clear_33 : decode prog_6_method_2_code 33 = .ok (.iconst 0, 1) := by decide +kernel
theorem d_Facts_clear_34 : decode prog_6_method_2_code 34 = .ok (.iastore, 1) := by decide +kernel
theorem d_Facts_clear_35 : decode prog_6_method_2_code 35 = .ok (.aload_n 0, 1) := by decide +kernel
theorem d_Facts_clear_36 : decode prog_6_method_2_code 36 = .ok (.getfield 25, 3) := by decide +kernel
theorem g_Facts_4 {p : Program} {l : Launch} {e : Env} {R : Room} {s : Jvm.State} {m : MethodId} {args : Array Value} {below : List Frame} {meth : Method} {c : Code} {H : Heap} {locs : List Loc} {cells slots : Nat} {Q : Jvm.State → Prop} {cc : ByteArray} {pc : Nat} {ls : Array Slot} {rest : List Value} {D : va_G} {ad : Nat → Nat → Nat} {ca : Nat → ClassId} {M : me_M} {N : Nat → Nat} {own : String} {index j : Nat} (hexec : p.tables.exec = Jvm.exec) (hb : c.code = cc) (hts : ∀ w ∈ fg_g, w.before args s = true) (hown : s.vm.findClass own = some m.cls) (hK : va_K D classes (me_T ca) s) (hP : va_P D classes (me_W ad ca M) H) (hwf : me_wf N M) (hj : j < N 3) (hlink : (Cond.fieldLink own index "FilterGuard$Facts" "exactNumber" "[J").before args s = true) (hdg : decode cc pc = .ok (.getfield index, 3)) (kk : W p l e R s m args below meth c H locs cells slots Q (F0 m (pc + 3) ls (va_rf ((mR M 3 j 4).map (ad 16)) :: rest))) : W p l e R s m args below meth c H locs cells slots Q (F0 m pc ls (.ref (ad 3 j) :: rest)) := me_get (k := 3) (f := 4) (C := "FilterGuard$Facts") (T := F_Facts) (Nf := 7) hexec hb hts i_Facts hown hK hP hwf hj (by decide) rfl (by decide) (by decide) hlink (fun _ h9 => h9) hdg kk
theorem d_Facts_clear_39 : decode prog_6_method_2_code 39 = .ok (.iload_n 2, 1) := by decide +kernel
theorem d_Facts_clear_40 : decode prog_6_method_2_code 40 = .ok (.lconst 0, 1) := by decide +kernel
theorem d_Facts_clear_41 : decode prog_6_method_2_code 41 = .ok (.lastore, 1) := by decide +kernel
theorem d_Facts_clear_42 : decode prog_6_method_2_code 42 = .ok (.iinc 2 1, 3) := by decide +kernel
theorem d_Facts_clear_45 : decode prog_6_method_2_code 45 = .ok (.goto (-43), 3) := by decide +kernel
theorem d_Facts_clear_0 : decode prog_6_method_2_code 0 = .ok (.iconst 0, 1) := by decide +kernel
theorem d_Facts_clear_1 : decode prog_6_method_2_code 1 = .ok (.istore_n 2, 1) := by decide +kernel
abbrev y_Facts_clear : MethodName := ⟨"FilterGuard$Facts", "clear", "(I)V"⟩
def rm_Facts_clear : Room := { frames := 1, cells := 0, slots := 0, locals := 20 }
abbrev q_Facts_clear (D : va_G) (ad : Nat → Nat → Nat) (ca : Nat → ClassId) (N : Nat → Nat) (M0 MZ : me_M) (A : Nat → Prop) : Array Value → Jvm.State → Outcome → Jvm.State → Prop := va_Qv (fun (_ : Unit) => me_wf N MZ ∧ me_kp M0 MZ) (fg_B D A (fun _ => me_W ad ca MZ) (fun _ => [])) A
set_option maxHeartbeats 4000000 in
set_option maxRecDepth 100000 in
theorem c_Facts_clear (l : Launch) (D : va_G) (ad : Nat → Nat → Nat) (ca : Nat → ClassId) (N : Nat → Nat) (M0 MZ : me_M) (j0 : Nat) (x1 : Int32) (h : f_Facts_clear M0 j0 x1 = (some MZ)) (hwf : me_wf N M0) (hj0 : j0 < N 3) (sz : Nat) : Met l y_Facts_clear (fg_w y_Facts_clear prog_6_method_2_code 3 none) rm_Facts_clear (va_Pc [.ref (ad 3 j0), .int x1] (fz_P D (me_T ca) (me_W ad ca M0) sz)) (q_Facts_clear D ad ca N M0 MZ (va_A (me_W ad ca M0) sz)) rm_Facts_clear.cells rm_Facts_clear.slots (va_A (me_W ad ca M0) sz) := by
  refine fz_enter (fun A => q_Facts_clear D ad ca N M0 MZ A) (by decide +kernel) (Nat.le_of_ble_eq_true rfl) ?_
  intro p e s m below meth c ls A hx hb hml hown hts hr hlocks hin hP hK hD hS hA hX hl hz
  have hl : lv_has ls 3 [(0, .ref (ad 3 j0)), (1, .int x1)] := hl
  unfold f_Facts_clear at h
  have hkp : me_kp M0 M0 := me_kp.rf
  have hkb := hkp
  have b_2 : ∀ (fu : Nat), ∀ (M : me_M) (y2 : Int32) (H : Heap) (locs : List Loc) (ls : Array Slot), f_Facts_clear_l2 j0 x1 fu M y2 = (some MZ) → me_wf N M → me_kp M0 M → va_P D classes (me_W ad ca M) H → va_D A (me_W ad ca M) → va_S A s.heap H locs → lv_has ls 3 [(0, .ref (ad 3 j0)), (1, .int x1), (2, .int y2)] → W p l e rm_Facts_clear s m [.ref (ad 3 j0), .int x1].toArray below meth c H locs 0 0 (MQ below (q_Facts_clear D ad ca N M0 MZ A) [.ref (ad 3 j0), .int x1].toArray s rm_Facts_clear.cells rm_Facts_clear.slots A) (F0 m 2 ls []) := by
    intro fu
    induction fu with
    | zero =>
      intro M y2 H locs ls h hwf hkp hP hD hS hl
      cases h
    | succ fu ih =>
      intro M y2 H locs ls h hwf hkp hP hD hS hl
      unfold f_Facts_clear_l2 at h
      have hkb := hkp
      refine lv_iload_n hx hb d_Facts_clear_2 rfl (lv_at hl 2 rfl) ?_
      refine lv_iload_n hx hb d_Facts_clear_3 rfl (lv_at hl 1 rfl) ?_
      refine lv_icmp_ge (tgt := 48) hx hb d_Facts_clear_4 (by decide) (fun c1 => ?_) (fun c1 => ?_)
      · have h := if_t c1 h
        exact me_retv (me_kp M0) h hx hb hr hlocks hwf hkp hP hK hD hS d_Facts_clear_48
      have h := if_f c1 h
      refine lv_aload_n hx hb d_Facts_clear_7 rfl (lv_at hl 0 rfl) ?_
      refine g_Facts_0 hx hb hts hown hK hP hwf hj0 (hts _ u_318) d_Facts_clear_8 ?_
      obtain ⟨j2, e3, h⟩ := bd_ob h
      have hj2 : j2 < N 13 := (hwf.2.1 3 j0 0 _ e3 (by decide) hj0)
      refine me_opt (j := j2) e3 ?_
      refine lv_iload_n hx hb d_Facts_clear_11 rfl (lv_at hl 2 rfl) ?_
      refine lv_iconst (v := 0) hx hb d_Facts_clear_12 (by decide) ?_
      obtain ⟨g4, h⟩ := gd_ob h
      obtain ⟨M5, eM5, h⟩ := st_ob h
      refine me_iast eM5 hx hb hK hP hD hwf hS hj2 g4 d_Facts_clear_13 (fun H locs hP hD hwf hS => ?_)
      have hkp := kp_I eM5 hkp
      refine lv_aload_n hx hb d_Facts_clear_14 rfl (lv_at hl 0 rfl) ?_
      refine g_Facts_1 hx hb hts hown hK hP hwf hj0 (hts _ u_319) d_Facts_clear_15 ?_
      obtain ⟨j6, e7, h⟩ := bd_ob h
      have hj6 : j6 < N 15 := (hwf.2.1 3 j0 1 _ (kp_r hkb hkp e7) (by decide) hj0)
      refine me_opt (j := j6) (kp_r hkb hkp e7) ?_
      refine lv_iload_n hx hb d_Facts_clear_18 rfl (lv_at hl 2 rfl) ?_
      refine lv_iconst (v := 0) hx hb d_Facts_clear_19 (by decide) ?_
      obtain ⟨g8, h⟩ := gd_ob h
      obtain ⟨M9, eM9, h⟩ := st_ob h
      refine me_zast eM9 hx hb hK hP hD hwf hS hj6 (kp_z hkb.z hkp.z g8) d_Facts_clear_20 (fun H locs hP hD hwf hS => ?_)
      have hkp := kp_I eM9 hkp
      refine lv_aload_n hx hb d_Facts_clear_21 rfl (lv_at hl 0 rfl) ?_
      refine g_Facts_2 hx hb hts hown hK hP hwf hj0 (hts _ u_320) d_Facts_clear_22 ?_
      obtain ⟨j10, e11, h⟩ := bd_ob h
      have hj10 : j10 < N 15 := (hwf.2.1 3 j0 2 _ (kp_r hkb hkp e11) (by decide) hj0)
      refine me_opt (j := j10) (kp_r hkb hkp e11) ?_
      refine lv_iload_n hx hb d_Facts_clear_25 rfl (lv_at hl 2 rfl) ?_
      refine lv_iconst (v := 0) hx hb d_Facts_clear_26 (by decide) ?_
      obtain ⟨g12, h⟩ := gd_ob h
      obtain ⟨M13, eM13, h⟩ := st_ob h
      refine me_zast eM13 hx hb hK hP hD hwf hS hj10 (kp_z hkb.z hkp.z g12) d_Facts_clear_27 (fun H locs hP hD hwf hS => ?_)
      have hkp := kp_I eM13 hkp
      refine lv_aload_n hx hb d_Facts_clear_28 rfl (lv_at hl 0 rfl) ?_
      refine g_Facts_3 hx hb hts hown hK hP hwf hj0 (hts _ u_321) d_Facts_clear_29 ?_
      obtain ⟨j14, e15, h⟩ := bd_ob h
      have hj14 : j14 < N 13 := (hwf.2.1 3 j0 3 _ (kp_r hkb hkp e15) (by decide) hj0)
      refine me_opt (j := j14) (kp_r hkb hkp e15) ?_
      refine lv_iload_n hx hb d_Facts_clear_32 rfl (lv_at hl 2 rfl) ?_
      refine lv_iconst (v := 0) hx hb d_Facts_clear_33 (by decide) ?_
      obtain ⟨g16, h⟩ := gd_ob h
      obtain ⟨M17, eM17, h⟩ := st_ob h
      refine me_iast eM17 hx hb hK hP hD hwf hS hj14 (kp_z hkb.z hkp.z g16) d_Facts_clear_34 (fun H locs hP hD hwf hS => ?_)
      have hkp := kp_I eM17 hkp
      refine lv_aload_n hx hb d_Facts_clear_35 rfl (lv_at hl 0 rfl) ?_
      refine g_Facts_4 hx hb hts hown hK hP hwf hj0 (hts _ u_322) d_Facts_clear_36 ?_
      obtain ⟨j18, e19, h⟩ := bd_ob h
      have hj18 : j18 < N 16 := (hwf.2.1 3 j0 4 _ (kp_r hkb hkp e19) (by decide) hj0)
      refine me_opt (j := j18) (kp_r hkb hkp e19) ?_
      refine lv_iload_n hx hb d_Facts_clear_39 rfl (lv_at hl 2 rfl) ?_
      refine lv_lconst (v := 0) hx hb d_Facts_clear_40 (by decide) ?_
      obtain ⟨g20, h⟩ := gd_ob h
      obtain ⟨M21, eM21, h⟩ := st_ob h
      refine me_last eM21 hx hb hK hP hD hwf hS hj18 (kp_z hkb.z hkp.z g20) d_Facts_clear_41 (fun H locs hP hD hwf hS => ?_)
      have hkp := kp_L eM21 hkp
      refine lv_iinc (v := y2 + 1) (lv' := [(2, .int (y2 + 1)), (0, .ref (ad 3 j0)), (1, .int x1)]) hx hb d_Facts_clear_42 hl (k := 2) rfl (by rfl) (by decide) rfl (fun ls hl => ?_)
      refine lv_goto (tgt := 2) hx hb d_Facts_clear_45 (by decide) ?_
      exact ih M21 (y2 + 1) _ _ _ h hwf hkp hP hD hS (lv_sub hl [1, 2, 0] rfl)
  refine lv_iconst (v := 0) hx hb d_Facts_clear_0 (by decide) ?_
  refine lv_istore_n (lv' := [(2, .int 0), (0, .ref (ad 3 j0)), (1, .int x1)]) hx hb d_Facts_clear_1 rfl hl (by decide) rfl (fun ls hl => ?_)
  exact b_2 _ M0 (0 : Int32) _ _ _ h hwf hkp hP hD hS (lv_sub hl [1, 2, 0] rfl)
