theorem d_M_findEntry_92 : decode prog_14_method_116_code 92 = .ok (.iload 5, 2) := by decide +kernel
theorem d_M_findEntry_94 : decode prog_14_method_116_code 94 = .ok (.aload_n 0, 1) := by decide +kernel
theorem d_M_findEntry_95 : decode prog_14_method_116_code 95 = .ok (.getfield 18, 3) := by decide +kernel
theorem d_M_findEntry_98 : decode prog_14_method_116_code 98 = .ok (.iload_n 1, 1) := by decide +kernel
theorem d_M_findEntry_99 : decode prog_14_method_116_code 99 = .ok (.iaload, 1) := by decide +kernel
theorem d_M_findEntry_100 : decode prog_14_method_116_code 100 = .ok (.if_icmp .ge 48, 3) := by decide +kernel
theorem d_M_findEntry_148 : decode prog_14_method_116_code 148 = .ok (.iload 4, 2) := by decide +kernel
theorem d_M_findEntry_150 : decode prog_14_method_116_code 150 = .ok (.ifCond .eq 7, 3) := by decide +kernel
theorem d_M_findEntry_157 : decode prog_14_method_116_code 157 = .ok (.iload_n 2, 1) := by decide +kernel
theorem d_M_findEntry_158 : decode prog_14_method_116_code 158 = .ok (.istore_n 2, 1) := by decide +kernel
theorem d_M_findEntry_159 : decode prog_14_method_116_code 159 = .ok (.iinc 3 1, 3) := by decide +kernel
theorem d_M_findEntry_162 : decode prog_14_method_116_code 162 = .ok (.goto (-96), 3) := by decide +kernel
theorem d_M_findEntry_153 : decode prog_14_method_116_code 153 = .ok (.iload_n 3, 1) := by decide +kernel
theorem d_M_findEntry_154 : decode prog_14_method_116_code 154 = .ok (.goto 4, 3) := by decide +kernel
theorem d_M_findEntry_103 : decode prog_14_method_116_code 103 = .ok (.iload 4, 2) := by decide +kernel
theorem d_M_findEntry_105 : decode prog_14_method_116_code 105 = .ok (.ifCond .eq 34, 3) := by decide +kernel
theorem d_M_findEntry_139 : decode prog_14_method_116_code 139 = .ok (.iconst 0, 1) := by decide +kernel
theorem d_M_findEntry_140 : decode prog_14_method_116_code 140 = .ok (.istore 4, 2) := by decide +kernel
theorem d_M_findEntry_142 : decode prog_14_method_116_code 142 = .ok (.iinc 5 1, 3) := by decide +kernel
theorem d_M_findEntry_145 : decode prog_14_method_116_code 145 = .ok (.goto (-53), 3) := by decide +kernel
theorem d_M_findEntry_108 : decode prog_14_method_116_code 108 = .ok (.aload_n 0, 1) := by decide +kernel
theorem d_M_findEntry_109 : decode prog_14_method_116_code 109 = .ok (.getfield 31, 3) := by decide +kernel
theorem g_M_10 {p : Program} {l : Launch} {e : Env} {R : Room} {s : Jvm.State} {m : MethodId} {args : Array Value} {below : List Frame} {meth : Method} {c : Code} {H : Heap} {locs : List Loc} {cells slots : Nat} {Q : Jvm.State → Prop} {cc : ByteArray} {pc : Nat} {ls : Array Slot} {rest : List Value} {D : va_G} {ad : Nat → Nat → Nat} {ca : Nat → ClassId} {M : me_M} {N : Nat → Nat} {own : String} {index j : Nat} (hexec : p.tables.exec = Jvm.exec) (hb : c.code = cc) (hts : ∀ w ∈ fg_g, w.before args s = true) (hown : s.vm.findClass own = some m.cls) (hK : va_K D classes (me_T ca) s) (hP : va_P D classes (me_W ad ca M) H) (hwf : me_wf N M) (hj : j < N 1) (hlink : (Cond.fieldLink own index "FilterGuardModel" "keys" "[B").before args s = true) (hdg : decode cc pc = .ok (.getfield index, 3)) (kk : W p l e R s m args below meth c H locs cells slots Q (F0 m (pc + 3) ls (va_rf ((mR M 1 j 10).map (ad 14)) :: rest))) : W p l e R s m args below meth c H locs cells slots Q (F0 m pc ls (.ref (ad 1 j) :: rest)) := me_get (k := 1) (f := 10) (C := "FilterGuardModel") (T := F_M) (Nf := 75) hexec hb hts i_M hown hK hP hwf hj (by decide) rfl (by decide) (by decide) hlink (fun _ h9 => h9) hdg kk
theorem d_M_findEntry_112 : decode prog_14_method_116_code 112 = .ok (.bipush 16, 2) := by decide +kernel
theorem d_M_findEntry_114 : decode prog_14_method_116_code 114 = .ok (.bipush 64, 2) := by decide +kernel
theorem d_M_findEntry_116 : decode prog_14_method_116_code 116 = .ok (.iload_n 1, 1) := by decide +kernel
theorem d_M_findEntry_117 : decode prog_14_method_116_code 117 = .ok (.imul, 1) := by decide +kernel
theorem d_M_findEntry_118 : decode prog_14_method_116_code 118 = .ok (.iload_n 3, 1) := by decide +kernel
theorem d_M_findEntry_119 : decode prog_14_method_116_code 119 = .ok (.iadd, 1) := by decide +kernel
theorem d_M_findEntry_120 : decode prog_14_method_116_code 120 = .ok (.imul, 1) := by decide +kernel
theorem d_M_findEntry_121 : decode prog_14_method_116_code 121 = .ok (.iload 5, 2) := by decide +kernel
theorem d_M_findEntry_123 : decode prog_14_method_116_code 123 = .ok (.iadd, 1) := by decide +kernel
theorem d_M_findEntry_124 : decode prog_14_method_116_code 124 = .ok (.baload, 1) := by decide +kernel
theorem d_M_findEntry_125 : decode prog_14_method_116_code 125 = .ok (.aload_n 0, 1) := by decide +kernel
theorem d_M_findEntry_126 : decode prog_14_method_116_code 126 = .ok (.getfield 83, 3) := by decide +kernel
theorem g_M_45 {p : Program} {l : Launch} {e : Env} {R : Room} {s : Jvm.State} {m : MethodId} {args : Array Value} {below : List Frame} {meth : Method} {c : Code} {H : Heap} {locs : List Loc} {cells slots : Nat} {Q : Jvm.State → Prop} {cc : ByteArray} {pc : Nat} {ls : Array Slot} {rest : List Value} {D : va_G} {ad : Nat → Nat → Nat} {ca : Nat → ClassId} {M : me_M} {N : Nat → Nat} {own : String} {index j : Nat} (hexec : p.tables.exec = Jvm.exec) (hb : c.code = cc) (hts : ∀ w ∈ fg_g, w.before args s = true) (hown : s.vm.findClass own = some m.cls) (hK : va_K D classes (me_T ca) s) (hP : va_P D classes (me_W ad ca M) H) (hwf : me_wf N M) (hj : j < N 1) (hlink : (Cond.fieldLink own index "FilterGuardModel" "keyRead" "[B").before args s = true) (hdg : decode cc pc = .ok (.getfield index, 3)) (kk : W p l e R s m args below meth c H locs cells slots Q (F0 m (pc + 3) ls (va_rf ((mR M 1 j 45).map (ad 14)) :: rest))) : W p l e R s m args below meth c H locs cells slots Q (F0 m pc ls (.ref (ad 1 j) :: rest)) := me_get (k := 1) (f := 45) (C := "FilterGuardModel") (T := F_M) (Nf := 75) hexec hb hts i_M hown hK hP hwf hj (by decide) rfl (by decide) (by decide) hlink (fun _ h9 => h9) hdg kk
theorem d_M_findEntry_129 : decode prog_14_method_116_code 129 = .ok (.iload 5, 2) := by decide +kernel
theorem d_M_findEntry_131 : decode prog_14_method_116_code 131 = .ok (.baload, 1) := by decide +kernel
theorem d_M_findEntry_132 : decode prog_14_method_116_code 132 = .ok (.if_icmp .ne 7, 3) := by decide +kernel
theorem d_M_findEntry_135 : decode prog_14_method_116_code 135 = .ok (.iconst 1, 1) := by decide +kernel
theorem d_M_findEntry_136 : decode prog_14_method_116_code 136 = .ok (.goto 4, 3) := by decide +kernel
theorem d_M_findEntry_66 : decode prog_14_method_116_code 66 = .ok (.iload_n 3, 1) := by decide +kernel
theorem d_M_findEntry_67 : decode prog_14_method_116_code 67 = .ok (.aload_n 0, 1) := by decide +kernel
theorem d_M_findEntry_68 : decode prog_14_method_116_code 68 = .ok (.getfield 24, 3) := by decide +kernel
theorem d_M_findEntry_71 : decode prog_14_method_116_code 71 = .ok (.iload_n 1, 1) := by decide +kernel
theorem d_M_findEntry_72 : decode prog_14_method_116_code 72 = .ok (.iaload, 1) := by decide +kernel
theorem d_M_findEntry_73 : decode prog_14_method_116_code 73 = .ok (.if_icmp .ge 92, 3) := by decide +kernel
theorem d_M_findEntry_165 : decode prog_14_method_116_code 165 = .ok (.iload_n 2, 1) := by decide +kernel
theorem d_M_findEntry_166 : decode prog_14_method_116_code 166 = .ok (.ireturn, 1) := by decide +kernel
theorem d_M_findEntry_76 : decode prog_14_method_116_code 76 = .ok (.aload_n 0, 1) := by decide +kernel
theorem d_M_findEntry_77 : decode prog_14_method_116_code 77 = .ok (.getfield 27, 3) := by decide +kernel
theorem d_M_findEntry_80 : decode prog_14_method_116_code 80 = .ok (.bipush 64, 2) := by decide +kernel
theorem d_M_findEntry_82 : decode prog_14_method_116_code 82 = .ok (.iload_n 1, 1) := by decide +kernel
theorem d_M_findEntry_83 : decode prog_14_method_116_code 83 = .ok (.imul, 1) := by decide +kernel
theorem d_M_findEntry_84 : decode prog_14_method_116_code 84 = .ok (.iload_n 3, 1) := by decide +kernel
theorem d_M_findEntry_85 : decode prog_14_method_116_code 85 = .ok (.iadd, 1) := by decide +kernel
theorem d_M_findEntry_86 : decode prog_14_method_116_code 86 = .ok (.baload, 1) := by decide +kernel
theorem d_M_findEntry_87 : decode prog_14_method_116_code 87 = .ok (.istore 4, 2) := by decide +kernel
theorem d_M_findEntry_89 : decode prog_14_method_116_code 89 = .ok (.iconst 0, 1) := by decide +kernel
theorem d_M_findEntry_90 : decode prog_14_method_116_code 90 = .ok (.istore 5, 2) := by decide +kernel
theorem d_M_findEntry_14 : decode prog_14_method_116_code 14 = .ok (.iload 4, 2) := by decide +kernel
theorem d_M_findEntry_16 : decode prog_14_method_116_code 16 = .ok (.ifCond .lt 27, 3) := by decide +kernel
theorem d_M_findEntry_43 : decode prog_14_method_116_code 43 = .ok (.lload_n 2, 1) := by decide +kernel
theorem d_M_findEntry_44 : decode prog_14_method_116_code 44 = .ok (.aload_n 0, 1) := by decide +kernel
theorem d_M_findEntry_45 : decode prog_14_method_116_code 45 = .ok (.getfield 24, 3) := by decide +kernel
theorem d_M_findEntry_48 : decode prog_14_method_116_code 48 = .ok (.iload_n 1, 1) := by decide +kernel
theorem d_M_findEntry_49 : decode prog_14_method_116_code 49 = .ok (.iaload, 1) := by decide +kernel
theorem d_M_findEntry_50 : decode prog_14_method_116_code 50 = .ok (.i2l, 1) := by decide +kernel
theorem d_M_findEntry_51 : decode prog_14_method_116_code 51 = .ok (.lcmp, 1) := by decide +kernel
theorem d_M_findEntry_52 : decode prog_14_method_116_code 52 = .ok (.ifCond .ge 8, 3) := by decide +kernel
theorem d_M_findEntry_60 : decode prog_14_method_116_code 60 = .ok (.iconst (-1), 1) := by decide +kernel
theorem d_M_findEntry_61 : decode prog_14_method_116_code 61 = .ok (.ireturn, 1) := by decide +kernel
theorem d_M_findEntry_55 : decode prog_14_method_116_code 55 = .ok (.lload_n 2, 1) := by decide +kernel
theorem d_M_findEntry_56 : decode prog_14_method_116_code 56 = .ok (.l2i, 1) := by decide +kernel
theorem d_M_findEntry_57 : decode prog_14_method_116_code 57 = .ok (.goto 4, 3) := by decide +kernel
theorem d_M_findEntry_19 : decode prog_14_method_116_code 19 = .ok (.lload_n 2, 1) := by decide +kernel
theorem d_M_findEntry_20 : decode prog_14_method_116_code 20 = .ok (.bipush 8, 2) := by decide +kernel
theorem d_M_findEntry_22 : decode prog_14_method_116_code 22 = .ok (.lshl, 1) := by decide +kernel
theorem d_M_findEntry_23 : decode prog_14_method_116_code 23 = .ok (.aload_n 0, 1) := by decide +kernel
theorem d_M_findEntry_24 : decode prog_14_method_116_code 24 = .ok (.getfield 83, 3) := by decide +kernel
theorem d_M_findEntry_27 : decode prog_14_method_116_code 27 = .ok (.iload 4, 2) := by decide +kernel
theorem d_M_findEntry_29 : decode prog_14_method_116_code 29 = .ok (.baload, 1) := by decide +kernel
theorem d_M_findEntry_30 : decode prog_14_method_116_code 30 = .ok (.i2l, 1) := by decide +kernel
theorem d_M_findEntry_31 : decode prog_14_method_116_code 31 = .ok (.ldc2_w 218, 3) := by decide +kernel
theorem d_M_findEntry_34 : decode prog_14_method_116_code 34 = .ok (.land, 1) := by decide +kernel
theorem d_M_findEntry_35 : decode prog_14_method_116_code 35 = .ok (.lor, 1) := by decide +kernel
theorem d_M_findEntry_36 : decode prog_14_method_116_code 36 = .ok (.lstore_n 2, 1) := by decide +kernel
theorem d_M_findEntry_37 : decode prog_14_method_116_code 37 = .ok (.iinc 4 (-1), 3) := by decide +kernel
theorem d_M_findEntry_40 : decode prog_14_method_116_code 40 = .ok (.goto (-26), 3) := by decide +kernel
theorem d_M_findEntry_0 : decode prog_14_method_116_code 0 = .ok (.aload_n 0, 1) := by decide +kernel
theorem d_M_findEntry_1 : decode prog_14_method_116_code 1 = .ok (.getfield 14, 3) := by decide +kernel
theorem d_M_findEntry_4 : decode prog_14_method_116_code 4 = .ok (.iload_n 1, 1) := by decide +kernel
theorem d_M_findEntry_5 : decode prog_14_method_116_code 5 = .ok (.iaload, 1) := by decide +kernel
theorem d_M_findEntry_6 : decode prog_14_method_116_code 6 = .ok (.ifCond .ne 56, 3) := by decide +kernel
theorem d_M_findEntry_62 : decode prog_14_method_116_code 62 = .ok (.iconst (-1), 1) := by decide +kernel
theorem d_M_findEntry_63 : decode prog_14_method_116_code 63 = .ok (.istore_n 2, 1) := by decide +kernel
theorem d_M_findEntry_64 : decode prog_14_method_116_code 64 = .ok (.iconst 0, 1) := by decide +kernel
theorem d_M_findEntry_65 : decode prog_14_method_116_code 65 = .ok (.istore_n 3, 1) := by decide +kernel
theorem d_M_findEntry_9 : decode prog_14_method_116_code 9 = .ok (.lconst 0, 1) := by decide +kernel
theorem d_M_findEntry_10 : decode prog_14_method_116_code 10 = .ok (.lstore_n 2, 1) := by decide +kernel
theorem d_M_findEntry_11 : decode prog_14_method_116_code 11 = .ok (.iconst 3, 1) := by decide +kernel
theorem d_M_findEntry_12 : decode prog_14_method_116_code 12 = .ok (.istore 4, 2) := by decide +kernel
abbrev y_M_findEntry : MethodName := ⟨"FilterGuardModel", "findEntry", "(I)I"⟩
def rm_M_findEntry : Room := { frames := 1, cells := 0, slots := 0, locals := 20 }
abbrev q_M_findEntry (D : va_G) (ad : Nat → Nat → Nat) (ca : Nat → ClassId) (N : Nat → Nat) (M0 MZ : me_M) (RZ : Int32) (A : Nat → Prop) : Array Value → Jvm.State → Outcome → Jvm.State → Prop := va_Qi (fun r (_ : Unit) => r = RZ ∧ me_wf N MZ ∧ me_kp M0 MZ) (fg_B D A (fun _ => me_W ad ca MZ) (fun _ => [])) A
set_option maxHeartbeats 4000000 in
set_option maxRecDepth 100000 in
theorem c_M_findEntry (l : Launch) (D : va_G) (ad : Nat → Nat → Nat) (ca : Nat → ClassId) (N : Nat → Nat) (M0 MZ : me_M) (RZ : Int32) (j0 : Nat) (x1 : Int32) (h : f_M_findEntry M0 j0 x1 = (some (MZ, RZ))) (hwf : me_wf N M0) (hj0 : j0 < N 1) (sz : Nat) : Met l y_M_findEntry (fg_w y_M_findEntry prog_14_method_116_code 6 (some .int)) rm_M_findEntry (va_Pc [.ref (ad 1 j0), .int x1] (fz_P D (me_T ca) (me_W ad ca M0) sz)) (q_M_findEntry D ad ca N M0 MZ RZ (va_A (me_W ad ca M0) sz)) rm_M_findEntry.cells rm_M_findEntry.slots (va_A (me_W ad ca M0) sz) := by
  refine fz_enter (fun A => q_M_findEntry D ad ca N M0 MZ RZ A) (by decide +kernel) (Nat.le_of_ble_eq_true rfl) ?_
  intro p e s m below meth c ls A hx hb hml hown hts hr hlocks hin hP hK hD hS hA hX hl hz
  have hl : lv_has ls 6 [(0, .ref (ad 1 j0)), (1, .int x1)] := hl
  unfold f_M_findEntry at h
  have hkp : me_kp M0 M0 := me_kp.rf
  have hkb := hkp
  have b_92 : ∀ (k66 : me_M → Int32 → Int32 → Option (me_M × Int32)) (hk66 : ∀ (M : me_M) (y2 : Int32) (y3 : Int32) (H : Heap) (locs : List Loc) (ls : Array Slot), k66 M y2 y3 = (some (MZ, RZ)) → me_wf N M → me_kp M0 M → va_P D classes (me_W ad ca M) H → va_D A (me_W ad ca M) → va_S A s.heap H locs → lv_has ls 6 [(0, .ref (ad 1 j0)), (1, .int x1), (2, .int y2), (3, .int y3)] → W p l e rm_M_findEntry s m [.ref (ad 1 j0), .int x1].toArray below meth c H locs 0 0 (MQ below (q_M_findEntry D ad ca N M0 MZ RZ A) [.ref (ad 1 j0), .int x1].toArray s rm_M_findEntry.cells rm_M_findEntry.slots A) (F0 m 66 ls [])), ∀ (fu : Nat), ∀ (M : me_M) (y2 : Int32) (y3 : Int32) (y4 : Int32) (y5 : Int32) (H : Heap) (locs : List Loc) (ls : Array Slot), f_M_findEntry_l92 k66 j0 x1 fu M y2 y3 y4 y5 = (some (MZ, RZ)) → (y4 = 1 ∨ y4 = 0) → me_wf N M → me_kp M0 M → va_P D classes (me_W ad ca M) H → va_D A (me_W ad ca M) → va_S A s.heap H locs → lv_has ls 6 [(0, .ref (ad 1 j0)), (1, .int x1), (2, .int y2), (3, .int y3), (4, .int y4), (5, .int y5)] → W p l e rm_M_findEntry s m [.ref (ad 1 j0), .int x1].toArray below meth c H locs 0 0 (MQ below (q_M_findEntry D ad ca N M0 MZ RZ A) [.ref (ad 1 j0), .int x1].toArray s rm_M_findEntry.cells rm_M_findEntry.slots A) (F0 m 92 ls []) := by
    intro k66 hk66 fu
    induction fu with
    | zero =>
      intro M y2 y3 y4 y5 H locs ls h zy4 hwf hkp hP hD hS hl
      cases h
    | succ fu ih =>
      intro M y2 y3 y4 y5 H locs ls h zy4 hwf hkp hP hD hS hl
      unfold f_M_findEntry_l92 at h
      have hkb := hkp
      refine lv_iload hx hb d_M_findEntry_92 (lv_at hl 5 rfl) ?_
      refine lv_aload_n hx hb d_M_findEntry_94 rfl (lv_at hl 0 rfl) ?_
      refine g_M_6 hx hb hts hown hK hP hwf hj0 (hts _ u_1747) d_M_findEntry_95 ?_
      obtain ⟨j1, e2, h⟩ := bd_ob h
      have hj1 : j1 < N 13 := (hwf.2.1 1 j0 6 _ e2 (by decide) hj0)
      refine me_opt (j := j1) e2 ?_
      refine lv_iload_n hx hb d_M_findEntry_98 rfl (lv_at hl 1 rfl) ?_
      obtain ⟨g3, h⟩ := gd_ob h
      refine me_iald hx hb hK hP hwf hj1 g3 d_M_findEntry_99 ?_
      refine lv_icmp_ge (tgt := 148) hx hb d_M_findEntry_100 (by decide) (fun c4 => ?_) (fun c4 => ?_)
      · have h := if_t c4 h
        refine lv_iload hx hb d_M_findEntry_148 (lv_at hl 4 rfl) ?_
        refine lv_if_eq (tgt := 157) hx hb d_M_findEntry_150 (by decide) (fun c5 => ?_) (fun c5 => ?_)
        · have h := if_t c5 h
          refine lv_iload_n hx hb d_M_findEntry_157 rfl (lv_at hl 2 rfl) ?_
          refine lv_istore_n (lv' := [(2, .int y2), (0, .ref (ad 1 j0)), (1, .int x1), (3, .int y3), (4, .int y4), (5, .int y5)]) hx hb d_M_findEntry_158 rfl hl (by decide) rfl (fun ls hl => ?_)
          refine lv_iinc (v := y3 + 1) (lv' := [(3, .int (y3 + 1)), (2, .int y2), (0, .ref (ad 1 j0)), (1, .int x1), (4, .int y4), (5, .int y5)]) hx hb d_M_findEntry_159 hl (k := 3) rfl (by rfl) (by decide) rfl (fun ls hl => ?_)
          refine lv_goto (tgt := 66) hx hb d_M_findEntry_162 (by decide) ?_
          exact hk66 M y2 (y3 + 1) _ _ _ h hwf hkp hP hD hS (lv_sub hl [2, 3, 1, 0] rfl)
        have h := if_f c5 h
        refine lv_iload_n hx hb d_M_findEntry_153 rfl (lv_at hl 3 rfl) ?_
        refine lv_goto (tgt := 158) hx hb d_M_findEntry_154 (by decide) ?_
        refine lv_istore_n (lv' := [(2, .int y3), (0, .ref (ad 1 j0)), (1, .int x1), (3, .int y3), (4, .int y4), (5, .int y5)]) hx hb d_M_findEntry_158 rfl hl (by decide) rfl (fun ls hl => ?_)
        refine lv_iinc (v := y3 + 1) (lv' := [(3, .int (y3 + 1)), (2, .int y3), (0, .ref (ad 1 j0)), (1, .int x1), (4, .int y4), (5, .int y5)]) hx hb d_M_findEntry_159 hl (k := 3) rfl (by rfl) (by decide) rfl (fun ls hl => ?_)
        refine lv_goto (tgt := 66) hx hb d_M_findEntry_162 (by decide) ?_
        exact hk66 M y3 (y3 + 1) _ _ _ h hwf hkp hP hD hS (lv_sub hl [2, 3, 1, 0] rfl)
      have h := if_f c4 h
      refine lv_iload hx hb d_M_findEntry_103 (lv_at hl 4 rfl) ?_
      refine lv_if_eq (tgt := 139) hx hb d_M_findEntry_105 (by decide) (fun c6 => ?_) (fun c6 => ?_)
      · have h := if_t c6 h
        refine lv_iconst (v := 0) hx hb d_M_findEntry_139 (by decide) ?_
        refine lv_istore (lv' := [(4, .int 0), (0, .ref (ad 1 j0)), (1, .int x1), (2, .int y2), (3, .int y3), (5, .int y5)]) hx hb d_M_findEntry_140 hl (by decide) rfl (fun ls hl => ?_)
        refine lv_iinc (v := y5 + 1) (lv' := [(5, .int (y5 + 1)), (4, .int 0), (0, .ref (ad 1 j0)), (1, .int x1), (2, .int y2), (3, .int y3)]) hx hb d_M_findEntry_142 hl (k := 5) rfl (by rfl) (by decide) rfl (fun ls hl => ?_)
        refine lv_goto (tgt := 92) hx hb d_M_findEntry_145 (by decide) ?_
        exact ih M y2 y3 (0 : Int32) (y5 + 1) _ _ _ h (by decide) hwf hkp hP hD hS (lv_sub hl [2, 3, 4, 5, 1, 0] rfl)
      have h := if_f c6 h
      refine lv_aload_n hx hb d_M_findEntry_108 rfl (lv_at hl 0 rfl) ?_
      refine g_M_10 hx hb hts hown hK hP hwf hj0 (hts _ u_1751) d_M_findEntry_109 ?_
      obtain ⟨j7, e8, h⟩ := bd_ob h
      have hj7 : j7 < N 14 := (hwf.2.1 1 j0 10 _ e8 (by decide) hj0)
      refine me_opt (j := j7) e8 ?_
      refine lv_bipush (v := 16) hx hb d_M_findEntry_112 (by decide) ?_
      refine lv_bipush (v := 64) hx hb d_M_findEntry_114 (by decide) ?_
      refine lv_iload_n hx hb d_M_findEntry_116 rfl (lv_at hl 1 rfl) ?_
      refine lv_imul hx hb d_M_findEntry_117 ?_
      refine lv_iload_n hx hb d_M_findEntry_118 rfl (lv_at hl 3 rfl) ?_
      refine lv_iadd hx hb d_M_findEntry_119 ?_
      refine lv_imul hx hb d_M_findEntry_120 ?_
      refine lv_iload hx hb d_M_findEntry_121 (lv_at hl 5 rfl) ?_
      refine lv_iadd hx hb d_M_findEntry_123 ?_
      obtain ⟨g9, h⟩ := gd_ob h
      refine me_bald hx hb hK hP hwf hj7 g9 d_M_findEntry_124 ?_
      refine lv_aload_n hx hb d_M_findEntry_125 rfl (lv_at hl 0 rfl) ?_
      refine g_M_45 hx hb hts hown hK hP hwf hj0 (hts _ u_1786) d_M_findEntry_126 ?_
      obtain ⟨j10, e11, h⟩ := bd_ob h
      have hj10 : j10 < N 14 := (hwf.2.1 1 j0 45 _ e11 (by decide) hj0)
      refine me_opt (j := j10) e11 ?_
      refine lv_iload hx hb d_M_findEntry_129 (lv_at hl 5 rfl) ?_
      obtain ⟨g12, h⟩ := gd_ob h
      refine me_bald hx hb hK hP hwf hj10 g12 d_M_findEntry_131 ?_
      refine lv_icmp_ne (tgt := 139) hx hb d_M_findEntry_132 (by decide) (fun c13 => ?_) (fun c13 => ?_)
      · have h := if_f c13 h
        refine lv_iconst (v := 0) hx hb d_M_findEntry_139 (by decide) ?_
        refine lv_istore (lv' := [(4, .int 0), (0, .ref (ad 1 j0)), (1, .int x1), (2, .int y2), (3, .int y3), (5, .int y5)]) hx hb d_M_findEntry_140 hl (by decide) rfl (fun ls hl => ?_)
        refine lv_iinc (v := y5 + 1) (lv' := [(5, .int (y5 + 1)), (4, .int 0), (0, .ref (ad 1 j0)), (1, .int x1), (2, .int y2), (3, .int y3)]) hx hb d_M_findEntry_142 hl (k := 5) rfl (by rfl) (by decide) rfl (fun ls hl => ?_)
        refine lv_goto (tgt := 92) hx hb d_M_findEntry_145 (by decide) ?_
        exact ih M y2 y3 (0 : Int32) (y5 + 1) _ _ _ h (by decide) hwf hkp hP hD hS (lv_sub hl [2, 3, 4, 5, 1, 0] rfl)
      have h := if_t c13 h
      refine lv_iconst (v := 1) hx hb d_M_findEntry_135 (by decide) ?_
      refine lv_goto (tgt := 140) hx hb d_M_findEntry_136 (by decide) ?_
      refine lv_istore (lv' := [(4, .int 1), (0, .ref (ad 1 j0)), (1, .int x1), (2, .int y2), (3, .int y3), (5, .int y5)]) hx hb d_M_findEntry_140 hl (by decide) rfl (fun ls hl => ?_)
      refine lv_iinc (v := y5 + 1) (lv' := [(5, .int (y5 + 1)), (4, .int 1), (0, .ref (ad 1 j0)), (1, .int x1), (2, .int y2), (3, .int y3)]) hx hb d_M_findEntry_142 hl (k := 5) rfl (by rfl) (by decide) rfl (fun ls hl => ?_)
      refine lv_goto (tgt := 92) hx hb d_M_findEntry_145 (by decide) ?_
      exact ih M y2 y3 (1 : Int32) (y5 + 1) _ _ _ h (by decide) hwf hkp hP hD hS (lv_sub hl [2, 3, 4, 5, 1, 0] rfl)
  have b_66 : ∀ (fu : Nat), ∀ (M : me_M) (y2 : Int32) (y3 : Int32) (H : Heap) (locs : List Loc) (ls : Array Slot), f_M_findEntry_l66 j0 x1 fu M y2 y3 = (some (MZ, RZ)) → me_wf N M → me_kp M0 M → va_P D classes (me_W ad ca M) H → va_D A (me_W ad ca M) → va_S A s.heap H locs → lv_has ls 6 [(0, .ref (ad 1 j0)), (1, .int x1), (2, .int y2), (3, .int y3)] → W p l e rm_M_findEntry s m [.ref (ad 1 j0), .int x1].toArray below meth c H locs 0 0 (MQ below (q_M_findEntry D ad ca N M0 MZ RZ A) [.ref (ad 1 j0), .int x1].toArray s rm_M_findEntry.cells rm_M_findEntry.slots A) (F0 m 66 ls []) := by
    intro fu
    induction fu with
    | zero =>
      intro M y2 y3 H locs ls h hwf hkp hP hD hS hl
      cases h
    | succ fu ih =>
      intro M y2 y3 H locs ls h hwf hkp hP hD hS hl
      unfold f_M_findEntry_l66 at h
      have hkb := hkp
      refine lv_iload_n hx hb d_M_findEntry_66 rfl (lv_at hl 3 rfl) ?_
      refine lv_aload_n hx hb d_M_findEntry_67 rfl (lv_at hl 0 rfl) ?_
      refine g_M_8 hx hb hts hown hK hP hwf hj0 (hts _ u_1749) d_M_findEntry_68 ?_
      obtain ⟨j14, e15, h⟩ := bd_ob h
      have hj14 : j14 < N 13 := (hwf.2.1 1 j0 8 _ e15 (by decide) hj0)
      refine me_opt (j := j14) e15 ?_
      refine lv_iload_n hx hb d_M_findEntry_71 rfl (lv_at hl 1 rfl) ?_
      obtain ⟨g16, h⟩ := gd_ob h
      refine me_iald hx hb hK hP hwf hj14 g16 d_M_findEntry_72 ?_
      refine lv_icmp_ge (tgt := 165) hx hb d_M_findEntry_73 (by decide) (fun c17 => ?_) (fun c17 => ?_)
      · have h := if_t c17 h
        refine lv_iload_n hx hb d_M_findEntry_165 rfl (lv_at hl 2 rfl) ?_
        exact me_reti (me_kp M0) h hx hb hr hlocks hwf hkp hP hK hD hS d_M_findEntry_166
      have h := if_f c17 h
      refine lv_aload_n hx hb d_M_findEntry_76 rfl (lv_at hl 0 rfl) ?_
      refine g_M_9 hx hb hts hown hK hP hwf hj0 (hts _ u_1750) d_M_findEntry_77 ?_
      obtain ⟨j18, e19, h⟩ := bd_ob h
      have hj18 : j18 < N 15 := (hwf.2.1 1 j0 9 _ e19 (by decide) hj0)
      refine me_opt (j := j18) e19 ?_
      refine lv_bipush (v := 64) hx hb d_M_findEntry_80 (by decide) ?_
      refine lv_iload_n hx hb d_M_findEntry_82 rfl (lv_at hl 1 rfl) ?_
      refine lv_imul hx hb d_M_findEntry_83 ?_
      refine lv_iload_n hx hb d_M_findEntry_84 rfl (lv_at hl 3 rfl) ?_
      refine lv_iadd hx hb d_M_findEntry_85 ?_
      obtain ⟨g20, h⟩ := gd_ob h
      refine me_zald hx hb hK hP hwf hj18 g20 d_M_findEntry_86 ?_
      have z21 := hwf.2.2.2 15 j18 (((64 * x1) + y3).toNatClampNeg) rfl
      obtain ⟨v22, ev22, h⟩ := st_ob h
      have zv22 : v22 = 1 ∨ v22 = 0 := ev22 ▸ z21
      refine fg_topi (y := v22) ev22.symm ?_
      refine lv_istore (lv' := [(4, .int v22), (0, .ref (ad 1 j0)), (1, .int x1), (2, .int y2), (3, .int y3)]) hx hb d_M_findEntry_87 hl (by decide) rfl (fun ls hl => ?_)
      refine lv_iconst (v := 0) hx hb d_M_findEntry_89 (by decide) ?_
      refine lv_istore (lv' := [(5, .int 0), (4, .int v22), (0, .ref (ad 1 j0)), (1, .int x1), (2, .int y2), (3, .int y3)]) hx hb d_M_findEntry_90 hl (by decide) rfl (fun ls hl => ?_)
      exact b_92 _ ih _ M y2 y3 v22 (0 : Int32) _ _ _ h zv22 hwf hkp hP hD hS (lv_sub hl [2, 3, 4, 5, 1, 0] rfl)
  have b_14 : ∀ (fu : Nat), ∀ (M : me_M) (y2 : Int64) (y4 : Int32) (H : Heap) (locs : List Loc) (ls : Array Slot), f_M_findEntry_l14 j0 x1 fu M y2 y4 = (some (MZ, RZ)) → me_wf N M → me_kp M0 M → va_P D classes (me_W ad ca M) H → va_D A (me_W ad ca M) → va_S A s.heap H locs → lv_has ls 6 [(0, .ref (ad 1 j0)), (1, .int x1), (2, .long y2), (4, .int y4)] → W p l e rm_M_findEntry s m [.ref (ad 1 j0), .int x1].toArray below meth c H locs 0 0 (MQ below (q_M_findEntry D ad ca N M0 MZ RZ A) [.ref (ad 1 j0), .int x1].toArray s rm_M_findEntry.cells rm_M_findEntry.slots A) (F0 m 14 ls []) := by
    intro fu
    induction fu with
    | zero =>
      intro M y2 y4 H locs ls h hwf hkp hP hD hS hl
      cases h
    | succ fu ih =>
      intro M y2 y4 H locs ls h hwf hkp hP hD hS hl
      unfold f_M_findEntry_l14 at h
      have hkb := hkp
      refine lv_iload hx hb d_M_findEntry_14 (lv_at hl 3 rfl) ?_
      refine lv_if_lt (tgt := 43) hx hb d_M_findEntry_16 (by decide) (fun c23 => ?_) (fun c23 => ?_)
      · have h := if_t c23 h
        refine lv_lload_n hx hb d_M_findEntry_43 rfl (lv_at hl 2 rfl) ?_
        refine lv_aload_n hx hb d_M_findEntry_44 rfl (lv_at hl 0 rfl) ?_
        refine g_M_8 hx hb hts hown hK hP hwf hj0 (hts _ u_1749) d_M_findEntry_45 ?_
        obtain ⟨j24, e25, h⟩ := bd_ob h
        have hj24 : j24 < N 13 := (hwf.2.1 1 j0 8 _ e25 (by decide) hj0)
        refine me_opt (j := j24) e25 ?_
        refine lv_iload_n hx hb d_M_findEntry_48 rfl (lv_at hl 1 rfl) ?_
        obtain ⟨g26, h⟩ := gd_ob h
        refine me_iald hx hb hK hP hwf hj24 g26 d_M_findEntry_49 ?_
        refine lv_i2l (v := (mI M 13 j24 x1.toNatClampNeg).toInt64) hx hb d_M_findEntry_50 rfl ?_
        refine W.lcmp hx hb d_M_findEntry_51 ?_
        refine lv_if_ge (tgt := 60) hx hb d_M_findEntry_52 (by decide) (fun c27 => ?_) (fun c27 => ?_)
        · have h := if_f (Int64.not_lt.mpr ((lg_cmp_ge _ _).mp c27)) h
          refine lv_iconst (v := (-1)) hx hb d_M_findEntry_60 (by decide) ?_
          exact me_reti (me_kp M0) h hx hb hr hlocks hwf hkp hP hK hD hS d_M_findEntry_61
        have h := if_t (Int64.not_le.mp (fun z => c27 ((lg_cmp_ge _ _).mpr z))) h
        refine lv_lload_n hx hb d_M_findEntry_55 rfl (lv_at hl 2 rfl) ?_
        refine lv_l2i (v := y2.toInt32) hx hb d_M_findEntry_56 rfl ?_
        refine lv_goto (tgt := 61) hx hb d_M_findEntry_57 (by decide) ?_
        exact me_reti (me_kp M0) h hx hb hr hlocks hwf hkp hP hK hD hS d_M_findEntry_61
      have h := if_f c23 h
      refine lv_lload_n hx hb d_M_findEntry_19 rfl (lv_at hl 2 rfl) ?_
      refine lv_bipush (v := 8) hx hb d_M_findEntry_20 (by decide) ?_
      refine lv_lshl (v := jlshl y2 (8 : Int32)) hx hb d_M_findEntry_22 rfl ?_
      refine lv_aload_n hx hb d_M_findEntry_23 rfl (lv_at hl 0 rfl) ?_
      refine g_M_45 hx hb hts hown hK hP hwf hj0 (hts _ u_1786) d_M_findEntry_24 ?_
      obtain ⟨j28, e29, h⟩ := bd_ob h
      have hj28 : j28 < N 14 := (hwf.2.1 1 j0 45 _ e29 (by decide) hj0)
      refine me_opt (j := j28) e29 ?_
      refine lv_iload hx hb d_M_findEntry_27 (lv_at hl 3 rfl) ?_
      obtain ⟨g30, h⟩ := gd_ob h
      refine me_bald hx hb hK hP hwf hj28 g30 d_M_findEntry_29 ?_
      refine lv_i2l (v := (mI M 14 j28 y4.toNatClampNeg).toInt64) hx hb d_M_findEntry_30 rfl ?_
      refine lv_ldc2 hx hb hown (hts _ u_1980) d_M_findEntry_31 ?_
      refine lv_land hx hb d_M_findEntry_34 ?_
      refine lv_lor hx hb d_M_findEntry_35 ?_
      obtain ⟨v31, ev31, h⟩ := st_ob h
      refine fg_topl (y := v31) ev31.symm ?_
      refine lv_lstore_n (lv' := [(2, .long v31), (0, .ref (ad 1 j0)), (1, .int x1), (4, .int y4)]) hx hb d_M_findEntry_36 rfl hl (by decide) rfl (fun ls hl => ?_)
      refine lv_iinc (v := y4 + (-1)) (lv' := [(4, .int (y4 + (-1))), (2, .long v31), (0, .ref (ad 1 j0)), (1, .int x1)]) hx hb d_M_findEntry_37 hl (k := 3) rfl (by rfl) (by decide) rfl (fun ls hl => ?_)
      refine lv_goto (tgt := 14) hx hb d_M_findEntry_40 (by decide) ?_
      exact ih M v31 (y4 + (-1)) _ _ _ h hwf hkp hP hD hS (lv_sub hl [2, 3, 1, 0] rfl)
  refine lv_aload_n hx hb d_M_findEntry_0 rfl (lv_at hl 0 rfl) ?_
  refine g_M_5 hx hb hts hown hK hP hwf hj0 (hts _ u_1746) d_M_findEntry_1 ?_
  obtain ⟨j32, e33, h⟩ := bd_ob h
  have hj32 : j32 < N 13 := (hwf.2.1 1 j0 5 _ e33 (by decide) hj0)
  refine me_opt (j := j32) e33 ?_
  refine lv_iload_n hx hb d_M_findEntry_4 rfl (lv_at hl 1 rfl) ?_
  obtain ⟨g34, h⟩ := gd_ob h
  refine me_iald hx hb hK hP hwf hj32 g34 d_M_findEntry_5 ?_
  refine lv_if_ne (tgt := 62) hx hb d_M_findEntry_6 (by decide) (fun c35 => ?_) (fun c35 => ?_)
  · have h := if_f c35 h
    refine lv_iconst (v := (-1)) hx hb d_M_findEntry_62 (by decide) ?_
    refine lv_istore_n (lv' := [(2, .int (-1)), (0, .ref (ad 1 j0)), (1, .int x1)]) hx hb d_M_findEntry_63 rfl hl (by decide) rfl (fun ls hl => ?_)
    refine lv_iconst (v := 0) hx hb d_M_findEntry_64 (by decide) ?_
    refine lv_istore_n (lv' := [(3, .int 0), (2, .int (-1)), (0, .ref (ad 1 j0)), (1, .int x1)]) hx hb d_M_findEntry_65 rfl hl (by decide) rfl (fun ls hl => ?_)
    exact b_66 _ M0 (-1 : Int32) (0 : Int32) _ _ _ h hwf hkp hP hD hS (lv_sub hl [2, 3, 1, 0] rfl)
  have h := if_t c35 h
  refine lv_lconst (v := 0) hx hb d_M_findEntry_9 (by decide) ?_
  refine lv_lstore_n (lv' := [(2, .long 0), (0, .ref (ad 1 j0)), (1, .int x1)]) hx hb d_M_findEntry_10 rfl hl (by decide) rfl (fun ls hl => ?_)
  refine lv_iconst (v := 3) hx hb d_M_findEntry_11 (by decide) ?_
  refine lv_istore (lv' := [(4, .int 3), (2, .long 0), (0, .ref (ad 1 j0)), (1, .int x1)]) hx hb d_M_findEntry_12 hl (by decide) rfl (fun ls hl => ?_)
  exact b_14 _ M0 (0 : Int64) (3 : Int32) _ _ _ h hwf hkp hP hD hS (lv_sub hl [2, 3, 1, 0] rfl)
theorem d_M_update_128 : decode prog_14_method_117_code 128 = .ok (.iload_n 3, 1) := by decide +kernel
theorem d_M_update_129 : decode prog_14_method_117_code 129 = .ok (.aload_n 0, 1) := by decide +kernel
theorem d_M_update_130 : decode prog_14_method_117_code 130 = .ok (.getfield 21, 3) := by decide +kernel
theorem d_M_update_133 : decode prog_14_method_117_code 133 = .ok (.iload_n 1, 1) := by decide +kernel
theorem d_M_update_134 : decode prog_14_method_117_code 134 = .ok (.iaload, 1) := by decide +kernel
theorem d_M_update_135 : decode prog_14_method_117_code 135 = .ok (.if_icmp .ge 31, 3) := by decide +kernel
theorem d_M_update_166 : decode prog_14_method_117_code 166 = .ok (.iconst 0, 1) := by decide +kernel
theorem d_M_update_167 : decode prog_14_method_117_code 167 = .ok (.ireturn, 1) := by decide +kernel
theorem d_M_update_138 : decode prog_14_method_117_code 138 = .ok (.aload_n 0, 1) := by decide +kernel
theorem d_M_update_139 : decode prog_14_method_117_code 139 = .ok (.getfield 34, 3) := by decide +kernel
theorem g_M_11 {p : Program} {l : Launch} {e : Env} {R : Room} {s : Jvm.State} {m : MethodId} {args : Array Value} {below : List Frame} {meth : Method} {c : Code} {H : Heap} {locs : List Loc} {cells slots : Nat} {Q : Jvm.State → Prop} {cc : ByteArray} {pc : Nat} {ls : Array Slot} {rest : List Value} {D : va_G} {ad : Nat → Nat → Nat} {ca : Nat → ClassId} {M : me_M} {N : Nat → Nat} {own : String} {index j : Nat} (hexec : p.tables.exec = Jvm.exec) (hb : c.code = cc) (hts : ∀ w ∈ fg_g, w.before args s = true) (hown : s.vm.findClass own = some m.cls) (hK : va_K D classes (me_T ca) s) (hP : va_P D classes (me_W ad ca M) H) (hwf : me_wf N M) (hj : j < N 1) (hlink : (Cond.fieldLink own index "FilterGuardModel" "values" "[B").before args s = true) (hdg : decode cc pc = .ok (.getfield index, 3)) (kk : W p l e R s m args below meth c H locs cells slots Q (F0 m (pc + 3) ls (va_rf ((mR M 1 j 11).map (ad 14)) :: rest))) : W p l e R s m args below meth c H locs cells slots Q (F0 m pc ls (.ref (ad 1 j) :: rest)) := me_get (k := 1) (f := 11) (C := "FilterGuardModel") (T := F_M) (Nf := 75) hexec hb hts i_M hown hK hP hwf hj (by decide) rfl (by decide) (by decide) hlink (fun _ h9 => h9) hdg kk
theorem d_M_update_142 : decode prog_14_method_117_code 142 = .ok (.bipush 64, 2) := by decide +kernel
theorem d_M_update_144 : decode prog_14_method_117_code 144 = .ok (.bipush 64, 2) := by decide +kernel
theorem d_M_update_146 : decode prog_14_method_117_code 146 = .ok (.iload_n 1, 1) := by decide +kernel
theorem d_M_update_147 : decode prog_14_method_117_code 147 = .ok (.imul, 1) := by decide +kernel
theorem d_M_update_148 : decode prog_14_method_117_code 148 = .ok (.iload_n 2, 1) := by decide +kernel
theorem d_M_update_149 : decode prog_14_method_117_code 149 = .ok (.iadd, 1) := by decide +kernel
theorem d_M_update_150 : decode prog_14_method_117_code 150 = .ok (.imul, 1) := by decide +kernel
theorem d_M_update_151 : decode prog_14_method_117_code 151 = .ok (.iload_n 3, 1) := by decide +kernel
theorem d_M_update_152 : decode prog_14_method_117_code 152 = .ok (.iadd, 1) := by decide +kernel
theorem d_M_update_153 : decode prog_14_method_117_code 153 = .ok (.aload_n 0, 1) := by decide +kernel
theorem d_M_update_154 : decode prog_14_method_117_code 154 = .ok (.getfield 86, 3) := by decide +kernel
theorem g_M_46 {p : Program} {l : Launch} {e : Env} {R : Room} {s : Jvm.State} {m : MethodId} {args : Array Value} {below : List Frame} {meth : Method} {c : Code} {H : Heap} {locs : List Loc} {cells slots : Nat} {Q : Jvm.State → Prop} {cc : ByteArray} {pc : Nat} {ls : Array Slot} {rest : List Value} {D : va_G} {ad : Nat → Nat → Nat} {ca : Nat → ClassId} {M : me_M} {N : Nat → Nat} {own : String} {index j : Nat} (hexec : p.tables.exec = Jvm.exec) (hb : c.code = cc) (hts : ∀ w ∈ fg_g, w.before args s = true) (hown : s.vm.findClass own = some m.cls) (hK : va_K D classes (me_T ca) s) (hP : va_P D classes (me_W ad ca M) H) (hwf : me_wf N M) (hj : j < N 1) (hlink : (Cond.fieldLink own index "FilterGuardModel" "valueRead" "[B").before args s = true) (hdg : decode cc pc = .ok (.getfield index, 3)) (kk : W p l e R s m args below meth c H locs cells slots Q (F0 m (pc + 3) ls (va_rf ((mR M 1 j 46).map (ad 14)) :: rest))) : W p l e R s m args below meth c H locs cells slots Q (F0 m pc ls (.ref (ad 1 j) :: rest)) := me_get (k := 1) (f := 46) (C := "FilterGuardModel") (T := F_M) (Nf := 75) hexec hb hts i_M hown hK hP hwf hj (by decide) rfl (by decide) (by decide) hlink (fun _ h9 => h9) hdg kk
theorem d_M_update_157 : decode prog_14_method_117_code 157 = .ok (.iload_n 3, 1) := by decide +kernel
theorem d_M_update_158 : decode prog_14_method_117_code 158 = .ok (.baload, 1) := by decide +kernel
theorem d_M_update_159 : decode prog_14_method_117_code 159 = .ok (.bastore, 1) := by decide +kernel
theorem d_M_update_160 : decode prog_14_method_117_code 160 = .ok (.iinc 3 1, 3) := by decide +kernel
theorem d_M_update_163 : decode prog_14_method_117_code 163 = .ok (.goto (-35), 3) := by decide +kernel
theorem d_M_update_88 : decode prog_14_method_117_code 88 = .ok (.iload_n 3, 1) := by decide +kernel
theorem d_M_update_89 : decode prog_14_method_117_code 89 = .ok (.aload_n 0, 1) := by decide +kernel
theorem d_M_update_90 : decode prog_14_method_117_code 90 = .ok (.getfield 18, 3) := by decide +kernel
theorem d_M_update_93 : decode prog_14_method_117_code 93 = .ok (.iload_n 1, 1) := by decide +kernel
theorem d_M_update_94 : decode prog_14_method_117_code 94 = .ok (.iaload, 1) := by decide +kernel
theorem d_M_update_95 : decode prog_14_method_117_code 95 = .ok (.if_icmp .ge 31, 3) := by decide +kernel
theorem d_M_update_126 : decode prog_14_method_117_code 126 = .ok (.iconst 0, 1) := by decide +kernel
theorem d_M_update_127 : decode prog_14_method_117_code 127 = .ok (.istore_n 3, 1) := by decide +kernel
theorem d_M_update_98 : decode prog_14_method_117_code 98 = .ok (.aload_n 0, 1) := by decide +kernel
theorem d_M_update_99 : decode prog_14_method_117_code 99 = .ok (.getfield 31, 3) := by decide +kernel
theorem d_M_update_102 : decode prog_14_method_117_code 102 = .ok (.bipush 16, 2) := by decide +kernel
theorem d_M_update_104 : decode prog_14_method_117_code 104 = .ok (.bipush 64, 2) := by decide +kernel
theorem d_M_update_106 : decode prog_14_method_117_code 106 = .ok (.iload_n 1, 1) := by decide +kernel
theorem d_M_update_107 : decode prog_14_method_117_code 107 = .ok (.imul, 1) := by decide +kernel
theorem d_M_update_108 : decode prog_14_method_117_code 108 = .ok (.iload_n 2, 1) := by decide +kernel
theorem d_M_update_109 : decode prog_14_method_117_code 109 = .ok (.iadd, 1) := by decide +kernel
theorem d_M_update_110 : decode prog_14_method_117_code 110 = .ok (.imul, 1) := by decide +kernel
theorem d_M_update_111 : decode prog_14_method_117_code 111 = .ok (.iload_n 3, 1) := by decide +kernel
theorem d_M_update_112 : decode prog_14_method_117_code 112 = .ok (.iadd, 1) := by decide +kernel
theorem d_M_update_113 : decode prog_14_method_117_code 113 = .ok (.aload_n 0, 1) := by decide +kernel
theorem d_M_update_114 : decode prog_14_method_117_code 114 = .ok (.getfield 83, 3) := by decide +kernel
theorem d_M_update_117 : decode prog_14_method_117_code 117 = .ok (.iload_n 3, 1) := by decide +kernel
theorem d_M_update_118 : decode prog_14_method_117_code 118 = .ok (.baload, 1) := by decide +kernel
theorem d_M_update_119 : decode prog_14_method_117_code 119 = .ok (.bastore, 1) := by decide +kernel
theorem d_M_update_120 : decode prog_14_method_117_code 120 = .ok (.iinc 3 1, 3) := by decide +kernel
theorem d_M_update_123 : decode prog_14_method_117_code 123 = .ok (.goto (-35), 3) := by decide +kernel
theorem d_M_update_68 : decode prog_14_method_117_code 68 = .ok (.iload_n 2, 1) := by decide +kernel
theorem d_M_update_69 : decode prog_14_method_117_code 69 = .ok (.ifCond .ge 5, 3) := by decide +kernel
theorem d_M_update_74 : decode prog_14_method_117_code 74 = .ok (.aload_n 0, 1) := by decide +kernel
theorem d_M_update_75 : decode prog_14_method_117_code 75 = .ok (.getfield 27, 3) := by decide +kernel
theorem d_M_update_78 : decode prog_14_method_117_code 78 = .ok (.bipush 64, 2) := by decide +kernel
theorem d_M_update_80 : decode prog_14_method_117_code 80 = .ok (.iload_n 1, 1) := by decide +kernel
theorem d_M_update_81 : decode prog_14_method_117_code 81 = .ok (.imul, 1) := by decide +kernel
theorem d_M_update_82 : decode prog_14_method_117_code 82 = .ok (.iload_n 2, 1) := by decide +kernel
theorem d_M_update_83 : decode prog_14_method_117_code 83 = .ok (.iadd, 1) := by decide +kernel
theorem d_M_update_84 : decode prog_14_method_117_code 84 = .ok (.iconst 1, 1) := by decide +kernel
theorem d_M_update_85 : decode prog_14_method_117_code 85 = .ok (.bastore, 1) := by decide +kernel
theorem d_M_update_86 : decode prog_14_method_117_code 86 = .ok (.iconst 0, 1) := by decide +kernel
theorem d_M_update_87 : decode prog_14_method_117_code 87 = .ok (.istore_n 3, 1) := by decide +kernel
theorem d_M_update_72 : decode prog_14_method_117_code 72 = .ok (.iconst (-1), 1) := by decide +kernel
theorem d_M_update_73 : decode prog_14_method_117_code 73 = .ok (.ireturn, 1) := by decide +kernel
theorem d_M_update_67 : decode prog_14_method_117_code 67 = .ok (.istore_n 2, 1) := by decide +kernel
theorem d_M_update_52 : decode prog_14_method_117_code 52 = .ok (.iload_n 2, 1) := by decide +kernel
theorem d_M_update_53 : decode prog_14_method_117_code 53 = .ok (.aload_n 0, 1) := by decide +kernel
theorem d_M_update_54 : decode prog_14_method_117_code 54 = .ok (.getfield 24, 3) := by decide +kernel
theorem d_M_update_57 : decode prog_14_method_117_code 57 = .ok (.iload_n 1, 1) := by decide +kernel
theorem d_M_update_58 : decode prog_14_method_117_code 58 = .ok (.iaload, 1) := by decide +kernel
theorem d_M_update_59 : decode prog_14_method_117_code 59 = .ok (.if_icmp .ge 7, 3) := by decide +kernel
theorem d_M_update_66 : decode prog_14_method_117_code 66 = .ok (.iconst (-1), 1) := by decide +kernel
theorem d_M_update_62 : decode prog_14_method_117_code 62 = .ok (.iload_n 2, 1) := by decide +kernel
theorem d_M_update_63 : decode prog_14_method_117_code 63 = .ok (.goto 4, 3) := by decide +kernel
theorem d_M_update_22 : decode prog_14_method_117_code 22 = .ok (.iload_n 2, 1) := by decide +kernel
theorem d_M_update_23 : decode prog_14_method_117_code 23 = .ok (.aload_n 0, 1) := by decide +kernel
theorem d_M_update_24 : decode prog_14_method_117_code 24 = .ok (.getfield 24, 3) := by decide +kernel
theorem d_M_update_27 : decode prog_14_method_117_code 27 = .ok (.iload_n 1, 1) := by decide +kernel
theorem d_M_update_28 : decode prog_14_method_117_code 28 = .ok (.iaload, 1) := by decide +kernel
theorem d_M_update_29 : decode prog_14_method_117_code 29 = .ok (.if_icmp .ge 23, 3) := by decide +kernel
theorem d_M_update_32 : decode prog_14_method_117_code 32 = .ok (.aload_n 0, 1) := by decide +kernel
theorem d_M_update_33 : decode prog_14_method_117_code 33 = .ok (.getfield 27, 3) := by decide +kernel
theorem d_M_update_36 : decode prog_14_method_117_code 36 = .ok (.bipush 64, 2) := by decide +kernel
theorem d_M_update_38 : decode prog_14_method_117_code 38 = .ok (.iload_n 1, 1) := by decide +kernel
theorem d_M_update_39 : decode prog_14_method_117_code 39 = .ok (.imul, 1) := by decide +kernel
theorem d_M_update_40 : decode prog_14_method_117_code 40 = .ok (.iload_n 2, 1) := by decide +kernel
theorem d_M_update_41 : decode prog_14_method_117_code 41 = .ok (.iadd, 1) := by decide +kernel
theorem d_M_update_42 : decode prog_14_method_117_code 42 = .ok (.baload, 1) := by decide +kernel
theorem d_M_update_43 : decode prog_14_method_117_code 43 = .ok (.ifCond .eq 9, 3) := by decide +kernel
theorem d_M_update_46 : decode prog_14_method_117_code 46 = .ok (.iinc 2 1, 3) := by decide +kernel
theorem d_M_update_49 : decode prog_14_method_117_code 49 = .ok (.goto (-27), 3) := by decide +kernel
theorem d_M_update_0 : decode prog_14_method_117_code 0 = .ok (.aload_n 0, 1) := by decide +kernel
theorem d_M_update_1 : decode prog_14_method_117_code 1 = .ok (.iload_n 1, 1) := by decide +kernel
theorem d_M_update_2 : decode prog_14_method_117_code 2 = .ok (.invokevirtual 613, 3) := by decide +kernel
theorem u_2435 : Cond.methodLink "FilterGuardModel" 613 ⟨"FilterGuardModel", "findEntry", "(I)I"⟩ ∈ fg_g := fg_in (List.mem_of_getElem? (i := 2435) (by decide +kernel)) rfl
theorem u_2438 : Cond.code ⟨"FilterGuardModel", "findEntry", "(I)I"⟩ prog_14_method_116_code 6 (some .int) ∈ fg_g := fg_in (List.mem_of_getElem? (i := 2438) (by decide +kernel)) rfl
theorem u_2437 : Cond.instanceMethod ⟨"FilterGuardModel", "findEntry", "(I)I"⟩ ∈ fg_g := fg_in (List.mem_of_getElem? (i := 2437) (by decide +kernel)) rfl
theorem u_169 : Cond.selects "FilterGuardModel" ⟨"FilterGuardModel", "findEntry", "(I)I"⟩ ⟨"FilterGuardModel", "findEntry", "(I)I"⟩ ∈ fg_g := fg_in (List.mem_of_getElem? (i := 169) (by decide +kernel)) rfl
theorem d_M_update_5 : decode prog_14_method_117_code 5 = .ok (.istore_n 2, 1) := by decide +kernel
theorem d_M_update_6 : decode prog_14_method_117_code 6 = .ok (.iload_n 2, 1) := by decide +kernel
theorem d_M_update_7 : decode prog_14_method_117_code 7 = .ok (.ifCond .ge 61, 3) := by decide +kernel
theorem d_M_update_10 : decode prog_14_method_117_code 10 = .ok (.aload_n 0, 1) := by decide +kernel
theorem d_M_update_11 : decode prog_14_method_117_code 11 = .ok (.getfield 14, 3) := by decide +kernel
theorem d_M_update_14 : decode prog_14_method_117_code 14 = .ok (.iload_n 1, 1) := by decide +kernel
theorem d_M_update_15 : decode prog_14_method_117_code 15 = .ok (.iaload, 1) := by decide +kernel
theorem d_M_update_16 : decode prog_14_method_117_code 16 = .ok (.iconst 1, 1) := by decide +kernel
theorem d_M_update_17 : decode prog_14_method_117_code 17 = .ok (.if_icmp .ne 51, 3) := by decide +kernel
theorem d_M_update_20 : decode prog_14_method_117_code 20 = .ok (.iconst 0, 1) := by decide +kernel
theorem d_M_update_21 : decode prog_14_method_117_code 21 = .ok (.istore_n 2, 1) := by decide +kernel
abbrev y_M_update : MethodName := ⟨"FilterGuardModel", "update", "(I)I"⟩
def rm_M_update : Room := { frames := 2, cells := 0, slots := 0, locals := 45 }
abbrev q_M_update (D : va_G) (ad : Nat → Nat → Nat) (ca : Nat → ClassId) (N : Nat → Nat) (M0 MZ : me_M) (RZ : Int32) (A : Nat → Prop) : Array Value → Jvm.State → Outcome → Jvm.State → Prop := va_Qi (fun r (_ : Unit) => r = RZ ∧ me_wf N MZ ∧ me_kp M0 MZ) (fg_B D A (fun _ => me_W ad ca MZ) (fun _ => [])) A
set_option maxHeartbeats 4000000 in
set_option maxRecDepth 100000 in
theorem c_M_update (l : Launch) (D : va_G) (ad : Nat → Nat → Nat) (ca : Nat → ClassId) (N : Nat → Nat) (M0 MZ : me_M) (RZ : Int32) (j0 : Nat) (x1 : Int32) (h : f_M_update M0 j0 x1 = (some (MZ, RZ))) (hwf : me_wf N M0) (hj0 : j0 < N 1) (sz : Nat) : Met l y_M_update (fg_w y_M_update prog_14_method_117_code 4 (some .int)) rm_M_update (va_Pc [.ref (ad 1 j0), .int x1] (fz_P D (me_T ca) (me_W ad ca M0) sz)) (q_M_update D ad ca N M0 MZ RZ (va_A (me_W ad ca M0) sz)) rm_M_update.cells rm_M_update.slots (va_A (me_W ad ca M0) sz) := by
  refine fz_enter (fun A => q_M_update D ad ca N M0 MZ RZ A) (by decide +kernel) (Nat.le_of_ble_eq_true rfl) ?_
  intro p e s m below meth c ls A hx hb hml hown hts hr hlocks hin hP hK hD hS hA hX hl hz
  have hl : lv_has ls 4 [(0, .ref (ad 1 j0)), (1, .int x1)] := hl
  unfold f_M_update at h
  have hkp : me_kp M0 M0 := me_kp.rf
  have hkb := hkp
  have b_128 : ∀ (fu : Nat), ∀ (M : me_M) (y2 : Int32) (y3 : Int32) (H : Heap) (locs : List Loc) (ls : Array Slot), f_M_update_l128 j0 x1 fu M y2 y3 = (some (MZ, RZ)) → me_wf N M → me_kp M0 M → va_P D classes (me_W ad ca M) H → va_D A (me_W ad ca M) → va_S A s.heap H locs → lv_has ls 4 [(0, .ref (ad 1 j0)), (1, .int x1), (2, .int y2), (3, .int y3)] → W p l e rm_M_update s m [.ref (ad 1 j0), .int x1].toArray below meth c H locs 0 0 (MQ below (q_M_update D ad ca N M0 MZ RZ A) [.ref (ad 1 j0), .int x1].toArray s rm_M_update.cells rm_M_update.slots A) (F0 m 128 ls []) := by
    intro fu
    induction fu with
    | zero =>
      intro M y2 y3 H locs ls h hwf hkp hP hD hS hl
      cases h
    | succ fu ih =>
      intro M y2 y3 H locs ls h hwf hkp hP hD hS hl
      unfold f_M_update_l128 at h
      have hkb := hkp
      refine lv_iload_n hx hb d_M_update_128 rfl (lv_at hl 3 rfl) ?_
      refine lv_aload_n hx hb d_M_update_129 rfl (lv_at hl 0 rfl) ?_
      refine g_M_7 hx hb hts hown hK hP hwf hj0 (hts _ u_1748) d_M_update_130 ?_
      obtain ⟨j1, e2, h⟩ := bd_ob h
      have hj1 : j1 < N 13 := (hwf.2.1 1 j0 7 _ e2 (by decide) hj0)
      refine me_opt (j := j1) e2 ?_
      refine lv_iload_n hx hb d_M_update_133 rfl (lv_at hl 1 rfl) ?_
      obtain ⟨g3, h⟩ := gd_ob h
      refine me_iald hx hb hK hP hwf hj1 g3 d_M_update_134 ?_
      refine lv_icmp_ge (tgt := 166) hx hb d_M_update_135 (by decide) (fun c4 => ?_) (fun c4 => ?_)
      · have h := if_t c4 h
        refine lv_iconst (v := 0) hx hb d_M_update_166 (by decide) ?_
        exact me_reti (me_kp M0) h hx hb hr hlocks hwf hkp hP hK hD hS d_M_update_167
      have h := if_f c4 h
      refine lv_aload_n hx hb d_M_update_138 rfl (lv_at hl 0 rfl) ?_
      refine g_M_11 hx hb hts hown hK hP hwf hj0 (hts _ u_1752) d_M_update_139 ?_
      obtain ⟨j5, e6, h⟩ := bd_ob h
      have hj5 : j5 < N 14 := (hwf.2.1 1 j0 11 _ e6 (by decide) hj0)
      refine me_opt (j := j5) e6 ?_
      refine lv_bipush (v := 64) hx hb d_M_update_142 (by decide) ?_
      refine lv_bipush (v := 64) hx hb d_M_update_144 (by decide) ?_
      refine lv_iload_n hx hb d_M_update_146 rfl (lv_at hl 1 rfl) ?_
      refine lv_imul hx hb d_M_update_147 ?_
      refine lv_iload_n hx hb d_M_update_148 rfl (lv_at hl 2 rfl) ?_
      refine lv_iadd hx hb d_M_update_149 ?_
      refine lv_imul hx hb d_M_update_150 ?_
      refine lv_iload_n hx hb d_M_update_151 rfl (lv_at hl 3 rfl) ?_
      refine lv_iadd hx hb d_M_update_152 ?_
      refine lv_aload_n hx hb d_M_update_153 rfl (lv_at hl 0 rfl) ?_
      refine g_M_46 hx hb hts hown hK hP hwf hj0 (hts _ u_1787) d_M_update_154 ?_
      obtain ⟨j7, e8, h⟩ := bd_ob h
      have hj7 : j7 < N 14 := (hwf.2.1 1 j0 46 _ e8 (by decide) hj0)
      refine me_opt (j := j7) e8 ?_
      refine lv_iload_n hx hb d_M_update_157 rfl (lv_at hl 3 rfl) ?_
      obtain ⟨g9, h⟩ := gd_ob h
      refine me_bald hx hb hK hP hwf hj7 g9 d_M_update_158 ?_
      obtain ⟨g10, h⟩ := gd_ob h
      obtain ⟨M11, eM11, h⟩ := st_ob h
      refine me_bast eM11 hx hb hK hP hD hwf hS hj5 g10 d_M_update_159 (fun H locs hP hD hwf hS => ?_)
      have hkp := kp_I eM11 hkp
      refine lv_iinc (v := y3 + 1) (lv' := [(3, .int (y3 + 1)), (0, .ref (ad 1 j0)), (1, .int x1), (2, .int y2)]) hx hb d_M_update_160 hl (k := 3) rfl (by rfl) (by decide) rfl (fun ls hl => ?_)
      refine lv_goto (tgt := 128) hx hb d_M_update_163 (by decide) ?_
      exact ih M11 y2 (y3 + 1) _ _ _ h hwf hkp hP hD hS (lv_sub hl [1, 2, 3, 0] rfl)
  have b_88 : ∀ (fu : Nat), ∀ (M : me_M) (y2 : Int32) (y3 : Int32) (H : Heap) (locs : List Loc) (ls : Array Slot), f_M_update_l88 j0 x1 fu M y2 y3 = (some (MZ, RZ)) → me_wf N M → me_kp M0 M → va_P D classes (me_W ad ca M) H → va_D A (me_W ad ca M) → va_S A s.heap H locs → lv_has ls 4 [(0, .ref (ad 1 j0)), (1, .int x1), (2, .int y2), (3, .int y3)] → W p l e rm_M_update s m [.ref (ad 1 j0), .int x1].toArray below meth c H locs 0 0 (MQ below (q_M_update D ad ca N M0 MZ RZ A) [.ref (ad 1 j0), .int x1].toArray s rm_M_update.cells rm_M_update.slots A) (F0 m 88 ls []) := by
    intro fu
    induction fu with
    | zero =>
      intro M y2 y3 H locs ls h hwf hkp hP hD hS hl
      cases h
    | succ fu ih =>
      intro M y2 y3 H locs ls h hwf hkp hP hD hS hl
      unfold f_M_update_l88 at h
      have hkb := hkp
      refine lv_iload_n hx hb d_M_update_88 rfl (lv_at hl 3 rfl) ?_
      refine lv_aload_n hx hb d_M_update_89 rfl (lv_at hl 0 rfl) ?_
      refine g_M_6 hx hb hts hown hK hP hwf hj0 (hts _ u_1747) d_M_update_90 ?_
      obtain ⟨j12, e13, h⟩ := bd_ob h
      have hj12 : j12 < N 13 := (hwf.2.1 1 j0 6 _ e13 (by decide) hj0)
      refine me_opt (j := j12) e13 ?_
      refine lv_iload_n hx hb d_M_update_93 rfl (lv_at hl 1 rfl) ?_
      obtain ⟨g14, h⟩ := gd_ob h
      refine me_iald hx hb hK hP hwf hj12 g14 d_M_update_94 ?_
      refine lv_icmp_ge (tgt := 126) hx hb d_M_update_95 (by decide) (fun c15 => ?_) (fun c15 => ?_)
      · have h := if_t c15 h
        refine lv_iconst (v := 0) hx hb d_M_update_126 (by decide) ?_
        refine lv_istore_n (lv' := [(3, .int 0), (0, .ref (ad 1 j0)), (1, .int x1), (2, .int y2)]) hx hb d_M_update_127 rfl hl (by decide) rfl (fun ls hl => ?_)
        exact b_128 _ M y2 (0 : Int32) _ _ _ h hwf hkp hP hD hS (lv_sub hl [1, 2, 3, 0] rfl)
      have h := if_f c15 h
      refine lv_aload_n hx hb d_M_update_98 rfl (lv_at hl 0 rfl) ?_
      refine g_M_10 hx hb hts hown hK hP hwf hj0 (hts _ u_1751) d_M_update_99 ?_
      obtain ⟨j16, e17, h⟩ := bd_ob h
      have hj16 : j16 < N 14 := (hwf.2.1 1 j0 10 _ e17 (by decide) hj0)
      refine me_opt (j := j16) e17 ?_
      refine lv_bipush (v := 16) hx hb d_M_update_102 (by decide) ?_
      refine lv_bipush (v := 64) hx hb d_M_update_104 (by decide) ?_
      refine lv_iload_n hx hb d_M_update_106 rfl (lv_at hl 1 rfl) ?_
      refine lv_imul hx hb d_M_update_107 ?_
      refine lv_iload_n hx hb d_M_update_108 rfl (lv_at hl 2 rfl) ?_
      refine lv_iadd hx hb d_M_update_109 ?_
      refine lv_imul hx hb d_M_update_110 ?_
      refine lv_iload_n hx hb d_M_update_111 rfl (lv_at hl 3 rfl) ?_
      refine lv_iadd hx hb d_M_update_112 ?_
      refine lv_aload_n hx hb d_M_update_113 rfl (lv_at hl 0 rfl) ?_
      refine g_M_45 hx hb hts hown hK hP hwf hj0 (hts _ u_1786) d_M_update_114 ?_
      obtain ⟨j18, e19, h⟩ := bd_ob h
      have hj18 : j18 < N 14 := (hwf.2.1 1 j0 45 _ e19 (by decide) hj0)
      refine me_opt (j := j18) e19 ?_
      refine lv_iload_n hx hb d_M_update_117 rfl (lv_at hl 3 rfl) ?_
      obtain ⟨g20, h⟩ := gd_ob h
      refine me_bald hx hb hK hP hwf hj18 g20 d_M_update_118 ?_
      obtain ⟨g21, h⟩ := gd_ob h
      obtain ⟨M22, eM22, h⟩ := st_ob h
      refine me_bast eM22 hx hb hK hP hD hwf hS hj16 g21 d_M_update_119 (fun H locs hP hD hwf hS => ?_)
      have hkp := kp_I eM22 hkp
      refine lv_iinc (v := y3 + 1) (lv' := [(3, .int (y3 + 1)), (0, .ref (ad 1 j0)), (1, .int x1), (2, .int y2)]) hx hb d_M_update_120 hl (k := 3) rfl (by rfl) (by decide) rfl (fun ls hl => ?_)
      refine lv_goto (tgt := 88) hx hb d_M_update_123 (by decide) ?_
      exact ih M22 y2 (y3 + 1) _ _ _ h hwf hkp hP hD hS (lv_sub hl [1, 2, 3, 0] rfl)
  have b_68 : ∀ (M : me_M) (y2 : Int32) (H : Heap) (locs : List Loc) (ls : Array Slot), f_M_update_b68 j0 x1 M y2 = (some (MZ, RZ)) → me_wf N M → me_kp M0 M → va_P D classes (me_W ad ca M) H → va_D A (me_W ad ca M) → va_S A s.heap H locs → lv_has ls 4 [(0, .ref (ad 1 j0)), (1, .int x1), (2, .int y2)] → W p l e rm_M_update s m [.ref (ad 1 j0), .int x1].toArray below meth c H locs 0 0 (MQ below (q_M_update D ad ca N M0 MZ RZ A) [.ref (ad 1 j0), .int x1].toArray s rm_M_update.cells rm_M_update.slots A) (F0 m 68 ls []) := by
    intro M y2 H locs ls h hwf hkp hP hD hS hl
    unfold f_M_update_b68 at h
    have hkb := hkp
    refine lv_iload_n hx hb d_M_update_68 rfl (lv_at hl 2 rfl) ?_
    refine lv_if_ge (tgt := 74) hx hb d_M_update_69 (by decide) (fun c23 => ?_) (fun c23 => ?_)
    · have h := if_t c23 h
      refine lv_aload_n hx hb d_M_update_74 rfl (lv_at hl 0 rfl) ?_
      refine g_M_9 hx hb hts hown hK hP hwf hj0 (hts _ u_1750) d_M_update_75 ?_
      obtain ⟨j24, e25, h⟩ := bd_ob h
      have hj24 : j24 < N 15 := (hwf.2.1 1 j0 9 _ e25 (by decide) hj0)
      refine me_opt (j := j24) e25 ?_
      refine lv_bipush (v := 64) hx hb d_M_update_78 (by decide) ?_
      refine lv_iload_n hx hb d_M_update_80 rfl (lv_at hl 1 rfl) ?_
      refine lv_imul hx hb d_M_update_81 ?_
      refine lv_iload_n hx hb d_M_update_82 rfl (lv_at hl 2 rfl) ?_
      refine lv_iadd hx hb d_M_update_83 ?_
      refine lv_iconst (v := 1) hx hb d_M_update_84 (by decide) ?_
      obtain ⟨g26, h⟩ := gd_ob h
      obtain ⟨M27, eM27, h⟩ := st_ob h
      refine me_zast eM27 hx hb hK hP hD hwf hS hj24 g26 d_M_update_85 (fun H locs hP hD hwf hS => ?_)
      have hkp := kp_I eM27 hkp
      refine lv_iconst (v := 0) hx hb d_M_update_86 (by decide) ?_
      refine lv_istore_n (lv' := [(3, .int 0), (0, .ref (ad 1 j0)), (1, .int x1), (2, .int y2)]) hx hb d_M_update_87 rfl hl (by decide) rfl (fun ls hl => ?_)
      exact b_88 _ M27 y2 (0 : Int32) _ _ _ h hwf hkp hP hD hS (lv_sub hl [1, 2, 3, 0] rfl)
    have h := if_f c23 h
    refine lv_iconst (v := (-1)) hx hb d_M_update_72 (by decide) ?_
    exact me_reti (me_kp M0) h hx hb hr hlocks hwf hkp hP hK hD hS d_M_update_73
  have b_67 : ∀ (M : me_M) (s0 : Int32) (H : Heap) (locs : List Loc) (ls : Array Slot), f_M_update_b67 j0 x1 M s0 = (some (MZ, RZ)) → me_wf N M → me_kp M0 M → va_P D classes (me_W ad ca M) H → va_D A (me_W ad ca M) → va_S A s.heap H locs → lv_has ls 4 [(0, .ref (ad 1 j0)), (1, .int x1)] → W p l e rm_M_update s m [.ref (ad 1 j0), .int x1].toArray below meth c H locs 0 0 (MQ below (q_M_update D ad ca N M0 MZ RZ A) [.ref (ad 1 j0), .int x1].toArray s rm_M_update.cells rm_M_update.slots A) (F0 m 67 ls [.int s0]) := by
    intro M s0 H locs ls h hwf hkp hP hD hS hl
    unfold f_M_update_b67 at h
    have hkb := hkp
    refine lv_istore_n (lv' := [(2, .int s0), (0, .ref (ad 1 j0)), (1, .int x1)]) hx hb d_M_update_67 rfl hl (by decide) rfl (fun ls hl => ?_)
    exact b_68 M s0 _ _ _ h hwf hkp hP hD hS (lv_sub hl [1, 2, 0] rfl)
  have b_52 : ∀ (M : me_M) (y2 : Int32) (H : Heap) (locs : List Loc) (ls : Array Slot), f_M_update_b52 j0 x1 M y2 = (some (MZ, RZ)) → me_wf N M → me_kp M0 M → va_P D classes (me_W ad ca M) H → va_D A (me_W ad ca M) → va_S A s.heap H locs → lv_has ls 4 [(0, .ref (ad 1 j0)), (1, .int x1), (2, .int y2)] → W p l e rm_M_update s m [.ref (ad 1 j0), .int x1].toArray below meth c H locs 0 0 (MQ below (q_M_update D ad ca N M0 MZ RZ A) [.ref (ad 1 j0), .int x1].toArray s rm_M_update.cells rm_M_update.slots A) (F0 m 52 ls []) := by
    intro M y2 H locs ls h hwf hkp hP hD hS hl
    unfold f_M_update_b52 at h
    have hkb := hkp
    refine lv_iload_n hx hb d_M_update_52 rfl (lv_at hl 2 rfl) ?_
    refine lv_aload_n hx hb d_M_update_53 rfl (lv_at hl 0 rfl) ?_
    refine g_M_8 hx hb hts hown hK hP hwf hj0 (hts _ u_1749) d_M_update_54 ?_
    obtain ⟨j28, e29, h⟩ := bd_ob h
    have hj28 : j28 < N 13 := (hwf.2.1 1 j0 8 _ e29 (by decide) hj0)
    refine me_opt (j := j28) e29 ?_
    refine lv_iload_n hx hb d_M_update_57 rfl (lv_at hl 1 rfl) ?_
    obtain ⟨g30, h⟩ := gd_ob h
    refine me_iald hx hb hK hP hwf hj28 g30 d_M_update_58 ?_
    refine lv_icmp_ge (tgt := 66) hx hb d_M_update_59 (by decide) (fun c31 => ?_) (fun c31 => ?_)
    · have h := if_t c31 h
      refine lv_iconst (v := (-1)) hx hb d_M_update_66 (by decide) ?_
      exact b_67 M (-1 : Int32) _ _ _ h hwf hkp hP hD hS (lv_sub hl [0, 1] rfl)
    have h := if_f c31 h
    refine lv_iload_n hx hb d_M_update_62 rfl (lv_at hl 2 rfl) ?_
    refine lv_goto (tgt := 67) hx hb d_M_update_63 (by decide) ?_
    exact b_67 M y2 _ _ _ h hwf hkp hP hD hS (lv_sub hl [0, 1] rfl)
  have b_22 : ∀ (fu : Nat), ∀ (M : me_M) (y2 : Int32) (H : Heap) (locs : List Loc) (ls : Array Slot), f_M_update_l22 j0 x1 fu M y2 = (some (MZ, RZ)) → me_wf N M → me_kp M0 M → va_P D classes (me_W ad ca M) H → va_D A (me_W ad ca M) → va_S A s.heap H locs → lv_has ls 4 [(0, .ref (ad 1 j0)), (1, .int x1), (2, .int y2)] → W p l e rm_M_update s m [.ref (ad 1 j0), .int x1].toArray below meth c H locs 0 0 (MQ below (q_M_update D ad ca N M0 MZ RZ A) [.ref (ad 1 j0), .int x1].toArray s rm_M_update.cells rm_M_update.slots A) (F0 m 22 ls []) := by
    intro fu
    induction fu with
    | zero =>
      intro M y2 H locs ls h hwf hkp hP hD hS hl
      cases h
    | succ fu ih =>
      intro M y2 H locs ls h hwf hkp hP hD hS hl
      unfold f_M_update_l22 at h
      have hkb := hkp
      refine lv_iload_n hx hb d_M_update_22 rfl (lv_at hl 2 rfl) ?_
      refine lv_aload_n hx hb d_M_update_23 rfl (lv_at hl 0 rfl) ?_
      refine g_M_8 hx hb hts hown hK hP hwf hj0 (hts _ u_1749) d_M_update_24 ?_
      obtain ⟨j32, e33, h⟩ := bd_ob h
      have hj32 : j32 < N 13 := (hwf.2.1 1 j0 8 _ e33 (by decide) hj0)
      refine me_opt (j := j32) e33 ?_
      refine lv_iload_n hx hb d_M_update_27 rfl (lv_at hl 1 rfl) ?_
      obtain ⟨g34, h⟩ := gd_ob h
      refine me_iald hx hb hK hP hwf hj32 g34 d_M_update_28 ?_
      refine lv_icmp_ge (tgt := 52) hx hb d_M_update_29 (by decide) (fun c35 => ?_) (fun c35 => ?_)
      · have h := if_t c35 h
        exact b_52 M y2 _ _ _ h hwf hkp hP hD hS (lv_sub hl [0, 1, 2] rfl)
      have h := if_f c35 h
      refine lv_aload_n hx hb d_M_update_32 rfl (lv_at hl 0 rfl) ?_
      refine g_M_9 hx hb hts hown hK hP hwf hj0 (hts _ u_1750) d_M_update_33 ?_
      obtain ⟨j36, e37, h⟩ := bd_ob h
      have hj36 : j36 < N 15 := (hwf.2.1 1 j0 9 _ e37 (by decide) hj0)
      refine me_opt (j := j36) e37 ?_
      refine lv_bipush (v := 64) hx hb d_M_update_36 (by decide) ?_
      refine lv_iload_n hx hb d_M_update_38 rfl (lv_at hl 1 rfl) ?_
      refine lv_imul hx hb d_M_update_39 ?_
      refine lv_iload_n hx hb d_M_update_40 rfl (lv_at hl 2 rfl) ?_
      refine lv_iadd hx hb d_M_update_41 ?_
      obtain ⟨g38, h⟩ := gd_ob h
      refine me_zald hx hb hK hP hwf hj36 g38 d_M_update_42 ?_
      have z39 := hwf.2.2.2 15 j36 (((64 * x1) + y2).toNatClampNeg) rfl
      refine lv_if_eq (tgt := 52) hx hb d_M_update_43 (by decide) (fun c40 => ?_) (fun c40 => ?_)
      · have h := if_t c40 h
        exact b_52 M y2 _ _ _ h hwf hkp hP hD hS (lv_sub hl [0, 1, 2] rfl)
      have h := if_f c40 h
      refine lv_iinc (v := y2 + 1) (lv' := [(2, .int (y2 + 1)), (0, .ref (ad 1 j0)), (1, .int x1)]) hx hb d_M_update_46 hl (k := 2) rfl (by rfl) (by decide) rfl (fun ls hl => ?_)
      refine lv_goto (tgt := 22) hx hb d_M_update_49 (by decide) ?_
      exact ih M (y2 + 1) _ _ _ h hwf hkp hP hD hS (lv_sub hl [1, 2, 0] rfl)
  refine lv_aload_n hx hb d_M_update_0 rfl (lv_at hl 0 rfl) ?_
  refine lv_iload_n hx hb d_M_update_1 rfl (lv_at hl 1 rfl) ?_
  obtain ⟨M41, r42, eM41, h⟩ := b2_ob h
  refine me_theni0 (M1 := M41) (me_runV (C := "FilterGuardModel") (As := [.int x1]) (rest := []) ⟨hx, hb, hml, hown, hts⟩ (c_M_findEntry l D ad ca N M0 M41 r42 j0 x1 eM41 hwf hj0 _) rfl (by show fg_nm y_M_findEntry 1; decide +kernel) u_2435 u_2437 u_169 u_192 u_2438 ⟨Nat.le_of_ble_eq_true rfl, Nat.le_of_ble_eq_true rfl⟩ hX hz hK hP hD hwf hS hA hj0 (by decide) rfl rfl rfl hl.1 (Nat.le_of_ble_eq_true rfl) d_M_update_2 ⟨Nat.le_of_ble_eq_true rfl, Nat.le_of_ble_eq_true rfl⟩) hP hD hK hS hA rfl rfl (fun H locs hw hP hD hS => ?_)
  obtain ⟨hwf, hk9⟩ := hw
  have hkp := hkp.tr hk9
  refine lv_istore_n (lv' := [(2, .int r42), (0, .ref (ad 1 j0)), (1, .int x1)]) hx hb d_M_update_5 rfl hl (by decide) rfl (fun ls hl => ?_)
  refine lv_iload_n hx hb d_M_update_6 rfl (lv_at hl 0 rfl) ?_
  refine lv_if_ge (tgt := 68) hx hb d_M_update_7 (by decide) (fun c43 => ?_) (fun c43 => ?_)
  · have h := if_t c43 h
    exact b_68 M41 r42 _ _ _ h hwf hkp hP hD hS (lv_sub hl [1, 2, 0] rfl)
  have h := if_f c43 h
  refine lv_aload_n hx hb d_M_update_10 rfl (lv_at hl 1 rfl) ?_
  refine g_M_5 hx hb hts hown hK hP hwf hj0 (hts _ u_1746) d_M_update_11 ?_
  obtain ⟨j44, e45, h⟩ := bd_ob h
  have hj44 : j44 < N 13 := (hwf.2.1 1 j0 5 _ (kp_r hkb hkp e45) (by decide) hj0)
  refine me_opt (j := j44) (kp_r hkb hkp e45) ?_
  refine lv_iload_n hx hb d_M_update_14 rfl (lv_at hl 2 rfl) ?_
  obtain ⟨g46, h⟩ := gd_ob h
  refine me_iald hx hb hK hP hwf hj44 (kp_z hkb.z hkp.z g46) d_M_update_15 ?_
  refine lv_iconst (v := 1) hx hb d_M_update_16 (by decide) ?_
  refine lv_icmp_ne (tgt := 68) hx hb d_M_update_17 (by decide) (fun c47 => ?_) (fun c47 => ?_)
  · have h := if_f c47 h
    exact b_68 M41 r42 _ _ _ h hwf hkp hP hD hS (lv_sub hl [1, 2, 0] rfl)
  have h := if_t c47 h
  refine lv_iconst (v := 0) hx hb d_M_update_20 (by decide) ?_
  refine lv_istore_n (lv' := [(2, .int 0), (0, .ref (ad 1 j0)), (1, .int x1)]) hx hb d_M_update_21 rfl hl (by decide) rfl (fun ls hl => ?_)
  exact b_22 _ M41 (0 : Int32) _ _ _ h hwf hkp hP hD hS (lv_sub hl [1, 2, 0] rfl)
theorem d_M_delete_19 : decode prog_14_method_118_code 19 = .ok (.istore_n 2, 1) := by decide +kernel
theorem d_M_delete_20 : decode prog_14_method_118_code 20 = .ok (.iload_n 2, 1) := by decide +kernel
theorem d_M_delete_21 : decode prog_14_method_118_code 21 = .ok (.ifCond .ge 5, 3) := by decide +kernel
theorem d_M_delete_26 : decode prog_14_method_118_code 26 = .ok (.aload_n 0, 1) := by decide +kernel
theorem d_M_delete_27 : decode prog_14_method_118_code 27 = .ok (.getfield 27, 3) := by decide +kernel
theorem d_M_delete_30 : decode prog_14_method_118_code 30 = .ok (.bipush 64, 2) := by decide +kernel
theorem d_M_delete_32 : decode prog_14_method_118_code 32 = .ok (.iload_n 1, 1) := by decide +kernel
theorem d_M_delete_33 : decode prog_14_method_118_code 33 = .ok (.imul, 1) := by decide +kernel
theorem d_M_delete_34 : decode prog_14_method_118_code 34 = .ok (.iload_n 2, 1) := by decide +kernel
theorem d_M_delete_35 : decode prog_14_method_118_code 35 = .ok (.iadd, 1) := by decide +kernel
theorem d_M_delete_36 : decode prog_14_method_118_code 36 = .ok (.iconst 0, 1) := by decide +kernel
theorem d_M_delete_37 : decode prog_14_method_118_code 37 = .ok (.bastore, 1) := by decide +kernel
theorem d_M_delete_38 : decode prog_14_method_118_code 38 = .ok (.iconst 0, 1) := by decide +kernel
theorem d_M_delete_39 : decode prog_14_method_118_code 39 = .ok (.ireturn, 1) := by decide +kernel
theorem d_M_delete_24 : decode prog_14_method_118_code 24 = .ok (.iconst (-1), 1) := by decide +kernel
theorem d_M_delete_25 : decode prog_14_method_118_code 25 = .ok (.ireturn, 1) := by decide +kernel
theorem d_M_delete_0 : decode prog_14_method_118_code 0 = .ok (.aload_n 0, 1) := by decide +kernel
theorem d_M_delete_1 : decode prog_14_method_118_code 1 = .ok (.getfield 14, 3) := by decide +kernel
theorem d_M_delete_4 : decode prog_14_method_118_code 4 = .ok (.iload_n 1, 1) := by decide +kernel
theorem d_M_delete_5 : decode prog_14_method_118_code 5 = .ok (.iaload, 1) := by decide +kernel
theorem d_M_delete_6 : decode prog_14_method_118_code 6 = .ok (.iconst 1, 1) := by decide +kernel
theorem d_M_delete_7 : decode prog_14_method_118_code 7 = .ok (.if_icmp .ne 11, 3) := by decide +kernel
theorem d_M_delete_18 : decode prog_14_method_118_code 18 = .ok (.iconst (-1), 1) := by decide +kernel
theorem d_M_delete_10 : decode prog_14_method_118_code 10 = .ok (.aload_n 0, 1) := by decide +kernel
theorem d_M_delete_11 : decode prog_14_method_118_code 11 = .ok (.iload_n 1, 1) := by decide +kernel
theorem d_M_delete_12 : decode prog_14_method_118_code 12 = .ok (.invokevirtual 613, 3) := by decide +kernel
theorem d_M_delete_15 : decode prog_14_method_118_code 15 = .ok (.goto 4, 3) := by decide +kernel
abbrev y_M_delete : MethodName := ⟨"FilterGuardModel", "delete", "(I)I"⟩
def rm_M_delete : Room := { frames := 2, cells := 0, slots := 0, locals := 45 }
abbrev q_M_delete (D : va_G) (ad : Nat → Nat → Nat) (ca : Nat → ClassId) (N : Nat → Nat) (M0 MZ : me_M) (RZ : Int32) (A : Nat → Prop) : Array Value → Jvm.State → Outcome → Jvm.State → Prop := va_Qi (fun r (_ : Unit) => r = RZ ∧ me_wf N MZ ∧ me_kp M0 MZ) (fg_B D A (fun _ => me_W ad ca MZ) (fun _ => [])) A
set_option maxHeartbeats 4000000 in
set_option maxRecDepth 100000 in
theorem c_M_delete (l : Launch) (D : va_G) (ad : Nat → Nat → Nat) (ca : Nat → ClassId) (N : Nat → Nat) (M0 MZ : me_M) (RZ : Int32) (j0 : Nat) (x1 : Int32) (h : f_M_delete M0 j0 x1 = (some (MZ, RZ))) (hwf : me_wf N M0) (hj0 : j0 < N 1) (sz : Nat) : Met l y_M_delete (fg_w y_M_delete prog_14_method_118_code 3 (some .int)) rm_M_delete (va_Pc [.ref (ad 1 j0), .int x1] (fz_P D (me_T ca) (me_W ad ca M0) sz)) (q_M_delete D ad ca N M0 MZ RZ (va_A (me_W ad ca M0) sz)) rm_M_delete.cells rm_M_delete.slots (va_A (me_W ad ca M0) sz) := by
  refine fz_enter (fun A => q_M_delete D ad ca N M0 MZ RZ A) (by decide +kernel) (Nat.le_of_ble_eq_true rfl) ?_
  intro p e s m below meth c ls A hx hb hml hown hts hr hlocks hin hP hK hD hS hA hX hl hz
  have hl : lv_has ls 3 [(0, .ref (ad 1 j0)), (1, .int x1)] := hl
  unfold f_M_delete at h
  have hkp : me_kp M0 M0 := me_kp.rf
  have hkb := hkp
  have b_19 : ∀ (M : me_M) (s0 : Int32) (H : Heap) (locs : List Loc) (ls : Array Slot), f_M_delete_b19 j0 x1 M s0 = (some (MZ, RZ)) → me_wf N M → me_kp M0 M → va_P D classes (me_W ad ca M) H → va_D A (me_W ad ca M) → va_S A s.heap H locs → lv_has ls 3 [(0, .ref (ad 1 j0)), (1, .int x1)] → W p l e rm_M_delete s m [.ref (ad 1 j0), .int x1].toArray below meth c H locs 0 0 (MQ below (q_M_delete D ad ca N M0 MZ RZ A) [.ref (ad 1 j0), .int x1].toArray s rm_M_delete.cells rm_M_delete.slots A) (F0 m 19 ls [.int s0]) := by
    intro M s0 H locs ls h hwf hkp hP hD hS hl
    unfold f_M_delete_b19 at h
    have hkb := hkp
    refine lv_istore_n (lv' := [(2, .int s0), (0, .ref (ad 1 j0)), (1, .int x1)]) hx hb d_M_delete_19 rfl hl (by decide) rfl (fun ls hl => ?_)
    refine lv_iload_n hx hb d_M_delete_20 rfl (lv_at hl 0 rfl) ?_
    refine lv_if_ge (tgt := 26) hx hb d_M_delete_21 (by decide) (fun c1 => ?_) (fun c1 => ?_)
    · have h := if_t c1 h
      refine lv_aload_n hx hb d_M_delete_26 rfl (lv_at hl 1 rfl) ?_
      refine g_M_9 hx hb hts hown hK hP hwf hj0 (hts _ u_1750) d_M_delete_27 ?_
      obtain ⟨j2, e3, h⟩ := bd_ob h
      have hj2 : j2 < N 15 := (hwf.2.1 1 j0 9 _ e3 (by decide) hj0)
      refine me_opt (j := j2) e3 ?_
      refine lv_bipush (v := 64) hx hb d_M_delete_30 (by decide) ?_
      refine lv_iload_n hx hb d_M_delete_32 rfl (lv_at hl 2 rfl) ?_
      refine lv_imul hx hb d_M_delete_33 ?_
      refine lv_iload_n hx hb d_M_delete_34 rfl (lv_at hl 0 rfl) ?_
      refine lv_iadd hx hb d_M_delete_35 ?_
      refine lv_iconst (v := 0) hx hb d_M_delete_36 (by decide) ?_
      obtain ⟨g4, h⟩ := gd_ob h
      obtain ⟨M5, eM5, h⟩ := st_ob h
      refine me_zast eM5 hx hb hK hP hD hwf hS hj2 g4 d_M_delete_37 (fun H locs hP hD hwf hS => ?_)
      have hkp := kp_I eM5 hkp
      refine lv_iconst (v := 0) hx hb d_M_delete_38 (by decide) ?_
      exact me_reti (me_kp M0) h hx hb hr hlocks hwf hkp hP hK hD hS d_M_delete_39
    have h := if_f c1 h
    refine lv_iconst (v := (-1)) hx hb d_M_delete_24 (by decide) ?_
    exact me_reti (me_kp M0) h hx hb hr hlocks hwf hkp hP hK hD hS d_M_delete_25
  refine lv_aload_n hx hb d_M_delete_0 rfl (lv_at hl 0 rfl) ?_
  refine g_M_5 hx hb hts hown hK hP hwf hj0 (hts _ u_1746) d_M_delete_1 ?_
  obtain ⟨j6, e7, h⟩ := bd_ob h
  have hj6 : j6 < N 13 := (hwf.2.1 1 j0 5 _ e7 (by decide) hj0)
  refine me_opt (j := j6) e7 ?_
  refine lv_iload_n hx hb d_M_delete_4 rfl (lv_at hl 1 rfl) ?_
  obtain ⟨g8, h⟩ := gd_ob h
  refine me_iald hx hb hK hP hwf hj6 g8 d_M_delete_5 ?_
  refine lv_iconst (v := 1) hx hb d_M_delete_6 (by decide) ?_
  refine lv_icmp_ne (tgt := 18) hx hb d_M_delete_7 (by decide) (fun c9 => ?_) (fun c9 => ?_)
  · have h := if_f c9 h
    refine lv_iconst (v := (-1)) hx hb d_M_delete_18 (by decide) ?_
    exact b_19 M0 (-1 : Int32) _ _ _ h hwf hkp hP hD hS (lv_sub hl [0, 1] rfl)
  have h := if_t c9 h
  refine lv_aload_n hx hb d_M_delete_10 rfl (lv_at hl 0 rfl) ?_
  refine lv_iload_n hx hb d_M_delete_11 rfl (lv_at hl 1 rfl) ?_
  obtain ⟨M10, r11, eM10, h⟩ := b2_ob h
  refine me_theni0 (M1 := M10) (me_runV (C := "FilterGuardModel") (As := [.int x1]) (rest := []) ⟨hx, hb, hml, hown, hts⟩ (c_M_findEntry l D ad ca N M0 M10 r11 j0 x1 eM10 hwf hj0 _) rfl (by show fg_nm y_M_findEntry 1; decide +kernel) u_2435 u_2437 u_169 u_192 u_2438 ⟨Nat.le_of_ble_eq_true rfl, Nat.le_of_ble_eq_true rfl⟩ hX hz hK hP hD hwf hS hA hj0 (by decide) rfl rfl rfl hl.1 (Nat.le_of_ble_eq_true rfl) d_M_delete_12 ⟨Nat.le_of_ble_eq_true rfl, Nat.le_of_ble_eq_true rfl⟩) hP hD hK hS hA rfl rfl (fun H locs hw hP hD hS => ?_)
  obtain ⟨hwf, hk9⟩ := hw
  have hkp := hkp.tr hk9
  refine lv_goto (tgt := 19) hx hb d_M_delete_15 (by decide) ?_
  exact b_19 M10 r11 _ _ _ h hwf hkp hP hD hS (lv_sub hl [0, 1] rfl)
