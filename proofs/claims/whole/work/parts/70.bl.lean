theorem d_Machine_operand_0 : decode prog_7_method_7_code 0 = .ok (.aload_n 0, 1) := by decide +kernel
theorem d_Machine_operand_1 : decode prog_7_method_7_code 1 = .ok (.getfield 48, 3) := by decide +kernel
theorem g_Machine_16 {p : Program} {l : Launch} {e : Env} {R : Room} {s : Jvm.State} {m : MethodId} {args : Array Value} {below : List Frame} {meth : Method} {c : Code} {H : Heap} {locs : List Loc} {cells slots : Nat} {Q : Jvm.State → Prop} {cc : ByteArray} {pc : Nat} {ls : Array Slot} {rest : List Value} {D : va_G} {ad : Nat → Nat → Nat} {ca : Nat → ClassId} {M : me_M} {N : Nat → Nat} {own : String} {index j : Nat} (hexec : p.tables.exec = Jvm.exec) (hb : c.code = cc) (hts : ∀ w ∈ fg_g, w.before args s = true) (hown : s.vm.findClass own = some m.cls) (hK : va_K D classes (me_T ca) s) (hP : va_P D classes (me_W ad ca M) H) (hwf : me_wf N M) (hj : j < N 5) (hlink : (Cond.fieldLink own index "FilterGuard$Machine" "program" "LFilterGuard$Code;").before args s = true) (hdg : decode cc pc = .ok (.getfield index, 3)) (kk : W p l e R s m args below meth c H locs cells slots Q (F0 m (pc + 3) ls (va_rf ((mR M 5 j 16).map (ad 2)) :: rest))) : W p l e R s m args below meth c H locs cells slots Q (F0 m pc ls (.ref (ad 5 j) :: rest)) := me_get (k := 5) (f := 16) (C := "FilterGuard$Machine") (T := F_Machine) (Nf := 20) hexec hb hts i_Machine hown hK hP hwf hj (by decide) rfl (by decide) (by decide) hlink (fun _ h9 => h9) hdg kk
theorem d_Machine_operand_4 : decode prog_7_method_7_code 4 = .ok (.getfield 167, 3) := by decide +kernel
theorem u_275 : Cond.fieldLink "FilterGuard$Machine" 167 "FilterGuard$Code" "readsFrom" "Z" ∈ fg_g := fg_in (List.mem_of_getElem? (i := 275) (by decide +kernel)) rfl
theorem d_Machine_operand_7 : decode prog_7_method_7_code 7 = .ok (.ifCond .eq 18, 3) := by decide +kernel
theorem d_Machine_operand_25 : decode prog_7_method_7_code 25 = .ok (.aload_n 0, 1) := by decide +kernel
theorem d_Machine_operand_26 : decode prog_7_method_7_code 26 = .ok (.getfield 48, 3) := by decide +kernel
theorem d_Machine_operand_29 : decode prog_7_method_7_code 29 = .ok (.invokevirtual 171, 3) := by decide +kernel
theorem u_1659 : Cond.methodLink "FilterGuard$Machine" 171 ⟨"FilterGuard$Code", "fieldNumber", "()J"⟩ ∈ fg_g := fg_in (List.mem_of_getElem? (i := 1659) (by decide +kernel)) rfl
theorem d_Machine_operand_32 : decode prog_7_method_7_code 32 = .ok (.lreturn, 1) := by decide +kernel
theorem d_Machine_operand_10 : decode prog_7_method_7_code 10 = .ok (.aload_n 0, 1) := by decide +kernel
theorem d_Machine_operand_11 : decode prog_7_method_7_code 11 = .ok (.getfield 18, 3) := by decide +kernel
theorem d_Machine_operand_14 : decode prog_7_method_7_code 14 = .ok (.aload_n 0, 1) := by decide +kernel
theorem d_Machine_operand_15 : decode prog_7_method_7_code 15 = .ok (.getfield 48, 3) := by decide +kernel
theorem d_Machine_operand_18 : decode prog_7_method_7_code 18 = .ok (.getfield 139, 3) := by decide +kernel
theorem u_241 : Cond.fieldLink "FilterGuard$Machine" 139 "FilterGuard$Code" "from" "I" ∈ fg_g := fg_in (List.mem_of_getElem? (i := 241) (by decide +kernel)) rfl
theorem d_Machine_operand_21 : decode prog_7_method_7_code 21 = .ok (.laload, 1) := by decide +kernel
theorem d_Machine_operand_22 : decode prog_7_method_7_code 22 = .ok (.goto 10, 3) := by decide +kernel
abbrev y_Machine_operand : MethodName := ⟨"FilterGuard$Machine", "operand", "()J"⟩
def f_Machine_operand (M0 : me_M) (j0 : Nat) : Option (me_M × Int64) := bd (mR M0 5 j0 16) (fun (j1 : Nat) => (if (mI M0 2 j1 15) = 0 then b2 (f_Code_fieldNumber M0 j1) (fun (M5 : me_M) (r6 : Int64) => some (M5, r6)) else bd (mR M0 5 j0 6) (fun (j7 : Nat) => gd (¬ ((mI M0 2 j1 7) < 0 ∨ mZ M0 16 j7 ≤ (mI M0 2 j1 7).toNatClampNeg)) (some (M0, (mL M0 16 j7 (mI M0 2 j1 7).toNatClampNeg))))))
def rm_Machine_operand : Room := { frames := 2, cells := 0, slots := 0, locals := 40 }
abbrev q_Machine_operand (D : va_G) (ad : Nat → Nat → Nat) (ca : Nat → ClassId) (N : Nat → Nat) (M0 MZ : me_M) (RZ : Int64) (A : Nat → Prop) : Array Value → Jvm.State → Outcome → Jvm.State → Prop := va_Ql (fun r (_ : Unit) => r = RZ ∧ me_wf N MZ ∧ me_kp M0 MZ) (fg_B D A (fun _ => me_W ad ca MZ) (fun _ => [])) A
set_option maxHeartbeats 4000000 in
set_option maxRecDepth 100000 in
theorem c_Machine_operand (l : Launch) (D : va_G) (ad : Nat → Nat → Nat) (ca : Nat → ClassId) (N : Nat → Nat) (M0 MZ : me_M) (RZ : Int64) (j0 : Nat) (h : f_Machine_operand M0 j0 = (some (MZ, RZ))) (hwf : me_wf N M0) (hj0 : j0 < N 5) (sz : Nat) : Met l y_Machine_operand (fg_w y_Machine_operand prog_7_method_7_code 1 (some .long)) rm_Machine_operand (va_Pc [.ref (ad 5 j0)] (fz_P D (me_T ca) (me_W ad ca M0) sz)) (q_Machine_operand D ad ca N M0 MZ RZ (va_A (me_W ad ca M0) sz)) rm_Machine_operand.cells rm_Machine_operand.slots (va_A (me_W ad ca M0) sz) := by
  refine fz_enter (fun A => q_Machine_operand D ad ca N M0 MZ RZ A) (by decide +kernel) (Nat.le_of_ble_eq_true rfl) ?_
  intro p e s m below meth c ls A hx hb hml hown hts hr hlocks hin hP hK hD hS hA hX hl hz
  have hl : lv_has ls 1 [(0, .ref (ad 5 j0))] := hl
  unfold f_Machine_operand at h
  have hkp : me_kp M0 M0 := me_kp.rf
  have hkb := hkp
  refine lv_aload_n hx hb d_Machine_operand_0 rfl (lv_at hl 0 rfl) ?_
  refine g_Machine_16 hx hb hts hown hK hP hwf hj0 (hts _ u_648) d_Machine_operand_1 ?_
  obtain ⟨j1, e2, h⟩ := bd_ob h
  have hj1 : j1 < N 2 := (hwf.2.1 5 j0 16 _ e2 (by decide) hj0)
  refine me_opt (j := j1) e2 ?_
  refine g_Code_15 hx hb hts hown hK hP hwf hj1 (hts _ u_275) d_Machine_operand_4 ?_
  have z3 := (hwf.2.2.2 2 j1 15 rfl)
  refine lv_if_eq (tgt := 25) hx hb d_Machine_operand_7 (by decide) (fun c4 => ?_) (fun c4 => ?_)
  · have h := if_t c4 h
    refine lv_aload_n hx hb d_Machine_operand_25 rfl (lv_at hl 0 rfl) ?_
    refine g_Machine_16 hx hb hts hown hK hP hwf hj0 (hts _ u_648) d_Machine_operand_26 ?_
    refine me_opt (j := j1) e2 ?_
    obtain ⟨M5, r6, eM5, h⟩ := b2_ob h
    refine me_thenl0 (M1 := M5) (me_runV (C := "FilterGuard$Code") (As := []) (rest := []) ⟨hx, hb, hml, hown, hts⟩ (c_Code_fieldNumber l D ad ca N M0 M5 r6 j1 eM5 hwf hj1 _) rfl (by show fg_nm y_Code_fieldNumber 0; decide +kernel) u_1659 u_1118 u_1119 u_182 u_1120 ⟨Nat.le_of_ble_eq_true rfl, Nat.le_of_ble_eq_true rfl⟩ hX hz hK hP hD hwf hS hA hj1 (by decide) rfl rfl rfl hl.1 (Nat.le_of_ble_eq_true rfl) d_Machine_operand_29 ⟨Nat.le_of_ble_eq_true rfl, Nat.le_of_ble_eq_true rfl⟩) hP hD hK hS hA rfl rfl (fun H locs hw hP hD hS => ?_)
    obtain ⟨hwf, hk9⟩ := hw
    have hkp := hkp.tr hk9
    exact me_retl (me_kp M0) h hx hb hr hlocks hwf hkp hP hK hD hS d_Machine_operand_32
  have h := if_f c4 h
  refine lv_aload_n hx hb d_Machine_operand_10 rfl (lv_at hl 0 rfl) ?_
  refine g_Machine_6 hx hb hts hown hK hP hwf hj0 (hts _ u_629) d_Machine_operand_11 ?_
  obtain ⟨j7, e8, h⟩ := bd_ob h
  have hj7 : j7 < N 16 := (hwf.2.1 5 j0 6 _ e8 (by decide) hj0)
  refine me_opt (j := j7) e8 ?_
  refine lv_aload_n hx hb d_Machine_operand_14 rfl (lv_at hl 0 rfl) ?_
  refine g_Machine_16 hx hb hts hown hK hP hwf hj0 (hts _ u_648) d_Machine_operand_15 ?_
  refine me_opt (j := j1) e2 ?_
  refine g_Code_7 hx hb hts hown hK hP hwf hj1 (hts _ u_241) d_Machine_operand_18 ?_
  obtain ⟨g9, h⟩ := gd_ob h
  refine me_lald hx hb hK hP hwf hj7 g9 d_Machine_operand_21 ?_
  refine lv_goto (tgt := 32) hx hb d_Machine_operand_22 (by decide) ?_
  exact me_retl (me_kp M0) h hx hb hr hlocks hwf hkp hP hK hD hS d_Machine_operand_32
theorem d_Machine_reckonedWide_0 : decode prog_7_method_9_code 0 = .ok (.iload_n 1, 1) := by decide +kernel
theorem d_Machine_reckonedWide_1 : decode prog_7_method_9_code 1 = .ok (.tableswitch 181 0 14 #[75, 80, 85, 90, 97, 109, 114, 119, 124, 134, 144, 154, 181, 157, 165], 75) := by decide +kernel
theorem d_Machine_reckonedWide_76 : decode prog_7_method_9_code 76 = .ok (.lload_n 2, 1) := by decide +kernel
theorem d_Machine_reckonedWide_77 : decode prog_7_method_9_code 77 = .ok (.lload 4, 2) := by decide +kernel
theorem d_Machine_reckonedWide_79 : decode prog_7_method_9_code 79 = .ok (.ladd, 1) := by decide +kernel
theorem d_Machine_reckonedWide_80 : decode prog_7_method_9_code 80 = .ok (.lreturn, 1) := by decide +kernel
theorem d_Machine_reckonedWide_81 : decode prog_7_method_9_code 81 = .ok (.lload_n 2, 1) := by decide +kernel
theorem d_Machine_reckonedWide_82 : decode prog_7_method_9_code 82 = .ok (.lload 4, 2) := by decide +kernel
theorem d_Machine_reckonedWide_84 : decode prog_7_method_9_code 84 = .ok (.lsub, 1) := by decide +kernel
theorem d_Machine_reckonedWide_85 : decode prog_7_method_9_code 85 = .ok (.lreturn, 1) := by decide +kernel
theorem d_Machine_reckonedWide_86 : decode prog_7_method_9_code 86 = .ok (.lload_n 2, 1) := by decide +kernel
theorem d_Machine_reckonedWide_87 : decode prog_7_method_9_code 87 = .ok (.lload 4, 2) := by decide +kernel
theorem d_Machine_reckonedWide_89 : decode prog_7_method_9_code 89 = .ok (.lmul, 1) := by decide +kernel
theorem d_Machine_reckonedWide_90 : decode prog_7_method_9_code 90 = .ok (.lreturn, 1) := by decide +kernel
theorem d_Machine_reckonedWide_91 : decode prog_7_method_9_code 91 = .ok (.lload_n 2, 1) := by decide +kernel
theorem d_Machine_reckonedWide_92 : decode prog_7_method_9_code 92 = .ok (.lload 4, 2) := by decide +kernel
theorem d_Machine_reckonedWide_94 : decode prog_7_method_9_code 94 = .ok (.invokestatic 188, 3) := by decide +kernel
theorem u_1668 : Cond.methodLink "FilterGuard$Machine" 188 ⟨"FilterGuard$Reckoner", "quotient", "(JJ)J"⟩ ∈ fg_g := fg_in (List.mem_of_getElem? (i := 1668) (by decide +kernel)) rfl
theorem d_Machine_reckonedWide_97 : decode prog_7_method_9_code 97 = .ok (.lreturn, 1) := by decide +kernel
theorem d_Machine_reckonedWide_98 : decode prog_7_method_9_code 98 = .ok (.lload_n 2, 1) := by decide +kernel
theorem d_Machine_reckonedWide_99 : decode prog_7_method_9_code 99 = .ok (.lload_n 2, 1) := by decide +kernel
theorem d_Machine_reckonedWide_100 : decode prog_7_method_9_code 100 = .ok (.lload 4, 2) := by decide +kernel
theorem d_Machine_reckonedWide_102 : decode prog_7_method_9_code 102 = .ok (.invokestatic 188, 3) := by decide +kernel
theorem d_Machine_reckonedWide_105 : decode prog_7_method_9_code 105 = .ok (.lload 4, 2) := by decide +kernel
theorem d_Machine_reckonedWide_107 : decode prog_7_method_9_code 107 = .ok (.lmul, 1) := by decide +kernel
theorem d_Machine_reckonedWide_108 : decode prog_7_method_9_code 108 = .ok (.lsub, 1) := by decide +kernel
theorem d_Machine_reckonedWide_109 : decode prog_7_method_9_code 109 = .ok (.lreturn, 1) := by decide +kernel
theorem d_Machine_reckonedWide_110 : decode prog_7_method_9_code 110 = .ok (.lload_n 2, 1) := by decide +kernel
theorem d_Machine_reckonedWide_111 : decode prog_7_method_9_code 111 = .ok (.lload 4, 2) := by decide +kernel
theorem d_Machine_reckonedWide_113 : decode prog_7_method_9_code 113 = .ok (.land, 1) := by decide +kernel
theorem d_Machine_reckonedWide_114 : decode prog_7_method_9_code 114 = .ok (.lreturn, 1) := by decide +kernel
theorem d_Machine_reckonedWide_115 : decode prog_7_method_9_code 115 = .ok (.lload_n 2, 1) := by decide +kernel
theorem d_Machine_reckonedWide_116 : decode prog_7_method_9_code 116 = .ok (.lload 4, 2) := by decide +kernel
theorem d_Machine_reckonedWide_118 : decode prog_7_method_9_code 118 = .ok (.lor, 1) := by decide +kernel
theorem d_Machine_reckonedWide_119 : decode prog_7_method_9_code 119 = .ok (.lreturn, 1) := by decide +kernel
theorem d_Machine_reckonedWide_120 : decode prog_7_method_9_code 120 = .ok (.lload_n 2, 1) := by decide +kernel
theorem d_Machine_reckonedWide_121 : decode prog_7_method_9_code 121 = .ok (.lload 4, 2) := by decide +kernel
theorem d_Machine_reckonedWide_123 : decode prog_7_method_9_code 123 = .ok (.lxor, 1) := by decide +kernel
theorem d_Machine_reckonedWide_124 : decode prog_7_method_9_code 124 = .ok (.lreturn, 1) := by decide +kernel
theorem d_Machine_reckonedWide_125 : decode prog_7_method_9_code 125 = .ok (.lload_n 2, 1) := by decide +kernel
theorem d_Machine_reckonedWide_126 : decode prog_7_method_9_code 126 = .ok (.lload 4, 2) := by decide +kernel
theorem d_Machine_reckonedWide_128 : decode prog_7_method_9_code 128 = .ok (.ldc2_w 193, 3) := by decide +kernel
theorem u_1669 : Cond.constantLong "FilterGuard$Machine" 193 63 ∈ fg_g := fg_in (List.mem_of_getElem? (i := 1669) (by decide +kernel)) rfl
theorem d_Machine_reckonedWide_131 : decode prog_7_method_9_code 131 = .ok (.land, 1) := by decide +kernel
theorem d_Machine_reckonedWide_132 : decode prog_7_method_9_code 132 = .ok (.l2i, 1) := by decide +kernel
theorem d_Machine_reckonedWide_133 : decode prog_7_method_9_code 133 = .ok (.lshl, 1) := by decide +kernel
theorem d_Machine_reckonedWide_134 : decode prog_7_method_9_code 134 = .ok (.lreturn, 1) := by decide +kernel
theorem d_Machine_reckonedWide_135 : decode prog_7_method_9_code 135 = .ok (.lload_n 2, 1) := by decide +kernel
theorem d_Machine_reckonedWide_136 : decode prog_7_method_9_code 136 = .ok (.lload 4, 2) := by decide +kernel
theorem d_Machine_reckonedWide_138 : decode prog_7_method_9_code 138 = .ok (.ldc2_w 193, 3) := by decide +kernel
theorem d_Machine_reckonedWide_141 : decode prog_7_method_9_code 141 = .ok (.land, 1) := by decide +kernel
theorem d_Machine_reckonedWide_142 : decode prog_7_method_9_code 142 = .ok (.l2i, 1) := by decide +kernel
theorem d_Machine_reckonedWide_143 : decode prog_7_method_9_code 143 = .ok (.lushr, 1) := by decide +kernel
theorem d_Machine_reckonedWide_144 : decode prog_7_method_9_code 144 = .ok (.lreturn, 1) := by decide +kernel
theorem d_Machine_reckonedWide_145 : decode prog_7_method_9_code 145 = .ok (.lload_n 2, 1) := by decide +kernel
theorem d_Machine_reckonedWide_146 : decode prog_7_method_9_code 146 = .ok (.lload 4, 2) := by decide +kernel
theorem d_Machine_reckonedWide_148 : decode prog_7_method_9_code 148 = .ok (.ldc2_w 193, 3) := by decide +kernel
theorem d_Machine_reckonedWide_151 : decode prog_7_method_9_code 151 = .ok (.land, 1) := by decide +kernel
theorem d_Machine_reckonedWide_152 : decode prog_7_method_9_code 152 = .ok (.l2i, 1) := by decide +kernel
theorem d_Machine_reckonedWide_153 : decode prog_7_method_9_code 153 = .ok (.lshr, 1) := by decide +kernel
theorem d_Machine_reckonedWide_154 : decode prog_7_method_9_code 154 = .ok (.lreturn, 1) := by decide +kernel
theorem d_Machine_reckonedWide_155 : decode prog_7_method_9_code 155 = .ok (.lload_n 2, 1) := by decide +kernel
theorem d_Machine_reckonedWide_156 : decode prog_7_method_9_code 156 = .ok (.lneg, 1) := by decide +kernel
theorem d_Machine_reckonedWide_157 : decode prog_7_method_9_code 157 = .ok (.lreturn, 1) := by decide +kernel
theorem d_Machine_reckonedWide_182 : decode prog_7_method_9_code 182 = .ok (.lload 4, 2) := by decide +kernel
theorem d_Machine_reckonedWide_184 : decode prog_7_method_9_code 184 = .ok (.lreturn, 1) := by decide +kernel
theorem d_Machine_reckonedWide_158 : decode prog_7_method_9_code 158 = .ok (.lload_n 2, 1) := by decide +kernel
theorem d_Machine_reckonedWide_159 : decode prog_7_method_9_code 159 = .ok (.lload 4, 2) := by decide +kernel
theorem d_Machine_reckonedWide_161 : decode prog_7_method_9_code 161 = .ok (.l2i, 1) := by decide +kernel
theorem d_Machine_reckonedWide_162 : decode prog_7_method_9_code 162 = .ok (.invokestatic 195, 3) := by decide +kernel
theorem u_1670 : Cond.methodLink "FilterGuard$Machine" 195 ⟨"FilterGuard$Reckoner", "swapped", "(JI)J"⟩ ∈ fg_g := fg_in (List.mem_of_getElem? (i := 1670) (by decide +kernel)) rfl
theorem d_Machine_reckonedWide_165 : decode prog_7_method_9_code 165 = .ok (.lreturn, 1) := by decide +kernel
theorem d_Machine_reckonedWide_166 : decode prog_7_method_9_code 166 = .ok (.lload_n 2, 1) := by decide +kernel
theorem d_Machine_reckonedWide_167 : decode prog_7_method_9_code 167 = .ok (.ldc2_w 199, 3) := by decide +kernel
theorem u_1671 : Cond.constantLong "FilterGuard$Machine" 199 (-1) ∈ fg_g := fg_in (List.mem_of_getElem? (i := 1671) (by decide +kernel)) rfl
theorem d_Machine_reckonedWide_170 : decode prog_7_method_9_code 170 = .ok (.bipush 64, 2) := by decide +kernel
theorem d_Machine_reckonedWide_172 : decode prog_7_method_9_code 172 = .ok (.bipush 8, 2) := by decide +kernel
theorem d_Machine_reckonedWide_174 : decode prog_7_method_9_code 174 = .ok (.lload 4, 2) := by decide +kernel
theorem d_Machine_reckonedWide_176 : decode prog_7_method_9_code 176 = .ok (.l2i, 1) := by decide +kernel
theorem d_Machine_reckonedWide_177 : decode prog_7_method_9_code 177 = .ok (.imul, 1) := by decide +kernel
theorem d_Machine_reckonedWide_178 : decode prog_7_method_9_code 178 = .ok (.isub, 1) := by decide +kernel
theorem d_Machine_reckonedWide_179 : decode prog_7_method_9_code 179 = .ok (.lushr, 1) := by decide +kernel
theorem d_Machine_reckonedWide_180 : decode prog_7_method_9_code 180 = .ok (.land, 1) := by decide +kernel
theorem d_Machine_reckonedWide_181 : decode prog_7_method_9_code 181 = .ok (.lreturn, 1) := by decide +kernel
abbrev y_Machine_reckonedWide : MethodName := ⟨"FilterGuard$Machine", "reckonedWide", "(IJJ)J"⟩
def f_Machine_reckonedWide (M0 : me_M) (j0 : Nat) (x1 : Int32) (x2 : Int64) (x4 : Int64) : Option (me_M × Int64) := (if x1 = 0 then some (M0, (x2 + x4)) else (if x1 = 1 then some (M0, (x2 - x4)) else (if x1 = 2 then some (M0, (x2 * x4)) else (if x1 = 3 then bd (f_Reckoner_quotient x2 x4) (fun (r6 : Int64) => some (M0, r6)) else (if x1 = 4 then bd (f_Reckoner_quotient x2 x4) (fun (r8 : Int64) => some (M0, (x2 - (r8 * x4)))) else (if x1 = 5 then some (M0, (x2 &&& x4)) else (if x1 = 6 then some (M0, (x2 ||| x4)) else (if x1 = 7 then some (M0, (x2 ^^^ x4)) else (if x1 = 8 then some (M0, (jlshl x2 ((x4 &&& 63).toInt32))) else (if x1 = 9 then some (M0, (jlushr x2 ((x4 &&& 63).toInt32))) else (if x1 = 10 then some (M0, (jlshr x2 ((x4 &&& 63).toInt32))) else (if x1 = 11 then some (M0, (-x2)) else (if x1 = 12 then some (M0, x4) else (if x1 = 13 then bd (f_Reckoner_swapped x2 x4.toInt32) (fun (r18 : Int64) => some (M0, r18)) else (if x1 = 14 then some (M0, (x2 &&& (jlushr (-1 : Int64) (64 - (8 * x4.toInt32))))) else some (M0, x4))))))))))))))))
def rm_Machine_reckonedWide : Room := { frames := 2, cells := 0, slots := 0, locals := 47 }
abbrev q_Machine_reckonedWide (D : va_G) (ad : Nat → Nat → Nat) (ca : Nat → ClassId) (N : Nat → Nat) (M0 MZ : me_M) (RZ : Int64) (A : Nat → Prop) : Array Value → Jvm.State → Outcome → Jvm.State → Prop := va_Ql (fun r (_ : Unit) => r = RZ ∧ me_wf N MZ ∧ me_kp M0 MZ) (fg_B D A (fun _ => me_W ad ca MZ) (fun _ => [])) A
set_option maxHeartbeats 4000000 in
set_option maxRecDepth 100000 in
theorem c_Machine_reckonedWide (l : Launch) (D : va_G) (ad : Nat → Nat → Nat) (ca : Nat → ClassId) (N : Nat → Nat) (M0 MZ : me_M) (RZ : Int64) (j0 : Nat) (x1 : Int32) (x2 : Int64) (x4 : Int64) (h : f_Machine_reckonedWide M0 j0 x1 x2 x4 = (some (MZ, RZ))) (hwf : me_wf N M0) (hj0 : j0 < N 5) (sz : Nat) : Met l y_Machine_reckonedWide (fg_w y_Machine_reckonedWide prog_7_method_9_code 6 (some .long)) rm_Machine_reckonedWide (va_Pc [.ref (ad 5 j0), .int x1, .long x2, .long x4] (fz_P D (me_T ca) (me_W ad ca M0) sz)) (q_Machine_reckonedWide D ad ca N M0 MZ RZ (va_A (me_W ad ca M0) sz)) rm_Machine_reckonedWide.cells rm_Machine_reckonedWide.slots (va_A (me_W ad ca M0) sz) := by
  refine fz_enter (fun A => q_Machine_reckonedWide D ad ca N M0 MZ RZ A) (by decide +kernel) (Nat.le_of_ble_eq_true rfl) ?_
  intro p e s m below meth c ls A hx hb hml hown hts hr hlocks hin hP hK hD hS hA hX hl hz
  have hl : lv_has ls 6 [(0, .ref (ad 5 j0)), (1, .int x1), (2, .long x2), (4, .long x4)] := hl
  unfold f_Machine_reckonedWide at h
  have hkp : me_kp M0 M0 := me_kp.rf
  have hkb := hkp
  refine lv_iload_n hx hb d_Machine_reckonedWide_0 rfl (lv_at hl 1 rfl) ?_
  refine lv_topi (fun w1 ew1 => ?_)
  by_cases n2 : w1 = 0
  · have h := if_t (ew1.symm.trans n2) h
    subst n2
    refine lv_tableIn (off := 75) (tgt := 76) hx hb d_Machine_reckonedWide_1 (by decide) (by decide) (by decide) (by decide) ?_
    refine lv_lload_n hx hb d_Machine_reckonedWide_76 rfl (lv_at hl 2 rfl) ?_
    refine lv_lload hx hb d_Machine_reckonedWide_77 (lv_at hl 3 rfl) ?_
    refine lv_ladd hx hb d_Machine_reckonedWide_79 ?_
    exact me_retl (me_kp M0) h hx hb hr hlocks hwf hkp hP hK hD hS d_Machine_reckonedWide_80
  have h := if_f (fun z => n2 (ew1.trans z)) h
  by_cases n3 : w1 = 1
  · have h := if_t (ew1.symm.trans n3) h
    subst n3
    refine lv_tableIn (off := 80) (tgt := 81) hx hb d_Machine_reckonedWide_1 (by decide) (by decide) (by decide) (by decide) ?_
    refine lv_lload_n hx hb d_Machine_reckonedWide_81 rfl (lv_at hl 2 rfl) ?_
    refine lv_lload hx hb d_Machine_reckonedWide_82 (lv_at hl 3 rfl) ?_
    refine lv_lsub hx hb d_Machine_reckonedWide_84 ?_
    exact me_retl (me_kp M0) h hx hb hr hlocks hwf hkp hP hK hD hS d_Machine_reckonedWide_85
  have h := if_f (fun z => n3 (ew1.trans z)) h
  by_cases n4 : w1 = 2
  · have h := if_t (ew1.symm.trans n4) h
    subst n4
    refine lv_tableIn (off := 85) (tgt := 86) hx hb d_Machine_reckonedWide_1 (by decide) (by decide) (by decide) (by decide) ?_
    refine lv_lload_n hx hb d_Machine_reckonedWide_86 rfl (lv_at hl 2 rfl) ?_
    refine lv_lload hx hb d_Machine_reckonedWide_87 (lv_at hl 3 rfl) ?_
    refine lv_lmul hx hb d_Machine_reckonedWide_89 ?_
    exact me_retl (me_kp M0) h hx hb hr hlocks hwf hkp hP hK hD hS d_Machine_reckonedWide_90
  have h := if_f (fun z => n4 (ew1.trans z)) h
  by_cases n5 : w1 = 3
  · have h := if_t (ew1.symm.trans n5) h
    subst n5
    refine lv_tableIn (off := 90) (tgt := 91) hx hb d_Machine_reckonedWide_1 (by decide) (by decide) (by decide) (by decide) ?_
    refine lv_lload_n hx hb d_Machine_reckonedWide_91 rfl (lv_at hl 2 rfl) ?_
    refine lv_lload hx hb d_Machine_reckonedWide_92 (lv_at hl 3 rfl) ?_
    obtain ⟨r6, er6, h⟩ := bd_ob h
    refine me_panl' (r0 := r6) (fg_runS (wc := []) (tc := []) (A2 := A) (As := [.long x2, .long x4]) (rest := []) ⟨hx, hb, hml, hown, hts⟩ (c_Reckoner_quotient l D r6 x2 x4 er6 _) (by show fg_nm y_Reckoner_quotient 2; decide +kernel) u_1668 u_1182 u_186 u_1183 ⟨Nat.le_of_ble_eq_true rfl, Nat.le_of_ble_eq_true rfl⟩ hX me_P0 (hK.sub (tys' := []) [] rfl) me_D0 rfl hl.1 (Nat.le_of_ble_eq_true rfl) d_Machine_reckonedWide_94 ⟨Nat.le_of_ble_eq_true rfl, Nat.le_of_ble_eq_true rfl⟩) hP hD hK hS hA rfl rfl (fun H locs hw hP hD hS => ?_)
    exact me_retl (me_kp M0) h hx hb hr hlocks hwf hkp hP hK hD hS d_Machine_reckonedWide_97
  have h := if_f (fun z => n5 (ew1.trans z)) h
  by_cases n7 : w1 = 4
  · have h := if_t (ew1.symm.trans n7) h
    subst n7
    refine lv_tableIn (off := 97) (tgt := 98) hx hb d_Machine_reckonedWide_1 (by decide) (by decide) (by decide) (by decide) ?_
    refine lv_lload_n hx hb d_Machine_reckonedWide_98 rfl (lv_at hl 2 rfl) ?_
    refine lv_lload_n hx hb d_Machine_reckonedWide_99 rfl (lv_at hl 2 rfl) ?_
    refine lv_lload hx hb d_Machine_reckonedWide_100 (lv_at hl 3 rfl) ?_
    obtain ⟨r8, er8, h⟩ := bd_ob h
    refine me_panl' (r0 := r8) (fg_runS (wc := []) (tc := []) (A2 := A) (As := [.long x2, .long x4]) (rest := [.long x2]) ⟨hx, hb, hml, hown, hts⟩ (c_Reckoner_quotient l D r8 x2 x4 er8 _) (by show fg_nm y_Reckoner_quotient 2; decide +kernel) u_1668 u_1182 u_186 u_1183 ⟨Nat.le_of_ble_eq_true rfl, Nat.le_of_ble_eq_true rfl⟩ hX me_P0 (hK.sub (tys' := []) [] rfl) me_D0 rfl hl.1 (Nat.le_of_ble_eq_true rfl) d_Machine_reckonedWide_102 ⟨Nat.le_of_ble_eq_true rfl, Nat.le_of_ble_eq_true rfl⟩) hP hD hK hS hA rfl rfl (fun H locs hw hP hD hS => ?_)
    refine lv_lload hx hb d_Machine_reckonedWide_105 (lv_at hl 3 rfl) ?_
    refine lv_lmul hx hb d_Machine_reckonedWide_107 ?_
    refine lv_lsub hx hb d_Machine_reckonedWide_108 ?_
    exact me_retl (me_kp M0) h hx hb hr hlocks hwf hkp hP hK hD hS d_Machine_reckonedWide_109
  have h := if_f (fun z => n7 (ew1.trans z)) h
  by_cases n9 : w1 = 5
  · have h := if_t (ew1.symm.trans n9) h
    subst n9
    refine lv_tableIn (off := 109) (tgt := 110) hx hb d_Machine_reckonedWide_1 (by decide) (by decide) (by decide) (by decide) ?_
    refine lv_lload_n hx hb d_Machine_reckonedWide_110 rfl (lv_at hl 2 rfl) ?_
    refine lv_lload hx hb d_Machine_reckonedWide_111 (lv_at hl 3 rfl) ?_
    refine lv_land hx hb d_Machine_reckonedWide_113 ?_
    exact me_retl (me_kp M0) h hx hb hr hlocks hwf hkp hP hK hD hS d_Machine_reckonedWide_114
  have h := if_f (fun z => n9 (ew1.trans z)) h
  by_cases n10 : w1 = 6
  · have h := if_t (ew1.symm.trans n10) h
    subst n10
    refine lv_tableIn (off := 114) (tgt := 115) hx hb d_Machine_reckonedWide_1 (by decide) (by decide) (by decide) (by decide) ?_
    refine lv_lload_n hx hb d_Machine_reckonedWide_115 rfl (lv_at hl 2 rfl) ?_
    refine lv_lload hx hb d_Machine_reckonedWide_116 (lv_at hl 3 rfl) ?_
    refine lv_lor hx hb d_Machine_reckonedWide_118 ?_
    exact me_retl (me_kp M0) h hx hb hr hlocks hwf hkp hP hK hD hS d_Machine_reckonedWide_119
  have h := if_f (fun z => n10 (ew1.trans z)) h
  by_cases n11 : w1 = 7
  · have h := if_t (ew1.symm.trans n11) h
    subst n11
    refine lv_tableIn (off := 119) (tgt := 120) hx hb d_Machine_reckonedWide_1 (by decide) (by decide) (by decide) (by decide) ?_
    refine lv_lload_n hx hb d_Machine_reckonedWide_120 rfl (lv_at hl 2 rfl) ?_
    refine lv_lload hx hb d_Machine_reckonedWide_121 (lv_at hl 3 rfl) ?_
    refine lv_lxor hx hb d_Machine_reckonedWide_123 ?_
    exact me_retl (me_kp M0) h hx hb hr hlocks hwf hkp hP hK hD hS d_Machine_reckonedWide_124
  have h := if_f (fun z => n11 (ew1.trans z)) h
  by_cases n12 : w1 = 8
  · have h := if_t (ew1.symm.trans n12) h
    subst n12
    refine lv_tableIn (off := 124) (tgt := 125) hx hb d_Machine_reckonedWide_1 (by decide) (by decide) (by decide) (by decide) ?_
    refine lv_lload_n hx hb d_Machine_reckonedWide_125 rfl (lv_at hl 2 rfl) ?_
    refine lv_lload hx hb d_Machine_reckonedWide_126 (lv_at hl 3 rfl) ?_
    refine lv_ldc2 hx hb hown (hts _ u_1669) d_Machine_reckonedWide_128 ?_
    refine lv_land hx hb d_Machine_reckonedWide_131 ?_
    refine lv_l2i (v := (x4 &&& 63).toInt32) hx hb d_Machine_reckonedWide_132 rfl ?_
    refine lv_lshl (v := jlshl x2 ((x4 &&& 63).toInt32)) hx hb d_Machine_reckonedWide_133 rfl ?_
    exact me_retl (me_kp M0) h hx hb hr hlocks hwf hkp hP hK hD hS d_Machine_reckonedWide_134
  have h := if_f (fun z => n12 (ew1.trans z)) h
  by_cases n13 : w1 = 9
  · have h := if_t (ew1.symm.trans n13) h
    subst n13
    refine lv_tableIn (off := 134) (tgt := 135) hx hb d_Machine_reckonedWide_1 (by decide) (by decide) (by decide) (by decide) ?_
    refine lv_lload_n hx hb d_Machine_reckonedWide_135 rfl (lv_at hl 2 rfl) ?_
    refine lv_lload hx hb d_Machine_reckonedWide_136 (lv_at hl 3 rfl) ?_
    refine lv_ldc2 hx hb hown (hts _ u_1669) d_Machine_reckonedWide_138 ?_
    refine lv_land hx hb d_Machine_reckonedWide_141 ?_
    refine lv_l2i (v := (x4 &&& 63).toInt32) hx hb d_Machine_reckonedWide_142 rfl ?_
    refine lv_lushr (v := jlushr x2 ((x4 &&& 63).toInt32)) hx hb d_Machine_reckonedWide_143 rfl ?_
    exact me_retl (me_kp M0) h hx hb hr hlocks hwf hkp hP hK hD hS d_Machine_reckonedWide_144
  have h := if_f (fun z => n13 (ew1.trans z)) h
  by_cases n14 : w1 = 10
  · have h := if_t (ew1.symm.trans n14) h
    subst n14
    refine lv_tableIn (off := 144) (tgt := 145) hx hb d_Machine_reckonedWide_1 (by decide) (by decide) (by decide) (by decide) ?_
    refine lv_lload_n hx hb d_Machine_reckonedWide_145 rfl (lv_at hl 2 rfl) ?_
    refine lv_lload hx hb d_Machine_reckonedWide_146 (lv_at hl 3 rfl) ?_
    refine lv_ldc2 hx hb hown (hts _ u_1669) d_Machine_reckonedWide_148 ?_
    refine lv_land hx hb d_Machine_reckonedWide_151 ?_
    refine lv_l2i (v := (x4 &&& 63).toInt32) hx hb d_Machine_reckonedWide_152 rfl ?_
    refine lv_lshr (v := jlshr x2 ((x4 &&& 63).toInt32)) hx hb d_Machine_reckonedWide_153 rfl ?_
    exact me_retl (me_kp M0) h hx hb hr hlocks hwf hkp hP hK hD hS d_Machine_reckonedWide_154
  have h := if_f (fun z => n14 (ew1.trans z)) h
  by_cases n15 : w1 = 11
  · have h := if_t (ew1.symm.trans n15) h
    subst n15
    refine lv_tableIn (off := 154) (tgt := 155) hx hb d_Machine_reckonedWide_1 (by decide) (by decide) (by decide) (by decide) ?_
    refine lv_lload_n hx hb d_Machine_reckonedWide_155 rfl (lv_at hl 2 rfl) ?_
    refine lv_lneg hx hb d_Machine_reckonedWide_156 ?_
    exact me_retl (me_kp M0) h hx hb hr hlocks hwf hkp hP hK hD hS d_Machine_reckonedWide_157
  have h := if_f (fun z => n15 (ew1.trans z)) h
  by_cases n16 : w1 = 12
  · have h := if_t (ew1.symm.trans n16) h
    subst n16
    refine lv_tableIn (off := 181) (tgt := 182) hx hb d_Machine_reckonedWide_1 (by decide) (by decide) (by decide) (by decide) ?_
    refine lv_lload hx hb d_Machine_reckonedWide_182 (lv_at hl 3 rfl) ?_
    exact me_retl (me_kp M0) h hx hb hr hlocks hwf hkp hP hK hD hS d_Machine_reckonedWide_184
  have h := if_f (fun z => n16 (ew1.trans z)) h
  by_cases n17 : w1 = 13
  · have h := if_t (ew1.symm.trans n17) h
    subst n17
    refine lv_tableIn (off := 157) (tgt := 158) hx hb d_Machine_reckonedWide_1 (by decide) (by decide) (by decide) (by decide) ?_
    refine lv_lload_n hx hb d_Machine_reckonedWide_158 rfl (lv_at hl 2 rfl) ?_
    refine lv_lload hx hb d_Machine_reckonedWide_159 (lv_at hl 3 rfl) ?_
    refine lv_l2i (v := x4.toInt32) hx hb d_Machine_reckonedWide_161 rfl ?_
    obtain ⟨r18, er18, h⟩ := bd_ob h
    refine me_panl' (r0 := r18) (fg_runS (wc := []) (tc := []) (A2 := A) (As := [.long x2, .int x4.toInt32]) (rest := []) ⟨hx, hb, hml, hown, hts⟩ (c_Reckoner_swapped l D r18 x2 x4.toInt32 er18 _) (by show fg_nm y_Reckoner_swapped 2; decide +kernel) u_1670 u_1213 u_186 u_1214 ⟨Nat.le_of_ble_eq_true rfl, Nat.le_of_ble_eq_true rfl⟩ hX me_P0 (hK.sub (tys' := []) [] rfl) me_D0 rfl hl.1 (Nat.le_of_ble_eq_true rfl) d_Machine_reckonedWide_162 ⟨Nat.le_of_ble_eq_true rfl, Nat.le_of_ble_eq_true rfl⟩) hP hD hK hS hA rfl rfl (fun H locs hw hP hD hS => ?_)
    exact me_retl (me_kp M0) h hx hb hr hlocks hwf hkp hP hK hD hS d_Machine_reckonedWide_165
  have h := if_f (fun z => n17 (ew1.trans z)) h
  by_cases n19 : w1 = 14
  · have h := if_t (ew1.symm.trans n19) h
    subst n19
    refine lv_tableIn (off := 165) (tgt := 166) hx hb d_Machine_reckonedWide_1 (by decide) (by decide) (by decide) (by decide) ?_
    refine lv_lload_n hx hb d_Machine_reckonedWide_166 rfl (lv_at hl 2 rfl) ?_
    refine lv_ldc2 hx hb hown (hts _ u_1671) d_Machine_reckonedWide_167 ?_
    refine lv_bipush (v := 64) hx hb d_Machine_reckonedWide_170 (by decide) ?_
    refine lv_bipush (v := 8) hx hb d_Machine_reckonedWide_172 (by decide) ?_
    refine lv_lload hx hb d_Machine_reckonedWide_174 (lv_at hl 3 rfl) ?_
    refine lv_l2i (v := x4.toInt32) hx hb d_Machine_reckonedWide_176 rfl ?_
    refine lv_imul hx hb d_Machine_reckonedWide_177 ?_
    refine lv_isub hx hb d_Machine_reckonedWide_178 ?_
    refine lv_lushr (v := jlushr (-1 : Int64) (64 - (8 * x4.toInt32))) hx hb d_Machine_reckonedWide_179 rfl ?_
    refine lv_land hx hb d_Machine_reckonedWide_180 ?_
    exact me_retl (me_kp M0) h hx hb hr hlocks hwf hkp hP hK hD hS d_Machine_reckonedWide_181
  have h := if_f (fun z => n19 (ew1.trans z)) h
  have in2 := lv_neT n2 (show (0 : Int32).toInt = 0 from rfl)
  have in3 := lv_neT n3 (show (1 : Int32).toInt = 1 from rfl)
  have in4 := lv_neT n4 (show (2 : Int32).toInt = 2 from rfl)
  have in5 := lv_neT n5 (show (3 : Int32).toInt = 3 from rfl)
  have in7 := lv_neT n7 (show (4 : Int32).toInt = 4 from rfl)
  have in9 := lv_neT n9 (show (5 : Int32).toInt = 5 from rfl)
  have in10 := lv_neT n10 (show (6 : Int32).toInt = 6 from rfl)
  have in11 := lv_neT n11 (show (7 : Int32).toInt = 7 from rfl)
  have in12 := lv_neT n12 (show (8 : Int32).toInt = 8 from rfl)
  have in13 := lv_neT n13 (show (9 : Int32).toInt = 9 from rfl)
  have in14 := lv_neT n14 (show (10 : Int32).toInt = 10 from rfl)
  have in15 := lv_neT n15 (show (11 : Int32).toInt = 11 from rfl)
  have in16 := lv_neT n16 (show (12 : Int32).toInt = 12 from rfl)
  have in17 := lv_neT n17 (show (13 : Int32).toInt = 13 from rfl)
  have in19 := lv_neT n19 (show (14 : Int32).toInt = 14 from rfl)
  refine lv_tableOut (tgt := 182) hx hb d_Machine_reckonedWide_1 (by omega) (by decide) ?_
  refine lv_lload hx hb d_Machine_reckonedWide_182 (lv_at hl 3 rfl) ?_
  exact me_retl (me_kp M0) h hx hb hr hlocks hwf hkp hP hK hD hS d_Machine_reckonedWide_184
theorem d_Machine_reckoned_67 : decode prog_7_method_8_code 67 = .ok (.lstore 7, 2) := by decide +kernel
theorem d_Machine_reckoned_69 : decode prog_7_method_8_code 69 = .ok (.aload_n 0, 1) := by decide +kernel
theorem d_Machine_reckoned_70 : decode prog_7_method_8_code 70 = .ok (.iload 5, 2) := by decide +kernel
theorem d_Machine_reckoned_72 : decode prog_7_method_8_code 72 = .ok (.lload 7, 2) := by decide +kernel
theorem d_Machine_reckoned_74 : decode prog_7_method_8_code 74 = .ok (.iload 6, 2) := by decide +kernel
theorem d_Machine_reckoned_76 : decode prog_7_method_8_code 76 = .ok (.ifCond .eq 11, 3) := by decide +kernel
theorem d_Machine_reckoned_87 : decode prog_7_method_8_code 87 = .ok (.lload_n 3, 1) := by decide +kernel
theorem d_Machine_reckoned_88 : decode prog_7_method_8_code 88 = .ok (.ldc2_w 184, 3) := by decide +kernel
theorem u_1672 : Cond.constantLong "FilterGuard$Machine" 184 4294967295 ∈ fg_g := fg_in (List.mem_of_getElem? (i := 1672) (by decide +kernel)) rfl
theorem d_Machine_reckoned_91 : decode prog_7_method_8_code 91 = .ok (.land, 1) := by decide +kernel
theorem d_Machine_reckoned_92 : decode prog_7_method_8_code 92 = .ok (.invokevirtual 180, 3) := by decide +kernel
theorem u_1664 : Cond.methodLink "FilterGuard$Machine" 180 ⟨"FilterGuard$Machine", "reckonedWide", "(IJJ)J"⟩ ∈ fg_g := fg_in (List.mem_of_getElem? (i := 1664) (by decide +kernel)) rfl
theorem u_1667 : Cond.code ⟨"FilterGuard$Machine", "reckonedWide", "(IJJ)J"⟩ prog_7_method_9_code 6 (some .long) ∈ fg_g := fg_in (List.mem_of_getElem? (i := 1667) (by decide +kernel)) rfl
theorem u_1666 : Cond.instanceMethod ⟨"FilterGuard$Machine", "reckonedWide", "(IJJ)J"⟩ ∈ fg_g := fg_in (List.mem_of_getElem? (i := 1666) (by decide +kernel)) rfl
theorem u_76 : Cond.selects "FilterGuard$Machine" ⟨"FilterGuard$Machine", "reckonedWide", "(IJJ)J"⟩ ⟨"FilterGuard$Machine", "reckonedWide", "(IJJ)J"⟩ ∈ fg_g := fg_in (List.mem_of_getElem? (i := 76) (by decide +kernel)) rfl
theorem d_Machine_reckoned_95 : decode prog_7_method_8_code 95 = .ok (.ldc2_w 184, 3) := by decide +kernel
theorem d_Machine_reckoned_98 : decode prog_7_method_8_code 98 = .ok (.land, 1) := by decide +kernel
theorem d_Machine_reckoned_99 : decode prog_7_method_8_code 99 = .ok (.lreturn, 1) := by decide +kernel
theorem d_Machine_reckoned_79 : decode prog_7_method_8_code 79 = .ok (.lload_n 3, 1) := by decide +kernel
theorem d_Machine_reckoned_80 : decode prog_7_method_8_code 80 = .ok (.ldc2_w 186, 3) := by decide +kernel
theorem u_1673 : Cond.constantLong "FilterGuard$Machine" 186 31 ∈ fg_g := fg_in (List.mem_of_getElem? (i := 1673) (by decide +kernel)) rfl
theorem d_Machine_reckoned_83 : decode prog_7_method_8_code 83 = .ok (.land, 1) := by decide +kernel
theorem d_Machine_reckoned_84 : decode prog_7_method_8_code 84 = .ok (.goto 8, 3) := by decide +kernel
theorem d_Machine_reckoned_47 : decode prog_7_method_8_code 47 = .ok (.istore 6, 2) := by decide +kernel
theorem d_Machine_reckoned_49 : decode prog_7_method_8_code 49 = .ok (.iload 5, 2) := by decide +kernel
theorem d_Machine_reckoned_51 : decode prog_7_method_8_code 51 = .ok (.bipush 10, 2) := by decide +kernel
theorem d_Machine_reckoned_53 : decode prog_7_method_8_code 53 = .ok (.if_icmp .ne 9, 3) := by decide +kernel
theorem d_Machine_reckoned_62 : decode prog_7_method_8_code 62 = .ok (.lload_n 1, 1) := by decide +kernel
theorem d_Machine_reckoned_63 : decode prog_7_method_8_code 63 = .ok (.ldc2_w 184, 3) := by decide +kernel
theorem d_Machine_reckoned_66 : decode prog_7_method_8_code 66 = .ok (.land, 1) := by decide +kernel
theorem d_Machine_reckoned_56 : decode prog_7_method_8_code 56 = .ok (.lload_n 1, 1) := by decide +kernel
theorem d_Machine_reckoned_57 : decode prog_7_method_8_code 57 = .ok (.l2i, 1) := by decide +kernel
theorem d_Machine_reckoned_58 : decode prog_7_method_8_code 58 = .ok (.i2l, 1) := by decide +kernel
theorem d_Machine_reckoned_59 : decode prog_7_method_8_code 59 = .ok (.goto 8, 3) := by decide +kernel
theorem d_Machine_reckoned_46 : decode prog_7_method_8_code 46 = .ok (.iconst 0, 1) := by decide +kernel
theorem d_Machine_reckoned_0 : decode prog_7_method_8_code 0 = .ok (.aload_n 0, 1) := by decide +kernel
theorem d_Machine_reckoned_1 : decode prog_7_method_8_code 1 = .ok (.getfield 48, 3) := by decide +kernel
theorem d_Machine_reckoned_4 : decode prog_7_method_8_code 4 = .ok (.getfield 174, 3) := by decide +kernel
theorem u_264 : Cond.fieldLink "FilterGuard$Machine" 174 "FilterGuard$Code" "operation" "I" ∈ fg_g := fg_in (List.mem_of_getElem? (i := 264) (by decide +kernel)) rfl
theorem d_Machine_reckoned_7 : decode prog_7_method_8_code 7 = .ok (.istore 5, 2) := by decide +kernel
theorem d_Machine_reckoned_9 : decode prog_7_method_8_code 9 = .ok (.aload_n 0, 1) := by decide +kernel
theorem d_Machine_reckoned_10 : decode prog_7_method_8_code 10 = .ok (.getfield 48, 3) := by decide +kernel
theorem d_Machine_reckoned_13 : decode prog_7_method_8_code 13 = .ok (.getfield 177, 3) := by decide +kernel
theorem u_268 : Cond.fieldLink "FilterGuard$Machine" 177 "FilterGuard$Code" "isNarrow" "Z" ∈ fg_g := fg_in (List.mem_of_getElem? (i := 268) (by decide +kernel)) rfl
theorem d_Machine_reckoned_16 : decode prog_7_method_8_code 16 = .ok (.ifCond .ne 12, 3) := by decide +kernel
theorem d_Machine_reckoned_28 : decode prog_7_method_8_code 28 = .ok (.iload 5, 2) := by decide +kernel
theorem d_Machine_reckoned_30 : decode prog_7_method_8_code 30 = .ok (.bipush 8, 2) := by decide +kernel
theorem d_Machine_reckoned_32 : decode prog_7_method_8_code 32 = .ok (.if_icmp .lt 14, 3) := by decide +kernel
theorem d_Machine_reckoned_35 : decode prog_7_method_8_code 35 = .ok (.iload 5, 2) := by decide +kernel
theorem d_Machine_reckoned_37 : decode prog_7_method_8_code 37 = .ok (.bipush 10, 2) := by decide +kernel
theorem d_Machine_reckoned_39 : decode prog_7_method_8_code 39 = .ok (.if_icmp .gt 7, 3) := by decide +kernel
theorem d_Machine_reckoned_42 : decode prog_7_method_8_code 42 = .ok (.iconst 1, 1) := by decide +kernel
theorem d_Machine_reckoned_43 : decode prog_7_method_8_code 43 = .ok (.goto 4, 3) := by decide +kernel
theorem d_Machine_reckoned_19 : decode prog_7_method_8_code 19 = .ok (.aload_n 0, 1) := by decide +kernel
theorem d_Machine_reckoned_20 : decode prog_7_method_8_code 20 = .ok (.iload 5, 2) := by decide +kernel
theorem d_Machine_reckoned_22 : decode prog_7_method_8_code 22 = .ok (.lload_n 1, 1) := by decide +kernel
theorem d_Machine_reckoned_23 : decode prog_7_method_8_code 23 = .ok (.lload_n 3, 1) := by decide +kernel
theorem d_Machine_reckoned_24 : decode prog_7_method_8_code 24 = .ok (.invokevirtual 180, 3) := by decide +kernel
theorem d_Machine_reckoned_27 : decode prog_7_method_8_code 27 = .ok (.lreturn, 1) := by decide +kernel
abbrev y_Machine_reckoned : MethodName := ⟨"FilterGuard$Machine", "reckoned", "(JJ)J"⟩
def f_Machine_reckoned_b67 (j0 : Nat) (x3 : Int64) (M : me_M) (y5 : Int32) (y6 : Int32) (s0 : Int64) : Option (me_M × Int64) := (if y6 = 0 then b2 (f_Machine_reckonedWide M j0 y5 s0 (x3 &&& 4294967295)) (fun (M2 : me_M) (r3 : Int64) => some (M2, (r3 &&& 4294967295))) else b2 (f_Machine_reckonedWide M j0 y5 s0 (x3 &&& 31)) (fun (M4 : me_M) (r5 : Int64) => some (M4, (r5 &&& 4294967295))))
def f_Machine_reckoned_b47 (j0 : Nat) (x1 : Int64) (x3 : Int64) (M : me_M) (y5 : Int32) (s0 : Int32) : Option (me_M × Int64) := (if y5 = 10 then f_Machine_reckoned_b67 j0 x3 M y5 s0 x1.toInt32.toInt64 else f_Machine_reckoned_b67 j0 x3 M y5 s0 (x1 &&& 4294967295))
def f_Machine_reckoned_b46 (j0 : Nat) (x1 : Int64) (x3 : Int64) (M : me_M) (y5 : Int32) : Option (me_M × Int64) := f_Machine_reckoned_b47 j0 x1 x3 M y5 (0 : Int32)
def f_Machine_reckoned (M0 : me_M) (j0 : Nat) (x1 : Int64) (x3 : Int64) : Option (me_M × Int64) := bd (mR M0 5 j0 16) (fun (j7 : Nat) => st (mI M0 2 j7 12) (fun (v9 : Int32) => (if (mI M0 2 j7 13) = 0 then b2 (f_Machine_reckonedWide M0 j0 v9 x1 x3) (fun (M14 : me_M) (r15 : Int64) => some (M14, r15)) else (if v9 < 8 then f_Machine_reckoned_b46 j0 x1 x3 M0 v9 else (if 10 < v9 then f_Machine_reckoned_b46 j0 x1 x3 M0 v9 else f_Machine_reckoned_b47 j0 x1 x3 M0 v9 (1 : Int32))))))
def rm_Machine_reckoned : Room := { frames := 3, cells := 0, slots := 0, locals := 72 }
abbrev q_Machine_reckoned (D : va_G) (ad : Nat → Nat → Nat) (ca : Nat → ClassId) (N : Nat → Nat) (M0 MZ : me_M) (RZ : Int64) (A : Nat → Prop) : Array Value → Jvm.State → Outcome → Jvm.State → Prop := va_Ql (fun r (_ : Unit) => r = RZ ∧ me_wf N MZ ∧ me_kp M0 MZ) (fg_B D A (fun _ => me_W ad ca MZ) (fun _ => [])) A
set_option maxHeartbeats 4000000 in
set_option maxRecDepth 100000 in
theorem c_Machine_reckoned (l : Launch) (D : va_G) (ad : Nat → Nat → Nat) (ca : Nat → ClassId) (N : Nat → Nat) (M0 MZ : me_M) (RZ : Int64) (j0 : Nat) (x1 : Int64) (x3 : Int64) (h : f_Machine_reckoned M0 j0 x1 x3 = (some (MZ, RZ))) (hwf : me_wf N M0) (hj0 : j0 < N 5) (sz : Nat) : Met l y_Machine_reckoned (fg_w y_Machine_reckoned prog_7_method_8_code 9 (some .long)) rm_Machine_reckoned (va_Pc [.ref (ad 5 j0), .long x1, .long x3] (fz_P D (me_T ca) (me_W ad ca M0) sz)) (q_Machine_reckoned D ad ca N M0 MZ RZ (va_A (me_W ad ca M0) sz)) rm_Machine_reckoned.cells rm_Machine_reckoned.slots (va_A (me_W ad ca M0) sz) := by
  refine fz_enter (fun A => q_Machine_reckoned D ad ca N M0 MZ RZ A) (by decide +kernel) (Nat.le_of_ble_eq_true rfl) ?_
  intro p e s m below meth c ls A hx hb hml hown hts hr hlocks hin hP hK hD hS hA hX hl hz
  have hl : lv_has ls 9 [(0, .ref (ad 5 j0)), (1, .long x1), (3, .long x3)] := hl
  unfold f_Machine_reckoned at h
  have hkp : me_kp M0 M0 := me_kp.rf
  have hkb := hkp
  have b_67 : ∀ (M : me_M) (y5 : Int32) (y6 : Int32) (s0 : Int64) (H : Heap) (locs : List Loc) (ls : Array Slot), f_Machine_reckoned_b67 j0 x3 M y5 y6 s0 = (some (MZ, RZ)) → (y6 = 1 ∨ y6 = 0) → me_wf N M → me_kp M0 M → va_P D classes (me_W ad ca M) H → va_D A (me_W ad ca M) → va_S A s.heap H locs → lv_has ls 9 [(0, .ref (ad 5 j0)), (3, .long x3), (5, .int y5), (6, .int y6)] → W p l e rm_Machine_reckoned s m [.ref (ad 5 j0), .long x1, .long x3].toArray below meth c H locs 0 0 (MQ below (q_Machine_reckoned D ad ca N M0 MZ RZ A) [.ref (ad 5 j0), .long x1, .long x3].toArray s rm_Machine_reckoned.cells rm_Machine_reckoned.slots A) (F0 m 67 ls [.long s0]) := by
    intro M y5 y6 s0 H locs ls h zy6 hwf hkp hP hD hS hl
    unfold f_Machine_reckoned_b67 at h
    have hkb := hkp
    refine lv_lstore (lv' := [(7, .long s0), (0, .ref (ad 5 j0)), (3, .long x3), (5, .int y5), (6, .int y6)]) hx hb d_Machine_reckoned_67 hl (by decide) rfl (fun ls hl => ?_)
    refine lv_aload_n hx hb d_Machine_reckoned_69 rfl (lv_at hl 1 rfl) ?_
    refine lv_iload hx hb d_Machine_reckoned_70 (lv_at hl 3 rfl) ?_
    refine lv_lload hx hb d_Machine_reckoned_72 (lv_at hl 0 rfl) ?_
    refine lv_iload hx hb d_Machine_reckoned_74 (lv_at hl 4 rfl) ?_
    refine lv_if_eq (tgt := 87) hx hb d_Machine_reckoned_76 (by decide) (fun c1 => ?_) (fun c1 => ?_)
    · have h := if_t c1 h
      refine lv_lload_n hx hb d_Machine_reckoned_87 rfl (lv_at hl 2 rfl) ?_
      refine lv_ldc2 hx hb hown (hts _ u_1672) d_Machine_reckoned_88 ?_
      refine lv_land hx hb d_Machine_reckoned_91 ?_
      obtain ⟨M2, r3, eM2, h⟩ := b2_ob h
      refine me_thenl0 (M1 := M2) (me_runV (C := "FilterGuard$Machine") (As := [.int y5, .long s0, .long (x3 &&& 4294967295)]) (rest := []) ⟨hx, hb, hml, hown, hts⟩ (c_Machine_reckonedWide l D ad ca N M M2 r3 j0 y5 s0 (x3 &&& 4294967295) eM2 hwf hj0 _) rfl (by show fg_nm y_Machine_reckonedWide 3; decide +kernel) u_1664 u_1666 u_76 u_190 u_1667 ⟨Nat.le_of_ble_eq_true rfl, Nat.le_of_ble_eq_true rfl⟩ hX hz hK hP hD hwf hS hA hj0 (by decide) rfl rfl rfl hl.1 (Nat.le_of_ble_eq_true rfl) d_Machine_reckoned_92 ⟨Nat.le_of_ble_eq_true rfl, Nat.le_of_ble_eq_true rfl⟩) hP hD hK hS hA rfl rfl (fun H locs hw hP hD hS => ?_)
      obtain ⟨hwf, hk9⟩ := hw
      have hkp := hkp.tr hk9
      refine lv_ldc2 hx hb hown (hts _ u_1672) d_Machine_reckoned_95 ?_
      refine lv_land hx hb d_Machine_reckoned_98 ?_
      exact me_retl (me_kp M0) h hx hb hr hlocks hwf hkp hP hK hD hS d_Machine_reckoned_99
    have h := if_f c1 h
    refine lv_lload_n hx hb d_Machine_reckoned_79 rfl (lv_at hl 2 rfl) ?_
    refine lv_ldc2 hx hb hown (hts _ u_1673) d_Machine_reckoned_80 ?_
    refine lv_land hx hb d_Machine_reckoned_83 ?_
    refine lv_goto (tgt := 92) hx hb d_Machine_reckoned_84 (by decide) ?_
    obtain ⟨M4, r5, eM4, h⟩ := b2_ob h
    refine me_thenl0 (M1 := M4) (me_runV (C := "FilterGuard$Machine") (As := [.int y5, .long s0, .long (x3 &&& 31)]) (rest := []) ⟨hx, hb, hml, hown, hts⟩ (c_Machine_reckonedWide l D ad ca N M M4 r5 j0 y5 s0 (x3 &&& 31) eM4 hwf hj0 _) rfl (by show fg_nm y_Machine_reckonedWide 3; decide +kernel) u_1664 u_1666 u_76 u_190 u_1667 ⟨Nat.le_of_ble_eq_true rfl, Nat.le_of_ble_eq_true rfl⟩ hX hz hK hP hD hwf hS hA hj0 (by decide) rfl rfl rfl hl.1 (Nat.le_of_ble_eq_true rfl) d_Machine_reckoned_92 ⟨Nat.le_of_ble_eq_true rfl, Nat.le_of_ble_eq_true rfl⟩) hP hD hK hS hA rfl rfl (fun H locs hw hP hD hS => ?_)
    obtain ⟨hwf, hk9⟩ := hw
    have hkp := hkp.tr hk9
    refine lv_ldc2 hx hb hown (hts _ u_1672) d_Machine_reckoned_95 ?_
    refine lv_land hx hb d_Machine_reckoned_98 ?_
    exact me_retl (me_kp M0) h hx hb hr hlocks hwf hkp hP hK hD hS d_Machine_reckoned_99
  have b_47 : ∀ (M : me_M) (y5 : Int32) (s0 : Int32) (H : Heap) (locs : List Loc) (ls : Array Slot), f_Machine_reckoned_b47 j0 x1 x3 M y5 s0 = (some (MZ, RZ)) → (s0 = 1 ∨ s0 = 0) → me_wf N M → me_kp M0 M → va_P D classes (me_W ad ca M) H → va_D A (me_W ad ca M) → va_S A s.heap H locs → lv_has ls 9 [(0, .ref (ad 5 j0)), (1, .long x1), (3, .long x3), (5, .int y5)] → W p l e rm_Machine_reckoned s m [.ref (ad 5 j0), .long x1, .long x3].toArray below meth c H locs 0 0 (MQ below (q_Machine_reckoned D ad ca N M0 MZ RZ A) [.ref (ad 5 j0), .long x1, .long x3].toArray s rm_Machine_reckoned.cells rm_Machine_reckoned.slots A) (F0 m 47 ls [.int s0]) := by
    intro M y5 s0 H locs ls h zs0 hwf hkp hP hD hS hl
    unfold f_Machine_reckoned_b47 at h
    have hkb := hkp
    refine lv_istore (lv' := [(6, .int s0), (0, .ref (ad 5 j0)), (1, .long x1), (3, .long x3), (5, .int y5)]) hx hb d_Machine_reckoned_47 hl (by decide) rfl (fun ls hl => ?_)
    refine lv_iload hx hb d_Machine_reckoned_49 (lv_at hl 4 rfl) ?_
    refine lv_bipush (v := 10) hx hb d_Machine_reckoned_51 (by decide) ?_
    refine lv_icmp_ne (tgt := 62) hx hb d_Machine_reckoned_53 (by decide) (fun c6 => ?_) (fun c6 => ?_)
    · have h := if_f c6 h
      refine lv_lload_n hx hb d_Machine_reckoned_62 rfl (lv_at hl 2 rfl) ?_
      refine lv_ldc2 hx hb hown (hts _ u_1672) d_Machine_reckoned_63 ?_
      refine lv_land hx hb d_Machine_reckoned_66 ?_
      exact b_67 M y5 s0 (x1 &&& 4294967295) _ _ _ h zs0 hwf hkp hP hD hS (lv_sub hl [1, 3, 4, 0] rfl)
    have h := if_t c6 h
    refine lv_lload_n hx hb d_Machine_reckoned_56 rfl (lv_at hl 2 rfl) ?_
    refine lv_l2i (v := x1.toInt32) hx hb d_Machine_reckoned_57 rfl ?_
    refine lv_i2l (v := x1.toInt32.toInt64) hx hb d_Machine_reckoned_58 rfl ?_
    refine lv_goto (tgt := 67) hx hb d_Machine_reckoned_59 (by decide) ?_
    exact b_67 M y5 s0 x1.toInt32.toInt64 _ _ _ h zs0 hwf hkp hP hD hS (lv_sub hl [1, 3, 4, 0] rfl)
  have b_46 : ∀ (M : me_M) (y5 : Int32) (H : Heap) (locs : List Loc) (ls : Array Slot), f_Machine_reckoned_b46 j0 x1 x3 M y5 = (some (MZ, RZ)) → me_wf N M → me_kp M0 M → va_P D classes (me_W ad ca M) H → va_D A (me_W ad ca M) → va_S A s.heap H locs → lv_has ls 9 [(0, .ref (ad 5 j0)), (1, .long x1), (3, .long x3), (5, .int y5)] → W p l e rm_Machine_reckoned s m [.ref (ad 5 j0), .long x1, .long x3].toArray below meth c H locs 0 0 (MQ below (q_Machine_reckoned D ad ca N M0 MZ RZ A) [.ref (ad 5 j0), .long x1, .long x3].toArray s rm_Machine_reckoned.cells rm_Machine_reckoned.slots A) (F0 m 46 ls []) := by
    intro M y5 H locs ls h hwf hkp hP hD hS hl
    unfold f_Machine_reckoned_b46 at h
    have hkb := hkp
    refine lv_iconst (v := 0) hx hb d_Machine_reckoned_46 (by decide) ?_
    exact b_47 M y5 (0 : Int32) _ _ _ h (by decide) hwf hkp hP hD hS (lv_sub hl [0, 1, 2, 3] rfl)
  refine lv_aload_n hx hb d_Machine_reckoned_0 rfl (lv_at hl 0 rfl) ?_
  refine g_Machine_16 hx hb hts hown hK hP hwf hj0 (hts _ u_648) d_Machine_reckoned_1 ?_
  obtain ⟨j7, e8, h⟩ := bd_ob h
  have hj7 : j7 < N 2 := (hwf.2.1 5 j0 16 _ e8 (by decide) hj0)
  refine me_opt (j := j7) e8 ?_
  refine g_Code_12 hx hb hts hown hK hP hwf hj7 (hts _ u_264) d_Machine_reckoned_4 ?_
  obtain ⟨v9, ev9, h⟩ := st_ob h
  refine fg_topi (y := v9) ev9.symm ?_
  refine lv_istore (lv' := [(5, .int v9), (0, .ref (ad 5 j0)), (1, .long x1), (3, .long x3)]) hx hb d_Machine_reckoned_7 hl (by decide) rfl (fun ls hl => ?_)
  refine lv_aload_n hx hb d_Machine_reckoned_9 rfl (lv_at hl 1 rfl) ?_
  refine g_Machine_16 hx hb hts hown hK hP hwf hj0 (hts _ u_648) d_Machine_reckoned_10 ?_
  refine me_opt (j := j7) e8 ?_
  refine g_Code_13 hx hb hts hown hK hP hwf hj7 (hts _ u_268) d_Machine_reckoned_13 ?_
  have z10 := (hwf.2.2.2 2 j7 13 rfl)
  refine lv_if_ne (tgt := 28) hx hb d_Machine_reckoned_16 (by decide) (fun c11 => ?_) (fun c11 => ?_)
  · have h := if_f c11 h
    refine lv_iload hx hb d_Machine_reckoned_28 (lv_at hl 0 rfl) ?_
    refine lv_bipush (v := 8) hx hb d_Machine_reckoned_30 (by decide) ?_
    refine lv_icmp_lt (tgt := 46) hx hb d_Machine_reckoned_32 (by decide) (fun c12 => ?_) (fun c12 => ?_)
    · have h := if_t c12 h
      exact b_46 M0 v9 _ _ _ h hwf hkp hP hD hS (lv_sub hl [1, 2, 3, 0] rfl)
    have h := if_f c12 h
    refine lv_iload hx hb d_Machine_reckoned_35 (lv_at hl 0 rfl) ?_
    refine lv_bipush (v := 10) hx hb d_Machine_reckoned_37 (by decide) ?_
    refine lv_icmp_gt (tgt := 46) hx hb d_Machine_reckoned_39 (by decide) (fun c13 => ?_) (fun c13 => ?_)
    · have h := if_t c13 h
      exact b_46 M0 v9 _ _ _ h hwf hkp hP hD hS (lv_sub hl [1, 2, 3, 0] rfl)
    have h := if_f c13 h
    refine lv_iconst (v := 1) hx hb d_Machine_reckoned_42 (by decide) ?_
    refine lv_goto (tgt := 47) hx hb d_Machine_reckoned_43 (by decide) ?_
    exact b_47 M0 v9 (1 : Int32) _ _ _ h (by decide) hwf hkp hP hD hS (lv_sub hl [1, 2, 3, 0] rfl)
  have h := if_t c11 h
  refine lv_aload_n hx hb d_Machine_reckoned_19 rfl (lv_at hl 1 rfl) ?_
  refine lv_iload hx hb d_Machine_reckoned_20 (lv_at hl 0 rfl) ?_
  refine lv_lload_n hx hb d_Machine_reckoned_22 rfl (lv_at hl 2 rfl) ?_
  refine lv_lload_n hx hb d_Machine_reckoned_23 rfl (lv_at hl 3 rfl) ?_
  obtain ⟨M14, r15, eM14, h⟩ := b2_ob h
  refine me_thenl0 (M1 := M14) (me_runV (C := "FilterGuard$Machine") (As := [.int v9, .long x1, .long x3]) (rest := []) ⟨hx, hb, hml, hown, hts⟩ (c_Machine_reckonedWide l D ad ca N M0 M14 r15 j0 v9 x1 x3 eM14 hwf hj0 _) rfl (by show fg_nm y_Machine_reckonedWide 3; decide +kernel) u_1664 u_1666 u_76 u_190 u_1667 ⟨Nat.le_of_ble_eq_true rfl, Nat.le_of_ble_eq_true rfl⟩ hX hz hK hP hD hwf hS hA hj0 (by decide) rfl rfl rfl hl.1 (Nat.le_of_ble_eq_true rfl) d_Machine_reckoned_24 ⟨Nat.le_of_ble_eq_true rfl, Nat.le_of_ble_eq_true rfl⟩) hP hD hK hS hA rfl rfl (fun H locs hw hP hD hS => ?_)
  obtain ⟨hwf, hk9⟩ := hw
  have hkp := hkp.tr hk9
  exact me_retl (me_kp M0) h hx hb hr hlocks hwf hkp hP hK hD hS d_Machine_reckoned_27
theorem d_Machine_holds_78 : decode prog_7_method_10_code 78 = .ok (.lstore 11, 2) := by decide +kernel
theorem d_Machine_holds_80 : decode prog_7_method_10_code 80 = .ok (.aload_n 0, 1) := by decide +kernel
theorem d_Machine_holds_81 : decode prog_7_method_10_code 81 = .ok (.getfield 48, 3) := by decide +kernel
theorem d_Machine_holds_84 : decode prog_7_method_10_code 84 = .ok (.getfield 174, 3) := by decide +kernel
theorem d_Machine_holds_87 : decode prog_7_method_10_code 87 = .ok (.tableswitch 187 0 9 #[53, 67, 75, 91, 107, 121, 135, 149, 157, 173], 53) := by decide +kernel
theorem d_Machine_holds_140 : decode prog_7_method_10_code 140 = .ok (.lload 5, 2) := by decide +kernel
theorem d_Machine_holds_142 : decode prog_7_method_10_code 142 = .ok (.lload 7, 2) := by decide +kernel
theorem d_Machine_holds_144 : decode prog_7_method_10_code 144 = .ok (.lcmp, 1) := by decide +kernel
theorem d_Machine_holds_145 : decode prog_7_method_10_code 145 = .ok (.ifCond .ne 7, 3) := by decide +kernel
theorem d_Machine_holds_152 : decode prog_7_method_10_code 152 = .ok (.iconst 0, 1) := by decide +kernel
theorem d_Machine_holds_153 : decode prog_7_method_10_code 153 = .ok (.ireturn, 1) := by decide +kernel
theorem d_Machine_holds_148 : decode prog_7_method_10_code 148 = .ok (.iconst 1, 1) := by decide +kernel
theorem d_Machine_holds_149 : decode prog_7_method_10_code 149 = .ok (.goto 4, 3) := by decide +kernel
theorem d_Machine_holds_154 : decode prog_7_method_10_code 154 = .ok (.lload 7, 2) := by decide +kernel
theorem d_Machine_holds_156 : decode prog_7_method_10_code 156 = .ok (.lload 5, 2) := by decide +kernel
theorem d_Machine_holds_158 : decode prog_7_method_10_code 158 = .ok (.invokestatic 201, 3) := by decide +kernel
theorem u_1679 : Cond.methodLink "FilterGuard$Machine" 201 ⟨"FilterGuard$Num", "isBelow", "(JJ)Z"⟩ ∈ fg_g := fg_in (List.mem_of_getElem? (i := 1679) (by decide +kernel)) rfl
theorem d_Machine_holds_161 : decode prog_7_method_10_code 161 = .ok (.ireturn, 1) := by decide +kernel
theorem d_Machine_holds_162 : decode prog_7_method_10_code 162 = .ok (.lload 5, 2) := by decide +kernel
theorem d_Machine_holds_164 : decode prog_7_method_10_code 164 = .ok (.lload 7, 2) := by decide +kernel
theorem d_Machine_holds_166 : decode prog_7_method_10_code 166 = .ok (.invokestatic 201, 3) := by decide +kernel
theorem d_Machine_holds_169 : decode prog_7_method_10_code 169 = .ok (.ifCond .ne 7, 3) := by decide +kernel
theorem d_Machine_holds_176 : decode prog_7_method_10_code 176 = .ok (.iconst 0, 1) := by decide +kernel
theorem d_Machine_holds_177 : decode prog_7_method_10_code 177 = .ok (.ireturn, 1) := by decide +kernel
theorem d_Machine_holds_172 : decode prog_7_method_10_code 172 = .ok (.iconst 1, 1) := by decide +kernel
theorem d_Machine_holds_173 : decode prog_7_method_10_code 173 = .ok (.goto 4, 3) := by decide +kernel
theorem d_Machine_holds_178 : decode prog_7_method_10_code 178 = .ok (.lload 5, 2) := by decide +kernel
theorem d_Machine_holds_180 : decode prog_7_method_10_code 180 = .ok (.lload 7, 2) := by decide +kernel
theorem d_Machine_holds_182 : decode prog_7_method_10_code 182 = .ok (.land, 1) := by decide +kernel
theorem d_Machine_holds_183 : decode prog_7_method_10_code 183 = .ok (.lconst 0, 1) := by decide +kernel
theorem d_Machine_holds_184 : decode prog_7_method_10_code 184 = .ok (.lcmp, 1) := by decide +kernel
theorem d_Machine_holds_185 : decode prog_7_method_10_code 185 = .ok (.ifCond .eq 7, 3) := by decide +kernel
theorem d_Machine_holds_192 : decode prog_7_method_10_code 192 = .ok (.iconst 0, 1) := by decide +kernel
theorem d_Machine_holds_193 : decode prog_7_method_10_code 193 = .ok (.ireturn, 1) := by decide +kernel
theorem d_Machine_holds_188 : decode prog_7_method_10_code 188 = .ok (.iconst 1, 1) := by decide +kernel
theorem d_Machine_holds_189 : decode prog_7_method_10_code 189 = .ok (.goto 4, 3) := by decide +kernel
theorem d_Machine_holds_194 : decode prog_7_method_10_code 194 = .ok (.lload 5, 2) := by decide +kernel
theorem d_Machine_holds_196 : decode prog_7_method_10_code 196 = .ok (.lload 7, 2) := by decide +kernel
theorem d_Machine_holds_198 : decode prog_7_method_10_code 198 = .ok (.lcmp, 1) := by decide +kernel
theorem d_Machine_holds_199 : decode prog_7_method_10_code 199 = .ok (.ifCond .eq 7, 3) := by decide +kernel
theorem d_Machine_holds_206 : decode prog_7_method_10_code 206 = .ok (.iconst 0, 1) := by decide +kernel
theorem d_Machine_holds_207 : decode prog_7_method_10_code 207 = .ok (.ireturn, 1) := by decide +kernel
theorem d_Machine_holds_202 : decode prog_7_method_10_code 202 = .ok (.iconst 1, 1) := by decide +kernel
theorem d_Machine_holds_203 : decode prog_7_method_10_code 203 = .ok (.goto 4, 3) := by decide +kernel
theorem d_Machine_holds_208 : decode prog_7_method_10_code 208 = .ok (.lload 9, 2) := by decide +kernel
theorem d_Machine_holds_210 : decode prog_7_method_10_code 210 = .ok (.lload 11, 2) := by decide +kernel
theorem d_Machine_holds_212 : decode prog_7_method_10_code 212 = .ok (.lcmp, 1) := by decide +kernel
theorem d_Machine_holds_213 : decode prog_7_method_10_code 213 = .ok (.ifCond .le 7, 3) := by decide +kernel
theorem d_Machine_holds_220 : decode prog_7_method_10_code 220 = .ok (.iconst 0, 1) := by decide +kernel
theorem d_Machine_holds_221 : decode prog_7_method_10_code 221 = .ok (.ireturn, 1) := by decide +kernel
theorem d_Machine_holds_216 : decode prog_7_method_10_code 216 = .ok (.iconst 1, 1) := by decide +kernel
theorem d_Machine_holds_217 : decode prog_7_method_10_code 217 = .ok (.goto 4, 3) := by decide +kernel
theorem d_Machine_holds_222 : decode prog_7_method_10_code 222 = .ok (.lload 9, 2) := by decide +kernel
theorem d_Machine_holds_224 : decode prog_7_method_10_code 224 = .ok (.lload 11, 2) := by decide +kernel
theorem d_Machine_holds_226 : decode prog_7_method_10_code 226 = .ok (.lcmp, 1) := by decide +kernel
theorem d_Machine_holds_227 : decode prog_7_method_10_code 227 = .ok (.ifCond .lt 7, 3) := by decide +kernel
theorem d_Machine_holds_234 : decode prog_7_method_10_code 234 = .ok (.iconst 0, 1) := by decide +kernel
theorem d_Machine_holds_235 : decode prog_7_method_10_code 235 = .ok (.ireturn, 1) := by decide +kernel
theorem d_Machine_holds_230 : decode prog_7_method_10_code 230 = .ok (.iconst 1, 1) := by decide +kernel
theorem d_Machine_holds_231 : decode prog_7_method_10_code 231 = .ok (.goto 4, 3) := by decide +kernel
theorem d_Machine_holds_236 : decode prog_7_method_10_code 236 = .ok (.lload 5, 2) := by decide +kernel
theorem d_Machine_holds_238 : decode prog_7_method_10_code 238 = .ok (.lload 7, 2) := by decide +kernel
theorem d_Machine_holds_240 : decode prog_7_method_10_code 240 = .ok (.invokestatic 201, 3) := by decide +kernel
theorem d_Machine_holds_243 : decode prog_7_method_10_code 243 = .ok (.ireturn, 1) := by decide +kernel
theorem d_Machine_holds_244 : decode prog_7_method_10_code 244 = .ok (.lload 7, 2) := by decide +kernel
theorem d_Machine_holds_246 : decode prog_7_method_10_code 246 = .ok (.lload 5, 2) := by decide +kernel
theorem d_Machine_holds_248 : decode prog_7_method_10_code 248 = .ok (.invokestatic 201, 3) := by decide +kernel
theorem d_Machine_holds_251 : decode prog_7_method_10_code 251 = .ok (.ifCond .ne 7, 3) := by decide +kernel
theorem d_Machine_holds_258 : decode prog_7_method_10_code 258 = .ok (.iconst 0, 1) := by decide +kernel
theorem d_Machine_holds_259 : decode prog_7_method_10_code 259 = .ok (.ireturn, 1) := by decide +kernel
theorem d_Machine_holds_254 : decode prog_7_method_10_code 254 = .ok (.iconst 1, 1) := by decide +kernel
theorem d_Machine_holds_255 : decode prog_7_method_10_code 255 = .ok (.goto 4, 3) := by decide +kernel
theorem d_Machine_holds_260 : decode prog_7_method_10_code 260 = .ok (.lload 9, 2) := by decide +kernel
theorem d_Machine_holds_262 : decode prog_7_method_10_code 262 = .ok (.lload 11, 2) := by decide +kernel
theorem d_Machine_holds_264 : decode prog_7_method_10_code 264 = .ok (.lcmp, 1) := by decide +kernel
theorem d_Machine_holds_265 : decode prog_7_method_10_code 265 = .ok (.ifCond .ge 7, 3) := by decide +kernel
theorem d_Machine_holds_272 : decode prog_7_method_10_code 272 = .ok (.iconst 0, 1) := by decide +kernel
theorem d_Machine_holds_273 : decode prog_7_method_10_code 273 = .ok (.ireturn, 1) := by decide +kernel
theorem d_Machine_holds_268 : decode prog_7_method_10_code 268 = .ok (.iconst 1, 1) := by decide +kernel
theorem d_Machine_holds_269 : decode prog_7_method_10_code 269 = .ok (.goto 4, 3) := by decide +kernel
theorem d_Machine_holds_274 : decode prog_7_method_10_code 274 = .ok (.lload 9, 2) := by decide +kernel
theorem d_Machine_holds_276 : decode prog_7_method_10_code 276 = .ok (.lload 11, 2) := by decide +kernel
theorem d_Machine_holds_278 : decode prog_7_method_10_code 278 = .ok (.lcmp, 1) := by decide +kernel
theorem d_Machine_holds_279 : decode prog_7_method_10_code 279 = .ok (.ifCond .gt 7, 3) := by decide +kernel
theorem d_Machine_holds_286 : decode prog_7_method_10_code 286 = .ok (.iconst 0, 1) := by decide +kernel
theorem d_Machine_holds_287 : decode prog_7_method_10_code 287 = .ok (.ireturn, 1) := by decide +kernel
theorem d_Machine_holds_282 : decode prog_7_method_10_code 282 = .ok (.iconst 1, 1) := by decide +kernel
theorem d_Machine_holds_283 : decode prog_7_method_10_code 283 = .ok (.goto 4, 3) := by decide +kernel
theorem d_Machine_holds_59 : decode prog_7_method_10_code 59 = .ok (.lstore 9, 2) := by decide +kernel
theorem d_Machine_holds_61 : decode prog_7_method_10_code 61 = .ok (.aload_n 0, 1) := by decide +kernel
theorem d_Machine_holds_62 : decode prog_7_method_10_code 62 = .ok (.getfield 48, 3) := by decide +kernel
theorem d_Machine_holds_65 : decode prog_7_method_10_code 65 = .ok (.getfield 177, 3) := by decide +kernel
theorem d_Machine_holds_68 : decode prog_7_method_10_code 68 = .ok (.ifCond .eq 9, 3) := by decide +kernel
theorem d_Machine_holds_77 : decode prog_7_method_10_code 77 = .ok (.lload_n 3, 1) := by decide +kernel
theorem d_Machine_holds_71 : decode prog_7_method_10_code 71 = .ok (.lload_n 3, 1) := by decide +kernel
theorem d_Machine_holds_72 : decode prog_7_method_10_code 72 = .ok (.l2i, 1) := by decide +kernel
theorem d_Machine_holds_73 : decode prog_7_method_10_code 73 = .ok (.i2l, 1) := by decide +kernel
theorem d_Machine_holds_74 : decode prog_7_method_10_code 74 = .ok (.goto 4, 3) := by decide +kernel
theorem d_Machine_holds_40 : decode prog_7_method_10_code 40 = .ok (.lstore 7, 2) := by decide +kernel
theorem d_Machine_holds_42 : decode prog_7_method_10_code 42 = .ok (.aload_n 0, 1) := by decide +kernel
theorem d_Machine_holds_43 : decode prog_7_method_10_code 43 = .ok (.getfield 48, 3) := by decide +kernel
theorem d_Machine_holds_46 : decode prog_7_method_10_code 46 = .ok (.getfield 177, 3) := by decide +kernel
theorem d_Machine_holds_49 : decode prog_7_method_10_code 49 = .ok (.ifCond .eq 9, 3) := by decide +kernel
theorem d_Machine_holds_58 : decode prog_7_method_10_code 58 = .ok (.lload_n 1, 1) := by decide +kernel
theorem d_Machine_holds_52 : decode prog_7_method_10_code 52 = .ok (.lload_n 1, 1) := by decide +kernel
theorem d_Machine_holds_53 : decode prog_7_method_10_code 53 = .ok (.l2i, 1) := by decide +kernel
theorem d_Machine_holds_54 : decode prog_7_method_10_code 54 = .ok (.i2l, 1) := by decide +kernel
theorem d_Machine_holds_55 : decode prog_7_method_10_code 55 = .ok (.goto 4, 3) := by decide +kernel
theorem d_Machine_holds_19 : decode prog_7_method_10_code 19 = .ok (.lstore 5, 2) := by decide +kernel
theorem d_Machine_holds_21 : decode prog_7_method_10_code 21 = .ok (.aload_n 0, 1) := by decide +kernel
theorem d_Machine_holds_22 : decode prog_7_method_10_code 22 = .ok (.getfield 48, 3) := by decide +kernel
theorem d_Machine_holds_25 : decode prog_7_method_10_code 25 = .ok (.getfield 177, 3) := by decide +kernel
theorem d_Machine_holds_28 : decode prog_7_method_10_code 28 = .ok (.ifCond .eq 11, 3) := by decide +kernel
theorem d_Machine_holds_39 : decode prog_7_method_10_code 39 = .ok (.lload_n 3, 1) := by decide +kernel
theorem d_Machine_holds_31 : decode prog_7_method_10_code 31 = .ok (.lload_n 3, 1) := by decide +kernel
theorem d_Machine_holds_32 : decode prog_7_method_10_code 32 = .ok (.ldc2_w 184, 3) := by decide +kernel
theorem d_Machine_holds_35 : decode prog_7_method_10_code 35 = .ok (.land, 1) := by decide +kernel
theorem d_Machine_holds_36 : decode prog_7_method_10_code 36 = .ok (.goto 4, 3) := by decide +kernel
theorem d_Machine_holds_0 : decode prog_7_method_10_code 0 = .ok (.aload_n 0, 1) := by decide +kernel
theorem d_Machine_holds_1 : decode prog_7_method_10_code 1 = .ok (.getfield 48, 3) := by decide +kernel
theorem d_Machine_holds_4 : decode prog_7_method_10_code 4 = .ok (.getfield 177, 3) := by decide +kernel
theorem d_Machine_holds_7 : decode prog_7_method_10_code 7 = .ok (.ifCond .eq 11, 3) := by decide +kernel
theorem d_Machine_holds_18 : decode prog_7_method_10_code 18 = .ok (.lload_n 1, 1) := by decide +kernel
theorem d_Machine_holds_10 : decode prog_7_method_10_code 10 = .ok (.lload_n 1, 1) := by decide +kernel
theorem d_Machine_holds_11 : decode prog_7_method_10_code 11 = .ok (.ldc2_w 184, 3) := by decide +kernel
theorem d_Machine_holds_14 : decode prog_7_method_10_code 14 = .ok (.land, 1) := by decide +kernel
theorem d_Machine_holds_15 : decode prog_7_method_10_code 15 = .ok (.goto 4, 3) := by decide +kernel
abbrev y_Machine_holds : MethodName := ⟨"FilterGuard$Machine", "holds", "(JJ)Z"⟩
def f_Machine_holds_b78 (j0 : Nat) (M : me_M) (y5 : Int64) (y7 : Int64) (y9 : Int64) (s0 : Int64) : Option (me_M × Int32) := bd (mR M 5 j0 16) (fun (j1 : Nat) => (if (mI M 2 j1 12) = 0 then (if y5 = y7 then some (M, (1 : Int32)) else some (M, (0 : Int32))) else (if (mI M 2 j1 12) = 1 then bd (f_Num_isBelow y7 y5) (fun (r7 : Int32) => some (M, r7)) else (if (mI M 2 j1 12) = 2 then bd (f_Num_isBelow y5 y7) (fun (r9 : Int32) => (if r9 = 0 then some (M, (1 : Int32)) else some (M, (0 : Int32)))) else (if (mI M 2 j1 12) = 3 then (if (y5 &&& y7) = 0 then some (M, (0 : Int32)) else some (M, (1 : Int32))) else (if (mI M 2 j1 12) = 4 then (if y5 = y7 then some (M, (0 : Int32)) else some (M, (1 : Int32))) else (if (mI M 2 j1 12) = 5 then (if s0 < y9 then some (M, (1 : Int32)) else some (M, (0 : Int32))) else (if (mI M 2 j1 12) = 6 then (if y9 < s0 then some (M, (0 : Int32)) else some (M, (1 : Int32))) else (if (mI M 2 j1 12) = 7 then bd (f_Num_isBelow y5 y7) (fun (r20 : Int32) => some (M, r20)) else (if (mI M 2 j1 12) = 8 then bd (f_Num_isBelow y7 y5) (fun (r22 : Int32) => (if r22 = 0 then some (M, (1 : Int32)) else some (M, (0 : Int32)))) else (if (mI M 2 j1 12) = 9 then (if y9 < s0 then some (M, (1 : Int32)) else some (M, (0 : Int32))) else (if s0 < y9 then some (M, (0 : Int32)) else some (M, (1 : Int32))))))))))))))
def f_Machine_holds_b59 (j0 : Nat) (x3 : Int64) (M : me_M) (y5 : Int64) (y7 : Int64) (s0 : Int64) : Option (me_M × Int32) := bd (mR M 5 j0 16) (fun (j27 : Nat) => (if (mI M 2 j27 13) = 0 then f_Machine_holds_b78 j0 M y5 y7 s0 x3 else f_Machine_holds_b78 j0 M y5 y7 s0 x3.toInt32.toInt64))
def f_Machine_holds_b40 (j0 : Nat) (x1 : Int64) (x3 : Int64) (M : me_M) (y5 : Int64) (s0 : Int64) : Option (me_M × Int32) := bd (mR M 5 j0 16) (fun (j31 : Nat) => (if (mI M 2 j31 13) = 0 then f_Machine_holds_b59 j0 x3 M y5 s0 x1 else f_Machine_holds_b59 j0 x3 M y5 s0 x1.toInt32.toInt64))
def f_Machine_holds_b19 (j0 : Nat) (x1 : Int64) (x3 : Int64) (M : me_M) (s0 : Int64) : Option (me_M × Int32) := bd (mR M 5 j0 16) (fun (j35 : Nat) => (if (mI M 2 j35 13) = 0 then f_Machine_holds_b40 j0 x1 x3 M s0 x3 else f_Machine_holds_b40 j0 x1 x3 M s0 (x3 &&& 4294967295)))
def f_Machine_holds (M0 : me_M) (j0 : Nat) (x1 : Int64) (x3 : Int64) : Option (me_M × Int32) := bd (mR M0 5 j0 16) (fun (j39 : Nat) => (if (mI M0 2 j39 13) = 0 then f_Machine_holds_b19 j0 x1 x3 M0 x1 else f_Machine_holds_b19 j0 x1 x3 M0 (x1 &&& 4294967295)))
def rm_Machine_holds : Room := { frames := 2, cells := 0, slots := 0, locals := 43 }
abbrev q_Machine_holds (D : va_G) (ad : Nat → Nat → Nat) (ca : Nat → ClassId) (N : Nat → Nat) (M0 MZ : me_M) (RZ : Int32) (A : Nat → Prop) : Array Value → Jvm.State → Outcome → Jvm.State → Prop := va_Qi (fun r (_ : Unit) => r = RZ ∧ me_wf N MZ ∧ me_kp M0 MZ ∧ (RZ = 1 ∨ RZ = 0)) (fg_B D A (fun _ => me_W ad ca MZ) (fun _ => [])) A
set_option maxHeartbeats 4000000 in
set_option maxRecDepth 100000 in
theorem c_Machine_holds (l : Launch) (D : va_G) (ad : Nat → Nat → Nat) (ca : Nat → ClassId) (N : Nat → Nat) (M0 MZ : me_M) (RZ : Int32) (j0 : Nat) (x1 : Int64) (x3 : Int64) (h : f_Machine_holds M0 j0 x1 x3 = (some (MZ, RZ))) (hwf : me_wf N M0) (hj0 : j0 < N 5) (sz : Nat) : Met l y_Machine_holds (fg_w y_Machine_holds prog_7_method_10_code 13 (some .boolean)) rm_Machine_holds (va_Pc [.ref (ad 5 j0), .long x1, .long x3] (fz_P D (me_T ca) (me_W ad ca M0) sz)) (q_Machine_holds D ad ca N M0 MZ RZ (va_A (me_W ad ca M0) sz)) rm_Machine_holds.cells rm_Machine_holds.slots (va_A (me_W ad ca M0) sz) := by
  refine fz_enter (fun A => q_Machine_holds D ad ca N M0 MZ RZ A) (by decide +kernel) (Nat.le_of_ble_eq_true rfl) ?_
  intro p e s m below meth c ls A hx hb hml hown hts hr hlocks hin hP hK hD hS hA hX hl hz
  have hl : lv_has ls 13 [(0, .ref (ad 5 j0)), (1, .long x1), (3, .long x3)] := hl
  unfold f_Machine_holds at h
  have hkp : me_kp M0 M0 := me_kp.rf
  have hkb := hkp
  have b_78 : ∀ (M : me_M) (y5 : Int64) (y7 : Int64) (y9 : Int64) (s0 : Int64) (H : Heap) (locs : List Loc) (ls : Array Slot), f_Machine_holds_b78 j0 M y5 y7 y9 s0 = (some (MZ, RZ)) → me_wf N M → me_kp M0 M → va_P D classes (me_W ad ca M) H → va_D A (me_W ad ca M) → va_S A s.heap H locs → lv_has ls 13 [(0, .ref (ad 5 j0)), (5, .long y5), (7, .long y7), (9, .long y9)] → W p l e rm_Machine_holds s m [.ref (ad 5 j0), .long x1, .long x3].toArray below meth c H locs 0 0 (MQ below (q_Machine_holds D ad ca N M0 MZ RZ A) [.ref (ad 5 j0), .long x1, .long x3].toArray s rm_Machine_holds.cells rm_Machine_holds.slots A) (F0 m 78 ls [.long s0]) := by
    intro M y5 y7 y9 s0 H locs ls h hwf hkp hP hD hS hl
    unfold f_Machine_holds_b78 at h
    have hkb := hkp
    refine lv_lstore (lv' := [(11, .long s0), (0, .ref (ad 5 j0)), (5, .long y5), (7, .long y7), (9, .long y9)]) hx hb d_Machine_holds_78 hl (by decide) rfl (fun ls hl => ?_)
    refine lv_aload_n hx hb d_Machine_holds_80 rfl (lv_at hl 1 rfl) ?_
    refine g_Machine_16 hx hb hts hown hK hP hwf hj0 (hts _ u_648) d_Machine_holds_81 ?_
    obtain ⟨j1, e2, h⟩ := bd_ob h
    have hj1 : j1 < N 2 := (hwf.2.1 5 j0 16 _ e2 (by decide) hj0)
    refine me_opt (j := j1) e2 ?_
    refine g_Code_12 hx hb hts hown hK hP hwf hj1 (hts _ u_264) d_Machine_holds_84 ?_
    refine lv_topi (fun w3 ew3 => ?_)
    by_cases n4 : w3 = 0
    · have h := if_t (ew3.symm.trans n4) h
      subst n4
      refine lv_tableIn (off := 53) (tgt := 140) hx hb d_Machine_holds_87 (by decide) (by decide) (by decide) (by decide) ?_
      refine lv_lload hx hb d_Machine_holds_140 (lv_at hl 2 rfl) ?_
      refine lv_lload hx hb d_Machine_holds_142 (lv_at hl 3 rfl) ?_
      refine W.lcmp hx hb d_Machine_holds_144 ?_
      refine lv_if_ne (tgt := 152) hx hb d_Machine_holds_145 (by decide) (fun c5 => ?_) (fun c5 => ?_)
      · have h := if_f (fun z => c5 ((lg_cmp_eq _ _).mpr z)) h
        refine lv_iconst (v := 0) hx hb d_Machine_holds_152 (by decide) ?_
        exact me_retz (me_kp M0) h (by decide) hx hb hr hlocks hwf hkp hP hK hD hS d_Machine_holds_153
      have h := if_t ((lg_cmp_eq _ _).mp c5) h
      refine lv_iconst (v := 1) hx hb d_Machine_holds_148 (by decide) ?_
      refine lv_goto (tgt := 153) hx hb d_Machine_holds_149 (by decide) ?_
      exact me_retz (me_kp M0) h (by decide) hx hb hr hlocks hwf hkp hP hK hD hS d_Machine_holds_153
    have h := if_f (fun z => n4 (ew3.trans z)) h
    by_cases n6 : w3 = 1
    · have h := if_t (ew3.symm.trans n6) h
      subst n6
      refine lv_tableIn (off := 67) (tgt := 154) hx hb d_Machine_holds_87 (by decide) (by decide) (by decide) (by decide) ?_
      refine lv_lload hx hb d_Machine_holds_154 (lv_at hl 3 rfl) ?_
      refine lv_lload hx hb d_Machine_holds_156 (lv_at hl 2 rfl) ?_
      obtain ⟨r7, er7, h⟩ := bd_ob h
      refine me_pani' (r0 := r7) (fg_runS (wc := []) (tc := []) (A2 := A) (As := [.long y7, .long y5]) (rest := []) ⟨hx, hb, hml, hown, hts⟩ (c_Num_isBelow l D r7 y7 y5 er7 _) (by show fg_nm y_Num_isBelow 2; decide +kernel) u_1679 u_1063 u_187 u_1064 ⟨Nat.le_of_ble_eq_true rfl, Nat.le_of_ble_eq_true rfl⟩ hX me_P0 (hK.sub (tys' := []) [] rfl) me_D0 rfl hl.1 (Nat.le_of_ble_eq_true rfl) d_Machine_holds_158 ⟨Nat.le_of_ble_eq_true rfl, Nat.le_of_ble_eq_true rfl⟩) hP hD hK hS hA rfl rfl (fun H locs hw hP hD hS => ?_)
      have zr7 := hw
      exact me_retz (me_kp M0) h zr7 hx hb hr hlocks hwf hkp hP hK hD hS d_Machine_holds_161
    have h := if_f (fun z => n6 (ew3.trans z)) h
    by_cases n8 : w3 = 2
    · have h := if_t (ew3.symm.trans n8) h
      subst n8
      refine lv_tableIn (off := 75) (tgt := 162) hx hb d_Machine_holds_87 (by decide) (by decide) (by decide) (by decide) ?_
      refine lv_lload hx hb d_Machine_holds_162 (lv_at hl 2 rfl) ?_
      refine lv_lload hx hb d_Machine_holds_164 (lv_at hl 3 rfl) ?_
      obtain ⟨r9, er9, h⟩ := bd_ob h
      refine me_pani' (r0 := r9) (fg_runS (wc := []) (tc := []) (A2 := A) (As := [.long y5, .long y7]) (rest := []) ⟨hx, hb, hml, hown, hts⟩ (c_Num_isBelow l D r9 y5 y7 er9 _) (by show fg_nm y_Num_isBelow 2; decide +kernel) u_1679 u_1063 u_187 u_1064 ⟨Nat.le_of_ble_eq_true rfl, Nat.le_of_ble_eq_true rfl⟩ hX me_P0 (hK.sub (tys' := []) [] rfl) me_D0 rfl hl.1 (Nat.le_of_ble_eq_true rfl) d_Machine_holds_166 ⟨Nat.le_of_ble_eq_true rfl, Nat.le_of_ble_eq_true rfl⟩) hP hD hK hS hA rfl rfl (fun H locs hw hP hD hS => ?_)
      have zr9 := hw
      refine lv_if_ne (tgt := 176) hx hb d_Machine_holds_169 (by decide) (fun c10 => ?_) (fun c10 => ?_)
      · have h := if_f c10 h
        refine lv_iconst (v := 0) hx hb d_Machine_holds_176 (by decide) ?_
        exact me_retz (me_kp M0) h (by decide) hx hb hr hlocks hwf hkp hP hK hD hS d_Machine_holds_177
      have h := if_t c10 h
      refine lv_iconst (v := 1) hx hb d_Machine_holds_172 (by decide) ?_
      refine lv_goto (tgt := 177) hx hb d_Machine_holds_173 (by decide) ?_
      exact me_retz (me_kp M0) h (by decide) hx hb hr hlocks hwf hkp hP hK hD hS d_Machine_holds_177
    have h := if_f (fun z => n8 (ew3.trans z)) h
    by_cases n11 : w3 = 3
    · have h := if_t (ew3.symm.trans n11) h
      subst n11
      refine lv_tableIn (off := 91) (tgt := 178) hx hb d_Machine_holds_87 (by decide) (by decide) (by decide) (by decide) ?_
      refine lv_lload hx hb d_Machine_holds_178 (lv_at hl 2 rfl) ?_
      refine lv_lload hx hb d_Machine_holds_180 (lv_at hl 3 rfl) ?_
      refine lv_land hx hb d_Machine_holds_182 ?_
      refine lv_lconst (v := 0) hx hb d_Machine_holds_183 (by decide) ?_
      refine W.lcmp hx hb d_Machine_holds_184 ?_
      refine lv_if_eq (tgt := 192) hx hb d_Machine_holds_185 (by decide) (fun c12 => ?_) (fun c12 => ?_)
      · have h := if_t ((lg_cmp_eq _ _).mp c12) h
        refine lv_iconst (v := 0) hx hb d_Machine_holds_192 (by decide) ?_
        exact me_retz (me_kp M0) h (by decide) hx hb hr hlocks hwf hkp hP hK hD hS d_Machine_holds_193
      have h := if_f (fun z => c12 ((lg_cmp_eq _ _).mpr z)) h
      refine lv_iconst (v := 1) hx hb d_Machine_holds_188 (by decide) ?_
      refine lv_goto (tgt := 193) hx hb d_Machine_holds_189 (by decide) ?_
      exact me_retz (me_kp M0) h (by decide) hx hb hr hlocks hwf hkp hP hK hD hS d_Machine_holds_193
    have h := if_f (fun z => n11 (ew3.trans z)) h
    by_cases n13 : w3 = 4
    · have h := if_t (ew3.symm.trans n13) h
      subst n13
      refine lv_tableIn (off := 107) (tgt := 194) hx hb d_Machine_holds_87 (by decide) (by decide) (by decide) (by decide) ?_
      refine lv_lload hx hb d_Machine_holds_194 (lv_at hl 2 rfl) ?_
      refine lv_lload hx hb d_Machine_holds_196 (lv_at hl 3 rfl) ?_
      refine W.lcmp hx hb d_Machine_holds_198 ?_
      refine lv_if_eq (tgt := 206) hx hb d_Machine_holds_199 (by decide) (fun c14 => ?_) (fun c14 => ?_)
      · have h := if_t ((lg_cmp_eq _ _).mp c14) h
        refine lv_iconst (v := 0) hx hb d_Machine_holds_206 (by decide) ?_
        exact me_retz (me_kp M0) h (by decide) hx hb hr hlocks hwf hkp hP hK hD hS d_Machine_holds_207
      have h := if_f (fun z => c14 ((lg_cmp_eq _ _).mpr z)) h
      refine lv_iconst (v := 1) hx hb d_Machine_holds_202 (by decide) ?_
      refine lv_goto (tgt := 207) hx hb d_Machine_holds_203 (by decide) ?_
      exact me_retz (me_kp M0) h (by decide) hx hb hr hlocks hwf hkp hP hK hD hS d_Machine_holds_207
    have h := if_f (fun z => n13 (ew3.trans z)) h
    by_cases n15 : w3 = 5
    · have h := if_t (ew3.symm.trans n15) h
      subst n15
      refine lv_tableIn (off := 121) (tgt := 208) hx hb d_Machine_holds_87 (by decide) (by decide) (by decide) (by decide) ?_
      refine lv_lload hx hb d_Machine_holds_208 (lv_at hl 4 rfl) ?_
      refine lv_lload hx hb d_Machine_holds_210 (lv_at hl 0 rfl) ?_
      refine W.lcmp hx hb d_Machine_holds_212 ?_
      refine lv_if_le (tgt := 220) hx hb d_Machine_holds_213 (by decide) (fun c16 => ?_) (fun c16 => ?_)
      · have h := if_f (Int64.not_lt.mpr ((lg_cmp_le _ _).mp c16)) h
        refine lv_iconst (v := 0) hx hb d_Machine_holds_220 (by decide) ?_
        exact me_retz (me_kp M0) h (by decide) hx hb hr hlocks hwf hkp hP hK hD hS d_Machine_holds_221
      have h := if_t (Int64.not_le.mp (fun z => c16 ((lg_cmp_le _ _).mpr z))) h
      refine lv_iconst (v := 1) hx hb d_Machine_holds_216 (by decide) ?_
      refine lv_goto (tgt := 221) hx hb d_Machine_holds_217 (by decide) ?_
      exact me_retz (me_kp M0) h (by decide) hx hb hr hlocks hwf hkp hP hK hD hS d_Machine_holds_221
    have h := if_f (fun z => n15 (ew3.trans z)) h
    by_cases n17 : w3 = 6
    · have h := if_t (ew3.symm.trans n17) h
      subst n17
      refine lv_tableIn (off := 135) (tgt := 222) hx hb d_Machine_holds_87 (by decide) (by decide) (by decide) (by decide) ?_
      refine lv_lload hx hb d_Machine_holds_222 (lv_at hl 4 rfl) ?_
      refine lv_lload hx hb d_Machine_holds_224 (lv_at hl 0 rfl) ?_
      refine W.lcmp hx hb d_Machine_holds_226 ?_
      refine lv_if_lt (tgt := 234) hx hb d_Machine_holds_227 (by decide) (fun c18 => ?_) (fun c18 => ?_)
      · have h := if_t ((lg_cmp_lt _ _).mp c18) h
        refine lv_iconst (v := 0) hx hb d_Machine_holds_234 (by decide) ?_
        exact me_retz (me_kp M0) h (by decide) hx hb hr hlocks hwf hkp hP hK hD hS d_Machine_holds_235
      have h := if_f (fun z => c18 ((lg_cmp_lt _ _).mpr z)) h
      refine lv_iconst (v := 1) hx hb d_Machine_holds_230 (by decide) ?_
      refine lv_goto (tgt := 235) hx hb d_Machine_holds_231 (by decide) ?_
      exact me_retz (me_kp M0) h (by decide) hx hb hr hlocks hwf hkp hP hK hD hS d_Machine_holds_235
    have h := if_f (fun z => n17 (ew3.trans z)) h
    by_cases n19 : w3 = 7
    · have h := if_t (ew3.symm.trans n19) h
      subst n19
      refine lv_tableIn (off := 149) (tgt := 236) hx hb d_Machine_holds_87 (by decide) (by decide) (by decide) (by decide) ?_
      refine lv_lload hx hb d_Machine_holds_236 (lv_at hl 2 rfl) ?_
      refine lv_lload hx hb d_Machine_holds_238 (lv_at hl 3 rfl) ?_
      obtain ⟨r20, er20, h⟩ := bd_ob h
      refine me_pani' (r0 := r20) (fg_runS (wc := []) (tc := []) (A2 := A) (As := [.long y5, .long y7]) (rest := []) ⟨hx, hb, hml, hown, hts⟩ (c_Num_isBelow l D r20 y5 y7 er20 _) (by show fg_nm y_Num_isBelow 2; decide +kernel) u_1679 u_1063 u_187 u_1064 ⟨Nat.le_of_ble_eq_true rfl, Nat.le_of_ble_eq_true rfl⟩ hX me_P0 (hK.sub (tys' := []) [] rfl) me_D0 rfl hl.1 (Nat.le_of_ble_eq_true rfl) d_Machine_holds_240 ⟨Nat.le_of_ble_eq_true rfl, Nat.le_of_ble_eq_true rfl⟩) hP hD hK hS hA rfl rfl (fun H locs hw hP hD hS => ?_)
      have zr20 := hw
      exact me_retz (me_kp M0) h zr20 hx hb hr hlocks hwf hkp hP hK hD hS d_Machine_holds_243
    have h := if_f (fun z => n19 (ew3.trans z)) h
    by_cases n21 : w3 = 8
    · have h := if_t (ew3.symm.trans n21) h
      subst n21
      refine lv_tableIn (off := 157) (tgt := 244) hx hb d_Machine_holds_87 (by decide) (by decide) (by decide) (by decide) ?_
      refine lv_lload hx hb d_Machine_holds_244 (lv_at hl 3 rfl) ?_
      refine lv_lload hx hb d_Machine_holds_246 (lv_at hl 2 rfl) ?_
      obtain ⟨r22, er22, h⟩ := bd_ob h
      refine me_pani' (r0 := r22) (fg_runS (wc := []) (tc := []) (A2 := A) (As := [.long y7, .long y5]) (rest := []) ⟨hx, hb, hml, hown, hts⟩ (c_Num_isBelow l D r22 y7 y5 er22 _) (by show fg_nm y_Num_isBelow 2; decide +kernel) u_1679 u_1063 u_187 u_1064 ⟨Nat.le_of_ble_eq_true rfl, Nat.le_of_ble_eq_true rfl⟩ hX me_P0 (hK.sub (tys' := []) [] rfl) me_D0 rfl hl.1 (Nat.le_of_ble_eq_true rfl) d_Machine_holds_248 ⟨Nat.le_of_ble_eq_true rfl, Nat.le_of_ble_eq_true rfl⟩) hP hD hK hS hA rfl rfl (fun H locs hw hP hD hS => ?_)
      have zr22 := hw
      refine lv_if_ne (tgt := 258) hx hb d_Machine_holds_251 (by decide) (fun c23 => ?_) (fun c23 => ?_)
      · have h := if_f c23 h
        refine lv_iconst (v := 0) hx hb d_Machine_holds_258 (by decide) ?_
        exact me_retz (me_kp M0) h (by decide) hx hb hr hlocks hwf hkp hP hK hD hS d_Machine_holds_259
      have h := if_t c23 h
      refine lv_iconst (v := 1) hx hb d_Machine_holds_254 (by decide) ?_
      refine lv_goto (tgt := 259) hx hb d_Machine_holds_255 (by decide) ?_
      exact me_retz (me_kp M0) h (by decide) hx hb hr hlocks hwf hkp hP hK hD hS d_Machine_holds_259
    have h := if_f (fun z => n21 (ew3.trans z)) h
    by_cases n24 : w3 = 9
    · have h := if_t (ew3.symm.trans n24) h
      subst n24
      refine lv_tableIn (off := 173) (tgt := 260) hx hb d_Machine_holds_87 (by decide) (by decide) (by decide) (by decide) ?_
      refine lv_lload hx hb d_Machine_holds_260 (lv_at hl 4 rfl) ?_
      refine lv_lload hx hb d_Machine_holds_262 (lv_at hl 0 rfl) ?_
      refine W.lcmp hx hb d_Machine_holds_264 ?_
      refine lv_if_ge (tgt := 272) hx hb d_Machine_holds_265 (by decide) (fun c25 => ?_) (fun c25 => ?_)
      · have h := if_f (Int64.not_lt.mpr ((lg_cmp_ge _ _).mp c25)) h
        refine lv_iconst (v := 0) hx hb d_Machine_holds_272 (by decide) ?_
        exact me_retz (me_kp M0) h (by decide) hx hb hr hlocks hwf hkp hP hK hD hS d_Machine_holds_273
      have h := if_t (Int64.not_le.mp (fun z => c25 ((lg_cmp_ge _ _).mpr z))) h
      refine lv_iconst (v := 1) hx hb d_Machine_holds_268 (by decide) ?_
      refine lv_goto (tgt := 273) hx hb d_Machine_holds_269 (by decide) ?_
      exact me_retz (me_kp M0) h (by decide) hx hb hr hlocks hwf hkp hP hK hD hS d_Machine_holds_273
    have h := if_f (fun z => n24 (ew3.trans z)) h
    have in4 := lv_neT n4 (show (0 : Int32).toInt = 0 from rfl)
    have in6 := lv_neT n6 (show (1 : Int32).toInt = 1 from rfl)
    have in8 := lv_neT n8 (show (2 : Int32).toInt = 2 from rfl)
    have in11 := lv_neT n11 (show (3 : Int32).toInt = 3 from rfl)
    have in13 := lv_neT n13 (show (4 : Int32).toInt = 4 from rfl)
    have in15 := lv_neT n15 (show (5 : Int32).toInt = 5 from rfl)
    have in17 := lv_neT n17 (show (6 : Int32).toInt = 6 from rfl)
    have in19 := lv_neT n19 (show (7 : Int32).toInt = 7 from rfl)
    have in21 := lv_neT n21 (show (8 : Int32).toInt = 8 from rfl)
    have in24 := lv_neT n24 (show (9 : Int32).toInt = 9 from rfl)
    refine lv_tableOut (tgt := 274) hx hb d_Machine_holds_87 (by omega) (by decide) ?_
    refine lv_lload hx hb d_Machine_holds_274 (lv_at hl 4 rfl) ?_
    refine lv_lload hx hb d_Machine_holds_276 (lv_at hl 0 rfl) ?_
    refine W.lcmp hx hb d_Machine_holds_278 ?_
    refine lv_if_gt (tgt := 286) hx hb d_Machine_holds_279 (by decide) (fun c26 => ?_) (fun c26 => ?_)
    · have h := if_t ((lg_cmp_gt _ _).mp c26) h
      refine lv_iconst (v := 0) hx hb d_Machine_holds_286 (by decide) ?_
      exact me_retz (me_kp M0) h (by decide) hx hb hr hlocks hwf hkp hP hK hD hS d_Machine_holds_287
    have h := if_f (fun z => c26 ((lg_cmp_gt _ _).mpr z)) h
    refine lv_iconst (v := 1) hx hb d_Machine_holds_282 (by decide) ?_
    refine lv_goto (tgt := 287) hx hb d_Machine_holds_283 (by decide) ?_
    exact me_retz (me_kp M0) h (by decide) hx hb hr hlocks hwf hkp hP hK hD hS d_Machine_holds_287
  have b_59 : ∀ (M : me_M) (y5 : Int64) (y7 : Int64) (s0 : Int64) (H : Heap) (locs : List Loc) (ls : Array Slot), f_Machine_holds_b59 j0 x3 M y5 y7 s0 = (some (MZ, RZ)) → me_wf N M → me_kp M0 M → va_P D classes (me_W ad ca M) H → va_D A (me_W ad ca M) → va_S A s.heap H locs → lv_has ls 13 [(0, .ref (ad 5 j0)), (3, .long x3), (5, .long y5), (7, .long y7)] → W p l e rm_Machine_holds s m [.ref (ad 5 j0), .long x1, .long x3].toArray below meth c H locs 0 0 (MQ below (q_Machine_holds D ad ca N M0 MZ RZ A) [.ref (ad 5 j0), .long x1, .long x3].toArray s rm_Machine_holds.cells rm_Machine_holds.slots A) (F0 m 59 ls [.long s0]) := by
    intro M y5 y7 s0 H locs ls h hwf hkp hP hD hS hl
    unfold f_Machine_holds_b59 at h
    have hkb := hkp
    refine lv_lstore (lv' := [(9, .long s0), (0, .ref (ad 5 j0)), (3, .long x3), (5, .long y5), (7, .long y7)]) hx hb d_Machine_holds_59 hl (by decide) rfl (fun ls hl => ?_)
    refine lv_aload_n hx hb d_Machine_holds_61 rfl (lv_at hl 1 rfl) ?_
    refine g_Machine_16 hx hb hts hown hK hP hwf hj0 (hts _ u_648) d_Machine_holds_62 ?_
    obtain ⟨j27, e28, h⟩ := bd_ob h
    have hj27 : j27 < N 2 := (hwf.2.1 5 j0 16 _ e28 (by decide) hj0)
    refine me_opt (j := j27) e28 ?_
    refine g_Code_13 hx hb hts hown hK hP hwf hj27 (hts _ u_268) d_Machine_holds_65 ?_
    have z29 := (hwf.2.2.2 2 j27 13 rfl)
    refine lv_if_eq (tgt := 77) hx hb d_Machine_holds_68 (by decide) (fun c30 => ?_) (fun c30 => ?_)
    · have h := if_t c30 h
      refine lv_lload_n hx hb d_Machine_holds_77 rfl (lv_at hl 2 rfl) ?_
      exact b_78 M y5 y7 s0 x3 _ _ _ h hwf hkp hP hD hS (lv_sub hl [1, 3, 4, 0] rfl)
    have h := if_f c30 h
    refine lv_lload_n hx hb d_Machine_holds_71 rfl (lv_at hl 2 rfl) ?_
    refine lv_l2i (v := x3.toInt32) hx hb d_Machine_holds_72 rfl ?_
    refine lv_i2l (v := x3.toInt32.toInt64) hx hb d_Machine_holds_73 rfl ?_
    refine lv_goto (tgt := 78) hx hb d_Machine_holds_74 (by decide) ?_
    exact b_78 M y5 y7 s0 x3.toInt32.toInt64 _ _ _ h hwf hkp hP hD hS (lv_sub hl [1, 3, 4, 0] rfl)
  have b_40 : ∀ (M : me_M) (y5 : Int64) (s0 : Int64) (H : Heap) (locs : List Loc) (ls : Array Slot), f_Machine_holds_b40 j0 x1 x3 M y5 s0 = (some (MZ, RZ)) → me_wf N M → me_kp M0 M → va_P D classes (me_W ad ca M) H → va_D A (me_W ad ca M) → va_S A s.heap H locs → lv_has ls 13 [(0, .ref (ad 5 j0)), (1, .long x1), (3, .long x3), (5, .long y5)] → W p l e rm_Machine_holds s m [.ref (ad 5 j0), .long x1, .long x3].toArray below meth c H locs 0 0 (MQ below (q_Machine_holds D ad ca N M0 MZ RZ A) [.ref (ad 5 j0), .long x1, .long x3].toArray s rm_Machine_holds.cells rm_Machine_holds.slots A) (F0 m 40 ls [.long s0]) := by
    intro M y5 s0 H locs ls h hwf hkp hP hD hS hl
    unfold f_Machine_holds_b40 at h
    have hkb := hkp
    refine lv_lstore (lv' := [(7, .long s0), (0, .ref (ad 5 j0)), (1, .long x1), (3, .long x3), (5, .long y5)]) hx hb d_Machine_holds_40 hl (by decide) rfl (fun ls hl => ?_)
    refine lv_aload_n hx hb d_Machine_holds_42 rfl (lv_at hl 1 rfl) ?_
    refine g_Machine_16 hx hb hts hown hK hP hwf hj0 (hts _ u_648) d_Machine_holds_43 ?_
    obtain ⟨j31, e32, h⟩ := bd_ob h
    have hj31 : j31 < N 2 := (hwf.2.1 5 j0 16 _ e32 (by decide) hj0)
    refine me_opt (j := j31) e32 ?_
    refine g_Code_13 hx hb hts hown hK hP hwf hj31 (hts _ u_268) d_Machine_holds_46 ?_
    have z33 := (hwf.2.2.2 2 j31 13 rfl)
    refine lv_if_eq (tgt := 58) hx hb d_Machine_holds_49 (by decide) (fun c34 => ?_) (fun c34 => ?_)
    · have h := if_t c34 h
      refine lv_lload_n hx hb d_Machine_holds_58 rfl (lv_at hl 2 rfl) ?_
      exact b_59 M y5 s0 x1 _ _ _ h hwf hkp hP hD hS (lv_sub hl [1, 3, 4, 0] rfl)
    have h := if_f c34 h
    refine lv_lload_n hx hb d_Machine_holds_52 rfl (lv_at hl 2 rfl) ?_
    refine lv_l2i (v := x1.toInt32) hx hb d_Machine_holds_53 rfl ?_
    refine lv_i2l (v := x1.toInt32.toInt64) hx hb d_Machine_holds_54 rfl ?_
    refine lv_goto (tgt := 59) hx hb d_Machine_holds_55 (by decide) ?_
    exact b_59 M y5 s0 x1.toInt32.toInt64 _ _ _ h hwf hkp hP hD hS (lv_sub hl [1, 3, 4, 0] rfl)
  have b_19 : ∀ (M : me_M) (s0 : Int64) (H : Heap) (locs : List Loc) (ls : Array Slot), f_Machine_holds_b19 j0 x1 x3 M s0 = (some (MZ, RZ)) → me_wf N M → me_kp M0 M → va_P D classes (me_W ad ca M) H → va_D A (me_W ad ca M) → va_S A s.heap H locs → lv_has ls 13 [(0, .ref (ad 5 j0)), (1, .long x1), (3, .long x3)] → W p l e rm_Machine_holds s m [.ref (ad 5 j0), .long x1, .long x3].toArray below meth c H locs 0 0 (MQ below (q_Machine_holds D ad ca N M0 MZ RZ A) [.ref (ad 5 j0), .long x1, .long x3].toArray s rm_Machine_holds.cells rm_Machine_holds.slots A) (F0 m 19 ls [.long s0]) := by
    intro M s0 H locs ls h hwf hkp hP hD hS hl
    unfold f_Machine_holds_b19 at h
    have hkb := hkp
    refine lv_lstore (lv' := [(5, .long s0), (0, .ref (ad 5 j0)), (1, .long x1), (3, .long x3)]) hx hb d_Machine_holds_19 hl (by decide) rfl (fun ls hl => ?_)
    refine lv_aload_n hx hb d_Machine_holds_21 rfl (lv_at hl 1 rfl) ?_
    refine g_Machine_16 hx hb hts hown hK hP hwf hj0 (hts _ u_648) d_Machine_holds_22 ?_
    obtain ⟨j35, e36, h⟩ := bd_ob h
    have hj35 : j35 < N 2 := (hwf.2.1 5 j0 16 _ e36 (by decide) hj0)
    refine me_opt (j := j35) e36 ?_
    refine g_Code_13 hx hb hts hown hK hP hwf hj35 (hts _ u_268) d_Machine_holds_25 ?_
    have z37 := (hwf.2.2.2 2 j35 13 rfl)
    refine lv_if_eq (tgt := 39) hx hb d_Machine_holds_28 (by decide) (fun c38 => ?_) (fun c38 => ?_)
    · have h := if_t c38 h
      refine lv_lload_n hx hb d_Machine_holds_39 rfl (lv_at hl 3 rfl) ?_
      exact b_40 M s0 x3 _ _ _ h hwf hkp hP hD hS (lv_sub hl [1, 2, 3, 0] rfl)
    have h := if_f c38 h
    refine lv_lload_n hx hb d_Machine_holds_31 rfl (lv_at hl 3 rfl) ?_
    refine lv_ldc2 hx hb hown (hts _ u_1672) d_Machine_holds_32 ?_
    refine lv_land hx hb d_Machine_holds_35 ?_
    refine lv_goto (tgt := 40) hx hb d_Machine_holds_36 (by decide) ?_
    exact b_40 M s0 (x3 &&& 4294967295) _ _ _ h hwf hkp hP hD hS (lv_sub hl [1, 2, 3, 0] rfl)
  refine lv_aload_n hx hb d_Machine_holds_0 rfl (lv_at hl 0 rfl) ?_
  refine g_Machine_16 hx hb hts hown hK hP hwf hj0 (hts _ u_648) d_Machine_holds_1 ?_
  obtain ⟨j39, e40, h⟩ := bd_ob h
  have hj39 : j39 < N 2 := (hwf.2.1 5 j0 16 _ e40 (by decide) hj0)
  refine me_opt (j := j39) e40 ?_
  refine g_Code_13 hx hb hts hown hK hP hwf hj39 (hts _ u_268) d_Machine_holds_4 ?_
  have z41 := (hwf.2.2.2 2 j39 13 rfl)
  refine lv_if_eq (tgt := 18) hx hb d_Machine_holds_7 (by decide) (fun c42 => ?_) (fun c42 => ?_)
  · have h := if_t c42 h
    refine lv_lload_n hx hb d_Machine_holds_18 rfl (lv_at hl 1 rfl) ?_
    exact b_19 M0 x1 _ _ _ h hwf hkp hP hD hS (lv_sub hl [0, 1, 2] rfl)
  have h := if_f c42 h
  refine lv_lload_n hx hb d_Machine_holds_10 rfl (lv_at hl 1 rfl) ?_
  refine lv_ldc2 hx hb hown (hts _ u_1672) d_Machine_holds_11 ?_
  refine lv_land hx hb d_Machine_holds_14 ?_
  refine lv_goto (tgt := 19) hx hb d_Machine_holds_15 (by decide) ?_
  exact b_19 M0 (x1 &&& 4294967295) _ _ _ h hwf hkp hP hD hS (lv_sub hl [0, 1, 2] rfl)
