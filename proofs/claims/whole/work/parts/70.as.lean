theorem d_Steps_shift_119 : decode prog_11_method_7_code 119 = .ok (.istore 4, 2) := by decide +kernel
theorem d_Steps_shift_121 : decode prog_11_method_7_code 121 = .ok (.iload_n 3, 1) := by decide +kernel
theorem d_Steps_shift_122 : decode prog_11_method_7_code 122 = .ok (.ifCond .ne 18, 3) := by decide +kernel
theorem d_Steps_shift_140 : decode prog_11_method_7_code 140 = .ok (.bipush 11, 2) := by decide +kernel
theorem d_Steps_shift_142 : decode prog_11_method_7_code 142 = .ok (.ireturn, 1) := by decide +kernel
theorem d_Steps_shift_125 : decode prog_11_method_7_code 125 = .ok (.iload 4, 2) := by decide +kernel
theorem d_Steps_shift_127 : decode prog_11_method_7_code 127 = .ok (.ifCond .ne 13, 3) := by decide +kernel
theorem d_Steps_shift_130 : decode prog_11_method_7_code 130 = .ok (.aload_n 2, 1) := by decide +kernel
theorem d_Steps_shift_131 : decode prog_11_method_7_code 131 = .ok (.ldc2_w 176, 3) := by decide +kernel
theorem u_1252 : Cond.constantLong "FilterGuard$Steps" 176 65535 ∈ fg_g := fg_in (List.mem_of_getElem? (i := 1252) (by decide +kernel)) rfl
theorem d_Steps_shift_134 : decode prog_11_method_7_code 134 = .ok (.invokevirtual 183, 3) := by decide +kernel
theorem u_1255 : Cond.methodLink "FilterGuard$Steps" 183 ⟨"FilterGuard$Num", "isAbove", "(J)Z"⟩ ∈ fg_g := fg_in (List.mem_of_getElem? (i := 1255) (by decide +kernel)) rfl
theorem d_Steps_shift_137 : decode prog_11_method_7_code 137 = .ok (.ifCond .eq 6, 3) := by decide +kernel
theorem d_Steps_shift_143 : decode prog_11_method_7_code 143 = .ok (.aload_n 0, 1) := by decide +kernel
theorem d_Steps_shift_144 : decode prog_11_method_7_code 144 = .ok (.getfield 12, 3) := by decide +kernel
theorem g_Steps_2 {p : Program} {l : Launch} {e : Env} {R : Room} {s : Jvm.State} {m : MethodId} {args : Array Value} {below : List Frame} {meth : Method} {c : Code} {H : Heap} {locs : List Loc} {cells slots : Nat} {Q : Jvm.State → Prop} {cc : ByteArray} {pc : Nat} {ls : Array Slot} {rest : List Value} {D : va_G} {ad : Nat → Nat → Nat} {ca : Nat → ClassId} {M : me_M} {N : Nat → Nat} {own : String} {index j : Nat} (hexec : p.tables.exec = Jvm.exec) (hb : c.code = cc) (hts : ∀ w ∈ fg_g, w.before args s = true) (hown : s.vm.findClass own = some m.cls) (hK : va_K D classes (me_T ca) s) (hP : va_P D classes (me_W ad ca M) H) (hwf : me_wf N M) (hj : j < N 7) (hlink : (Cond.fieldLink own index "FilterGuard$Steps" "reckoner" "LFilterGuard$Reckoner;").before args s = true) (hdg : decode cc pc = .ok (.getfield index, 3)) (kk : W p l e R s m args below meth c H locs cells slots Q (F0 m (pc + 3) ls (va_rf ((mR M 7 j 2).map (ad 8)) :: rest))) : W p l e R s m args below meth c H locs cells slots Q (F0 m pc ls (.ref (ad 7 j) :: rest)) := me_get (k := 7) (f := 2) (C := "FilterGuard$Steps") (T := F_Steps) (Nf := 19) hexec hb hts i_Steps hown hK hP hwf hj (by decide) rfl (by decide) (by decide) hlink (fun _ h9 => h9) hdg kk
theorem d_Steps_shift_147 : decode prog_11_method_7_code 147 = .ok (.iconst 0, 1) := by decide +kernel
theorem d_Steps_shift_148 : decode prog_11_method_7_code 148 = .ok (.aload_n 1, 1) := by decide +kernel
theorem d_Steps_shift_149 : decode prog_11_method_7_code 149 = .ok (.getfield 143, 3) := by decide +kernel
theorem u_437 : Cond.fieldLink "FilterGuard$Steps" 143 "FilterGuard$Cell" "number" "LFilterGuard$Num;" ∈ fg_g := fg_in (List.mem_of_getElem? (i := 437) (by decide +kernel)) rfl
theorem d_Steps_shift_152 : decode prog_11_method_7_code 152 = .ok (.aload_n 2, 1) := by decide +kernel
theorem d_Steps_shift_153 : decode prog_11_method_7_code 153 = .ok (.aload_n 1, 1) := by decide +kernel
theorem d_Steps_shift_154 : decode prog_11_method_7_code 154 = .ok (.getfield 143, 3) := by decide +kernel
theorem d_Steps_shift_157 : decode prog_11_method_7_code 157 = .ok (.invokevirtual 187, 3) := by decide +kernel
theorem u_1256 : Cond.methodLink "FilterGuard$Steps" 187 ⟨"FilterGuard$Reckoner", "operateWide", "(ILFilterGuard$Num;LFilterGuard$Num;LFilterGuard$Num;)V"⟩ ∈ fg_g := fg_in (List.mem_of_getElem? (i := 1256) (by decide +kernel)) rfl
theorem d_Steps_shift_160 : decode prog_11_method_7_code 160 = .ok (.aload_n 1, 1) := by decide +kernel
theorem d_Steps_shift_161 : decode prog_11_method_7_code 161 = .ok (.getfield 143, 3) := by decide +kernel
theorem d_Steps_shift_164 : decode prog_11_method_7_code 164 = .ok (.ldc2_w 176, 3) := by decide +kernel
theorem d_Steps_shift_167 : decode prog_11_method_7_code 167 = .ok (.invokevirtual 183, 3) := by decide +kernel
theorem d_Steps_shift_170 : decode prog_11_method_7_code 170 = .ok (.ifCond .eq 6, 3) := by decide +kernel
theorem d_Steps_shift_176 : decode prog_11_method_7_code 176 = .ok (.aload_n 1, 1) := by decide +kernel
theorem d_Steps_shift_177 : decode prog_11_method_7_code 177 = .ok (.getfield 76, 3) := by decide +kernel
theorem u_422 : Cond.fieldLink "FilterGuard$Steps" 76 "FilterGuard$Cell" "kind" "I" ∈ fg_g := fg_in (List.mem_of_getElem? (i := 422) (by decide +kernel)) rfl
theorem d_Steps_shift_180 : decode prog_11_method_7_code 180 = .ok (.iconst 4, 1) := by decide +kernel
theorem d_Steps_shift_181 : decode prog_11_method_7_code 181 = .ok (.if_icmp .ne 16, 3) := by decide +kernel
theorem d_Steps_shift_197 : decode prog_11_method_7_code 197 = .ok (.iconst 0, 1) := by decide +kernel
theorem d_Steps_shift_198 : decode prog_11_method_7_code 198 = .ok (.ireturn, 1) := by decide +kernel
theorem d_Steps_shift_184 : decode prog_11_method_7_code 184 = .ok (.aload_n 1, 1) := by decide +kernel
theorem d_Steps_shift_185 : decode prog_11_method_7_code 185 = .ok (.aload_n 0, 1) := by decide +kernel
theorem d_Steps_shift_186 : decode prog_11_method_7_code 186 = .ok (.invokevirtual 191, 3) := by decide +kernel
theorem u_1257 : Cond.methodLink "FilterGuard$Steps" 191 ⟨"FilterGuard$Steps", "newIdentity", "()I"⟩ ∈ fg_g := fg_in (List.mem_of_getElem? (i := 1257) (by decide +kernel)) rfl
theorem u_1260 : Cond.code ⟨"FilterGuard$Steps", "newIdentity", "()I"⟩ prog_11_method_8_code 1 (some .int) ∈ fg_g := fg_in (List.mem_of_getElem? (i := 1260) (by decide +kernel)) rfl
theorem u_1259 : Cond.instanceMethod ⟨"FilterGuard$Steps", "newIdentity", "()I"⟩ ∈ fg_g := fg_in (List.mem_of_getElem? (i := 1259) (by decide +kernel)) rfl
theorem u_28 : Cond.selects "FilterGuard$Steps" ⟨"FilterGuard$Steps", "newIdentity", "()I"⟩ ⟨"FilterGuard$Steps", "newIdentity", "()I"⟩ ∈ fg_g := fg_in (List.mem_of_getElem? (i := 28) (by decide +kernel)) rfl
theorem d_Steps_shift_189 : decode prog_11_method_7_code 189 = .ok (.putfield 194, 3) := by decide +kernel
theorem u_430 : Cond.fieldLink "FilterGuard$Steps" 194 "FilterGuard$Cell" "identity" "I" ∈ fg_g := fg_in (List.mem_of_getElem? (i := 430) (by decide +kernel)) rfl
theorem d_Steps_shift_192 : decode prog_11_method_7_code 192 = .ok (.aload_n 1, 1) := by decide +kernel
theorem d_Steps_shift_193 : decode prog_11_method_7_code 193 = .ok (.iconst 0, 1) := by decide +kernel
theorem d_Steps_shift_194 : decode prog_11_method_7_code 194 = .ok (.putfield 197, 3) := by decide +kernel
theorem u_432 : Cond.fieldLink "FilterGuard$Steps" 197 "FilterGuard$Cell" "room" "I" ∈ fg_g := fg_in (List.mem_of_getElem? (i := 432) (by decide +kernel)) rfl
theorem d_Steps_shift_173 : decode prog_11_method_7_code 173 = .ok (.bipush 11, 2) := by decide +kernel
theorem d_Steps_shift_175 : decode prog_11_method_7_code 175 = .ok (.ireturn, 1) := by decide +kernel
theorem d_Steps_shift_114 : decode prog_11_method_7_code 114 = .ok (.iconst 1, 1) := by decide +kernel
theorem d_Steps_shift_115 : decode prog_11_method_7_code 115 = .ok (.goto 4, 3) := by decide +kernel
theorem d_Steps_shift_67 : decode prog_11_method_7_code 67 = .ok (.l2i, 1) := by decide +kernel
theorem d_Steps_shift_68 : decode prog_11_method_7_code 68 = .ok (.iadd, 1) := by decide +kernel
theorem d_Steps_shift_69 : decode prog_11_method_7_code 69 = .ok (.istore 6, 2) := by decide +kernel
theorem d_Steps_shift_71 : decode prog_11_method_7_code 71 = .ok (.aload_n 1, 1) := by decide +kernel
theorem d_Steps_shift_72 : decode prog_11_method_7_code 72 = .ok (.iload 6, 2) := by decide +kernel
theorem d_Steps_shift_74 : decode prog_11_method_7_code 74 = .ok (.putfield 178, 3) := by decide +kernel
theorem u_425 : Cond.fieldLink "FilterGuard$Steps" 178 "FilterGuard$Cell" "place" "I" ∈ fg_g := fg_in (List.mem_of_getElem? (i := 425) (by decide +kernel)) rfl
theorem d_Steps_shift_77 : decode prog_11_method_7_code 77 = .ok (.iload 6, 2) := by decide +kernel
theorem d_Steps_shift_79 : decode prog_11_method_7_code 79 = .ok (.ldc 181, 2) := by decide +kernel
theorem u_1253 : Cond.constant "FilterGuard$Steps" 181 (-65535) ∈ fg_g := fg_in (List.mem_of_getElem? (i := 1253) (by decide +kernel)) rfl
theorem d_Steps_shift_81 : decode prog_11_method_7_code 81 = .ok (.if_icmp .lt 10, 3) := by decide +kernel
theorem d_Steps_shift_91 : decode prog_11_method_7_code 91 = .ok (.bipush 11, 2) := by decide +kernel
theorem d_Steps_shift_93 : decode prog_11_method_7_code 93 = .ok (.goto 4, 3) := by decide +kernel
theorem d_Steps_shift_97 : decode prog_11_method_7_code 97 = .ok (.ireturn, 1) := by decide +kernel
theorem d_Steps_shift_84 : decode prog_11_method_7_code 84 = .ok (.iload 6, 2) := by decide +kernel
theorem d_Steps_shift_86 : decode prog_11_method_7_code 86 = .ok (.ldc 182, 2) := by decide +kernel
theorem u_1254 : Cond.constant "FilterGuard$Steps" 182 65535 ∈ fg_g := fg_in (List.mem_of_getElem? (i := 1254) (by decide +kernel)) rfl
theorem d_Steps_shift_88 : decode prog_11_method_7_code 88 = .ok (.if_icmp .le 8, 3) := by decide +kernel
theorem d_Steps_shift_96 : decode prog_11_method_7_code 96 = .ok (.iconst 0, 1) := by decide +kernel
theorem d_Steps_shift_16 : decode prog_11_method_7_code 16 = .ok (.istore_n 3, 1) := by decide +kernel
theorem d_Steps_shift_17 : decode prog_11_method_7_code 17 = .ok (.aload_n 2, 1) := by decide +kernel
theorem d_Steps_shift_18 : decode prog_11_method_7_code 18 = .ok (.invokevirtual 167, 3) := by decide +kernel
theorem u_1250 : Cond.methodLink "FilterGuard$Steps" 167 ⟨"FilterGuard$Num", "isExact", "()Z"⟩ ∈ fg_g := fg_in (List.mem_of_getElem? (i := 1250) (by decide +kernel)) rfl
theorem d_Steps_shift_21 : decode prog_11_method_7_code 21 = .ok (.ifCond .eq 77, 3) := by decide +kernel
theorem d_Steps_shift_98 : decode prog_11_method_7_code 98 = .ok (.aload_n 1, 1) := by decide +kernel
theorem d_Steps_shift_99 : decode prog_11_method_7_code 99 = .ok (.getfield 76, 3) := by decide +kernel
theorem d_Steps_shift_102 : decode prog_11_method_7_code 102 = .ok (.iconst 2, 1) := by decide +kernel
theorem d_Steps_shift_103 : decode prog_11_method_7_code 103 = .ok (.if_icmp .eq 11, 3) := by decide +kernel
theorem d_Steps_shift_106 : decode prog_11_method_7_code 106 = .ok (.aload_n 1, 1) := by decide +kernel
theorem d_Steps_shift_107 : decode prog_11_method_7_code 107 = .ok (.getfield 76, 3) := by decide +kernel
theorem d_Steps_shift_110 : decode prog_11_method_7_code 110 = .ok (.iconst 3, 1) := by decide +kernel
theorem d_Steps_shift_111 : decode prog_11_method_7_code 111 = .ok (.if_icmp .ne 7, 3) := by decide +kernel
theorem d_Steps_shift_118 : decode prog_11_method_7_code 118 = .ok (.iconst 0, 1) := by decide +kernel
theorem d_Steps_shift_24 : decode prog_11_method_7_code 24 = .ok (.aload_n 2, 1) := by decide +kernel
theorem d_Steps_shift_25 : decode prog_11_method_7_code 25 = .ok (.getfield 170, 3) := by decide +kernel
theorem u_370 : Cond.fieldLink "FilterGuard$Steps" 170 "FilterGuard$Num" "value" "J" ∈ fg_g := fg_in (List.mem_of_getElem? (i := 370) (by decide +kernel)) rfl
theorem d_Steps_shift_28 : decode prog_11_method_7_code 28 = .ok (.lstore 4, 2) := by decide +kernel
theorem d_Steps_shift_30 : decode prog_11_method_7_code 30 = .ok (.lload 4, 2) := by decide +kernel
theorem d_Steps_shift_32 : decode prog_11_method_7_code 32 = .ok (.ldc2_w 174, 3) := by decide +kernel
theorem u_1251 : Cond.constantLong "FilterGuard$Steps" 174 (-65535) ∈ fg_g := fg_in (List.mem_of_getElem? (i := 1251) (by decide +kernel)) rfl
theorem d_Steps_shift_35 : decode prog_11_method_7_code 35 = .ok (.lcmp, 1) := by decide +kernel
theorem d_Steps_shift_36 : decode prog_11_method_7_code 36 = .ok (.ifCond .lt 12, 3) := by decide +kernel
theorem d_Steps_shift_48 : decode prog_11_method_7_code 48 = .ok (.bipush 11, 2) := by decide +kernel
theorem d_Steps_shift_50 : decode prog_11_method_7_code 50 = .ok (.ireturn, 1) := by decide +kernel
theorem d_Steps_shift_39 : decode prog_11_method_7_code 39 = .ok (.lload 4, 2) := by decide +kernel
theorem d_Steps_shift_41 : decode prog_11_method_7_code 41 = .ok (.ldc2_w 176, 3) := by decide +kernel
theorem d_Steps_shift_44 : decode prog_11_method_7_code 44 = .ok (.lcmp, 1) := by decide +kernel
theorem d_Steps_shift_45 : decode prog_11_method_7_code 45 = .ok (.ifCond .le 6, 3) := by decide +kernel
theorem d_Steps_shift_51 : decode prog_11_method_7_code 51 = .ok (.aload_n 1, 1) := by decide +kernel
theorem d_Steps_shift_52 : decode prog_11_method_7_code 52 = .ok (.getfield 178, 3) := by decide +kernel
theorem d_Steps_shift_55 : decode prog_11_method_7_code 55 = .ok (.iload_n 3, 1) := by decide +kernel
theorem d_Steps_shift_56 : decode prog_11_method_7_code 56 = .ok (.ifCond .eq 9, 3) := by decide +kernel
theorem d_Steps_shift_65 : decode prog_11_method_7_code 65 = .ok (.lload 4, 2) := by decide +kernel
theorem d_Steps_shift_59 : decode prog_11_method_7_code 59 = .ok (.lload 4, 2) := by decide +kernel
theorem d_Steps_shift_61 : decode prog_11_method_7_code 61 = .ok (.lneg, 1) := by decide +kernel
theorem d_Steps_shift_62 : decode prog_11_method_7_code 62 = .ok (.goto 5, 3) := by decide +kernel
theorem d_Steps_shift_0 : decode prog_11_method_7_code 0 = .ok (.aload_n 0, 1) := by decide +kernel
theorem d_Steps_shift_1 : decode prog_11_method_7_code 1 = .ok (.getfield 44, 3) := by decide +kernel
theorem d_Steps_shift_4 : decode prog_11_method_7_code 4 = .ok (.getfield 133, 3) := by decide +kernel
theorem u_262 : Cond.fieldLink "FilterGuard$Steps" 133 "FilterGuard$Code" "operation" "I" ∈ fg_g := fg_in (List.mem_of_getElem? (i := 262) (by decide +kernel)) rfl
theorem d_Steps_shift_7 : decode prog_11_method_7_code 7 = .ok (.iconst 1, 1) := by decide +kernel
theorem d_Steps_shift_8 : decode prog_11_method_7_code 8 = .ok (.if_icmp .ne 7, 3) := by decide +kernel
theorem d_Steps_shift_15 : decode prog_11_method_7_code 15 = .ok (.iconst 0, 1) := by decide +kernel
theorem d_Steps_shift_11 : decode prog_11_method_7_code 11 = .ok (.iconst 1, 1) := by decide +kernel
theorem d_Steps_shift_12 : decode prog_11_method_7_code 12 = .ok (.goto 4, 3) := by decide +kernel
abbrev y_Steps_shift : MethodName := ⟨"FilterGuard$Steps", "shift", "(LFilterGuard$Cell;LFilterGuard$Num;)I"⟩
def f_Steps_shift_b119 (j0 : Nat) (j1 : Nat) (j2 : Nat) (M : me_M) (y3 : Int32) (s0 : Int32) : Option (me_M × Int32) := (if y3 = 0 then (if s0 = 0 then b2 (f_Num_isAbove M j2 (65535 : Int64)) (fun (M3 : me_M) (r4 : Int32) => (if r4 = 0 then bd (mR M 7 j0 2) (fun (j6 : Nat) => bd (mR M 10 j1 6) (fun (j8 : Nat) => bd (f_Reckoner_operateWide M3 j6 (0 : Int32) j8 j2 j8) (fun (M10 : me_M) => b2 (f_Num_isAbove M10 j8 (65535 : Int64)) (fun (M11 : me_M) (r12 : Int32) => (if r12 = 0 then (if (mI M11 10 j1 0) = 4 then b2 (f_Steps_newIdentity M11 j0) (fun (M15 : me_M) (r16 : Int32) => st (wI M15 10 j1 3 r16) (fun (M17 : me_M) => st (wI M17 10 j1 4 0) (fun (M18 : me_M) => some (M18, (0 : Int32))))) else some (M11, (0 : Int32))) else some (M11, (11 : Int32))))))) else some (M3, (11 : Int32)))) else some (M, (11 : Int32))) else some (M, (11 : Int32)))
def f_Steps_shift_b114 (j0 : Nat) (j1 : Nat) (j2 : Nat) (M : me_M) (y3 : Int32) : Option (me_M × Int32) := f_Steps_shift_b119 j0 j1 j2 M y3 (1 : Int32)
def f_Steps_shift_b67 (j1 : Nat) (M : me_M) (s0 : Int64) (s1 : Int32) : Option (me_M × Int32) := st (s1 + s0.toInt32) (fun (v19 : Int32) => st (wI M 10 j1 1 v19) (fun (M20 : me_M) => (if v19 < (-65535) then some (M20, (11 : Int32)) else (if v19 ≤ 65535 then some (M20, (0 : Int32)) else some (M20, (11 : Int32))))))
def f_Steps_shift_b16 (j0 : Nat) (j1 : Nat) (j2 : Nat) (M : me_M) (s0 : Int32) : Option (me_M × Int32) := b2 (f_Num_isExact0 M j2) (fun (M23 : me_M) (r24 : Int32) => (if r24 = 0 then (if (mI M23 10 j1 0) = 2 then f_Steps_shift_b114 j0 j1 j2 M23 s0 else (if (mI M23 10 j1 0) = 3 then f_Steps_shift_b114 j0 j1 j2 M23 s0 else f_Steps_shift_b119 j0 j1 j2 M23 s0 (0 : Int32))) else st (mL M23 11 j2 0) (fun (v28 : Int64) => (if v28 < (-65535) then some (M23, (11 : Int32)) else (if 65535 < v28 then some (M23, (11 : Int32)) else (if s0 = 0 then f_Steps_shift_b67 j1 M23 v28 (mI M23 10 j1 1) else f_Steps_shift_b67 j1 M23 (-v28) (mI M23 10 j1 1)))))))
def f_Steps_shift (M0 : me_M) (j0 : Nat) (j1 : Nat) (j2 : Nat) : Option (me_M × Int32) := bd (mR M0 7 j0 0) (fun (j32 : Nat) => (if (mI M0 2 j32 12) = 1 then f_Steps_shift_b16 j0 j1 j2 M0 (1 : Int32) else f_Steps_shift_b16 j0 j1 j2 M0 (0 : Int32)))
def rm_Steps_shift : Room := { frames := 5, cells := 0, slots := 0, locals := 110 }
abbrev q_Steps_shift (D : va_G) (ad : Nat → Nat → Nat) (ca : Nat → ClassId) (N : Nat → Nat) (M0 MZ : me_M) (RZ : Int32) (A : Nat → Prop) : Array Value → Jvm.State → Outcome → Jvm.State → Prop := va_Qi (fun r (_ : Unit) => r = RZ ∧ me_wf N MZ ∧ me_kp M0 MZ) (fg_B D A (fun _ => me_W ad ca MZ) (fun _ => [])) A
set_option maxHeartbeats 4000000 in
set_option maxRecDepth 100000 in
theorem c_Steps_shift (l : Launch) (D : va_G) (ad : Nat → Nat → Nat) (ca : Nat → ClassId) (N : Nat → Nat) (M0 MZ : me_M) (RZ : Int32) (j0 : Nat) (j1 : Nat) (j2 : Nat) (h : f_Steps_shift M0 j0 j1 j2 = (some (MZ, RZ))) (hwf : me_wf N M0) (hj0 : j0 < N 7) (hj1 : j1 < N 10) (hj2 : j2 < N 11) (sz : Nat) : Met l y_Steps_shift (fg_w y_Steps_shift prog_11_method_7_code 7 (some .int)) rm_Steps_shift (va_Pc [.ref (ad 7 j0), .ref (ad 10 j1), .ref (ad 11 j2)] (fz_P D (me_T ca) (me_W ad ca M0) sz)) (q_Steps_shift D ad ca N M0 MZ RZ (va_A (me_W ad ca M0) sz)) rm_Steps_shift.cells rm_Steps_shift.slots (va_A (me_W ad ca M0) sz) := by
  refine fz_enter (fun A => q_Steps_shift D ad ca N M0 MZ RZ A) (by decide +kernel) (Nat.le_of_ble_eq_true rfl) ?_
  intro p e s m below meth c ls A hx hb hml hown hts hr hlocks hin hP hK hD hS hA hX hl hz
  have hl : lv_has ls 7 [(0, .ref (ad 7 j0)), (1, .ref (ad 10 j1)), (2, .ref (ad 11 j2))] := hl
  unfold f_Steps_shift at h
  have hkp : me_kp M0 M0 := me_kp.rf
  have hkb := hkp
  have b_119 : ∀ (M : me_M) (y3 : Int32) (s0 : Int32) (H : Heap) (locs : List Loc) (ls : Array Slot), f_Steps_shift_b119 j0 j1 j2 M y3 s0 = (some (MZ, RZ)) → (y3 = 1 ∨ y3 = 0) → (s0 = 1 ∨ s0 = 0) → me_wf N M → me_kp M0 M → va_P D classes (me_W ad ca M) H → va_D A (me_W ad ca M) → va_S A s.heap H locs → lv_has ls 7 [(0, .ref (ad 7 j0)), (1, .ref (ad 10 j1)), (2, .ref (ad 11 j2)), (3, .int y3)] → W p l e rm_Steps_shift s m [.ref (ad 7 j0), .ref (ad 10 j1), .ref (ad 11 j2)].toArray below meth c H locs 0 0 (MQ below (q_Steps_shift D ad ca N M0 MZ RZ A) [.ref (ad 7 j0), .ref (ad 10 j1), .ref (ad 11 j2)].toArray s rm_Steps_shift.cells rm_Steps_shift.slots A) (F0 m 119 ls [.int s0]) := by
    intro M y3 s0 H locs ls h zy3 zs0 hwf hkp hP hD hS hl
    unfold f_Steps_shift_b119 at h
    have hkb := hkp
    refine lv_istore (lv' := [(4, .int s0), (0, .ref (ad 7 j0)), (1, .ref (ad 10 j1)), (2, .ref (ad 11 j2)), (3, .int y3)]) hx hb d_Steps_shift_119 hl (by decide) rfl (fun ls hl => ?_)
    refine lv_iload_n hx hb d_Steps_shift_121 rfl (lv_at hl 4 rfl) ?_
    refine lv_if_ne (tgt := 140) hx hb d_Steps_shift_122 (by decide) (fun c1 => ?_) (fun c1 => ?_)
    · have h := if_f c1 h
      refine lv_bipush (v := 11) hx hb d_Steps_shift_140 (by decide) ?_
      exact me_reti (me_kp M0) h hx hb hr hlocks hwf hkp hP hK hD hS d_Steps_shift_142
    have h := if_t c1 h
    refine lv_iload hx hb d_Steps_shift_125 (lv_at hl 0 rfl) ?_
    refine lv_if_ne (tgt := 140) hx hb d_Steps_shift_127 (by decide) (fun c2 => ?_) (fun c2 => ?_)
    · have h := if_f c2 h
      refine lv_bipush (v := 11) hx hb d_Steps_shift_140 (by decide) ?_
      exact me_reti (me_kp M0) h hx hb hr hlocks hwf hkp hP hK hD hS d_Steps_shift_142
    have h := if_t c2 h
    refine lv_aload_n hx hb d_Steps_shift_130 rfl (lv_at hl 3 rfl) ?_
    refine lv_ldc2 hx hb hown (hts _ u_1252) d_Steps_shift_131 ?_
    obtain ⟨M3, r4, eM3, h⟩ := b2_ob h
    refine me_theni0 (M1 := M3) (me_runV (C := "FilterGuard$Num") (As := [.long 65535]) (rest := []) ⟨hx, hb, hml, hown, hts⟩ (c_Num_isAbove l D ad ca N M M3 r4 j2 (65535 : Int64) eM3 hwf hj2 _) rfl (by show fg_nm y_Num_isAbove 1; decide +kernel) u_1255 u_1174 u_1175 u_187 u_1176 ⟨Nat.le_of_ble_eq_true rfl, Nat.le_of_ble_eq_true rfl⟩ hX hz hK hP hD hwf hS hA hj2 (by decide) rfl rfl rfl hl.1 (Nat.le_of_ble_eq_true rfl) d_Steps_shift_134 ⟨Nat.le_of_ble_eq_true rfl, Nat.le_of_ble_eq_true rfl⟩) hP hD hK hS hA rfl rfl (fun H locs hw hP hD hS => ?_)
    obtain ⟨hwf, hk9, zr4⟩ := hw
    have hkp := hkp.tr hk9
    refine lv_if_eq (tgt := 143) hx hb d_Steps_shift_137 (by decide) (fun c5 => ?_) (fun c5 => ?_)
    · have h := if_t c5 h
      refine lv_aload_n hx hb d_Steps_shift_143 rfl (lv_at hl 1 rfl) ?_
      refine g_Steps_2 hx hb hts hown hK hP hwf hj0 (hts _ u_457) d_Steps_shift_144 ?_
      obtain ⟨j6, e7, h⟩ := bd_ob h
      have hj6 : j6 < N 8 := (hwf.2.1 7 j0 2 _ (kp_r hkb hkp e7) (by decide) hj0)
      refine me_opt (j := j6) (kp_r hkb hkp e7) ?_
      refine lv_iconst (v := 0) hx hb d_Steps_shift_147 (by decide) ?_
      refine lv_aload_n hx hb d_Steps_shift_148 rfl (lv_at hl 2 rfl) ?_
      refine g_Cell_6 hx hb hts hown hK hP hwf hj1 (hts _ u_437) d_Steps_shift_149 ?_
      obtain ⟨j8, e9, h⟩ := bd_ob h
      have hj8 : j8 < N 11 := (hwf.2.1 10 j1 6 _ (kp_r hkb hkp e9) (by decide) hj1)
      refine me_opt (j := j8) (kp_r hkb hkp e9) ?_
      refine lv_aload_n hx hb d_Steps_shift_152 rfl (lv_at hl 3 rfl) ?_
      refine lv_aload_n hx hb d_Steps_shift_153 rfl (lv_at hl 2 rfl) ?_
      refine g_Cell_6 hx hb hts hown hK hP hwf hj1 (hts _ u_437) d_Steps_shift_154 ?_
      refine me_opt (j := j8) (kp_r hkb hkp e9) ?_
      obtain ⟨M10, eM10, h⟩ := bd_ob h
      refine me_thenv0 (M1 := M10) (me_runV (C := "FilterGuard$Reckoner") (As := [.int 0, .ref (ad 11 j8), .ref (ad 11 j2), .ref (ad 11 j8)]) (rest := []) ⟨hx, hb, hml, hown, hts⟩ (c_Reckoner_operateWide l D ad ca N M3 M10 j6 (0 : Int32) j8 j2 j8 eM10 hwf hj6 hj8 hj2 hj8 _) rfl (by show fg_nm y_Reckoner_operateWide 4; decide +kernel) u_1256 u_1127 u_1128 u_186 u_1129 ⟨Nat.le_of_ble_eq_true rfl, Nat.le_of_ble_eq_true rfl⟩ hX hz hK hP hD hwf hS hA hj6 (by decide) rfl rfl rfl hl.1 (Nat.le_of_ble_eq_true rfl) d_Steps_shift_157 ⟨Nat.le_of_ble_eq_true rfl, Nat.le_of_ble_eq_true rfl⟩) hP hD hK hS hA rfl rfl (fun H locs hw hP hD hS => ?_)
      obtain ⟨hwf, hk9⟩ := hw
      have hkp := hkp.tr hk9
      refine lv_aload_n hx hb d_Steps_shift_160 rfl (lv_at hl 2 rfl) ?_
      refine g_Cell_6 hx hb hts hown hK hP hwf hj1 (hts _ u_437) d_Steps_shift_161 ?_
      refine me_opt (j := j8) (kp_r hkb hkp e9) ?_
      refine lv_ldc2 hx hb hown (hts _ u_1252) d_Steps_shift_164 ?_
      obtain ⟨M11, r12, eM11, h⟩ := b2_ob h
      refine me_theni0 (M1 := M11) (me_runV (C := "FilterGuard$Num") (As := [.long 65535]) (rest := []) ⟨hx, hb, hml, hown, hts⟩ (c_Num_isAbove l D ad ca N M10 M11 r12 j8 (65535 : Int64) eM11 hwf hj8 _) rfl (by show fg_nm y_Num_isAbove 1; decide +kernel) u_1255 u_1174 u_1175 u_187 u_1176 ⟨Nat.le_of_ble_eq_true rfl, Nat.le_of_ble_eq_true rfl⟩ hX hz hK hP hD hwf hS hA hj8 (by decide) rfl rfl rfl hl.1 (Nat.le_of_ble_eq_true rfl) d_Steps_shift_167 ⟨Nat.le_of_ble_eq_true rfl, Nat.le_of_ble_eq_true rfl⟩) hP hD hK hS hA rfl rfl (fun H locs hw hP hD hS => ?_)
      obtain ⟨hwf, hk9, zr12⟩ := hw
      have hkp := hkp.tr hk9
      refine lv_if_eq (tgt := 176) hx hb d_Steps_shift_170 (by decide) (fun c13 => ?_) (fun c13 => ?_)
      · have h := if_t c13 h
        refine lv_aload_n hx hb d_Steps_shift_176 rfl (lv_at hl 2 rfl) ?_
        refine g_Cell_0 hx hb hts hown hK hP hwf hj1 (hts _ u_422) d_Steps_shift_177 ?_
        refine lv_iconst (v := 4) hx hb d_Steps_shift_180 (by decide) ?_
        refine lv_icmp_ne (tgt := 197) hx hb d_Steps_shift_181 (by decide) (fun c14 => ?_) (fun c14 => ?_)
        · have h := if_f c14 h
          refine lv_iconst (v := 0) hx hb d_Steps_shift_197 (by decide) ?_
          exact me_reti (me_kp M0) h hx hb hr hlocks hwf hkp hP hK hD hS d_Steps_shift_198
        have h := if_t c14 h
        refine lv_aload_n hx hb d_Steps_shift_184 rfl (lv_at hl 2 rfl) ?_
        refine lv_aload_n hx hb d_Steps_shift_185 rfl (lv_at hl 1 rfl) ?_
        obtain ⟨M15, r16, eM15, h⟩ := b2_ob h
        refine me_theni0 (M1 := M15) (me_runV (C := "FilterGuard$Steps") (As := []) (rest := [.ref (ad 10 j1)]) ⟨hx, hb, hml, hown, hts⟩ (c_Steps_newIdentity l D ad ca N M11 M15 r16 j0 eM15 hwf hj0 _) rfl (by show fg_nm y_Steps_newIdentity 0; decide +kernel) u_1257 u_1259 u_28 u_185 u_1260 ⟨Nat.le_of_ble_eq_true rfl, Nat.le_of_ble_eq_true rfl⟩ hX hz hK hP hD hwf hS hA hj0 (by decide) rfl rfl rfl hl.1 (Nat.le_of_ble_eq_true rfl) d_Steps_shift_186 ⟨Nat.le_of_ble_eq_true rfl, Nat.le_of_ble_eq_true rfl⟩) hP hD hK hS hA rfl rfl (fun H locs hw hP hD hS => ?_)
        obtain ⟨hwf, hk9⟩ := hw
        have hkp := hkp.tr hk9
        obtain ⟨M17, eM17, h⟩ := st_ob h
        refine p_Cell_3 eM17 hx hb hts hown hK hP hD hwf hS hj1 (hts _ u_430) d_Steps_shift_189 (fun H locs hP hD hwf hS => ?_)
        have hkp := kp_I eM17 hkp
        refine lv_aload_n hx hb d_Steps_shift_192 rfl (lv_at hl 2 rfl) ?_
        refine lv_iconst (v := 0) hx hb d_Steps_shift_193 (by decide) ?_
        obtain ⟨M18, eM18, h⟩ := st_ob h
        refine p_Cell_4 eM18 hx hb hts hown hK hP hD hwf hS hj1 (hts _ u_432) d_Steps_shift_194 (fun H locs hP hD hwf hS => ?_)
        have hkp := kp_I eM18 hkp
        refine lv_iconst (v := 0) hx hb d_Steps_shift_197 (by decide) ?_
        exact me_reti (me_kp M0) h hx hb hr hlocks hwf hkp hP hK hD hS d_Steps_shift_198
      have h := if_f c13 h
      refine lv_bipush (v := 11) hx hb d_Steps_shift_173 (by decide) ?_
      exact me_reti (me_kp M0) h hx hb hr hlocks hwf hkp hP hK hD hS d_Steps_shift_175
    have h := if_f c5 h
    refine lv_bipush (v := 11) hx hb d_Steps_shift_140 (by decide) ?_
    exact me_reti (me_kp M0) h hx hb hr hlocks hwf hkp hP hK hD hS d_Steps_shift_142
  have b_114 : ∀ (M : me_M) (y3 : Int32) (H : Heap) (locs : List Loc) (ls : Array Slot), f_Steps_shift_b114 j0 j1 j2 M y3 = (some (MZ, RZ)) → (y3 = 1 ∨ y3 = 0) → me_wf N M → me_kp M0 M → va_P D classes (me_W ad ca M) H → va_D A (me_W ad ca M) → va_S A s.heap H locs → lv_has ls 7 [(0, .ref (ad 7 j0)), (1, .ref (ad 10 j1)), (2, .ref (ad 11 j2)), (3, .int y3)] → W p l e rm_Steps_shift s m [.ref (ad 7 j0), .ref (ad 10 j1), .ref (ad 11 j2)].toArray below meth c H locs 0 0 (MQ below (q_Steps_shift D ad ca N M0 MZ RZ A) [.ref (ad 7 j0), .ref (ad 10 j1), .ref (ad 11 j2)].toArray s rm_Steps_shift.cells rm_Steps_shift.slots A) (F0 m 114 ls []) := by
    intro M y3 H locs ls h zy3 hwf hkp hP hD hS hl
    unfold f_Steps_shift_b114 at h
    have hkb := hkp
    refine lv_iconst (v := 1) hx hb d_Steps_shift_114 (by decide) ?_
    refine lv_goto (tgt := 119) hx hb d_Steps_shift_115 (by decide) ?_
    exact b_119 M y3 (1 : Int32) _ _ _ h zy3 (by decide) hwf hkp hP hD hS (lv_sub hl [0, 1, 2, 3] rfl)
  have b_67 : ∀ (M : me_M) (s0 : Int64) (s1 : Int32) (H : Heap) (locs : List Loc) (ls : Array Slot), f_Steps_shift_b67 j1 M s0 s1 = (some (MZ, RZ)) → me_wf N M → me_kp M0 M → va_P D classes (me_W ad ca M) H → va_D A (me_W ad ca M) → va_S A s.heap H locs → lv_has ls 7 [(1, .ref (ad 10 j1))] → W p l e rm_Steps_shift s m [.ref (ad 7 j0), .ref (ad 10 j1), .ref (ad 11 j2)].toArray below meth c H locs 0 0 (MQ below (q_Steps_shift D ad ca N M0 MZ RZ A) [.ref (ad 7 j0), .ref (ad 10 j1), .ref (ad 11 j2)].toArray s rm_Steps_shift.cells rm_Steps_shift.slots A) (F0 m 67 ls [.long s0, .int s1]) := by
    intro M s0 s1 H locs ls h hwf hkp hP hD hS hl
    unfold f_Steps_shift_b67 at h
    have hkb := hkp
    refine lv_l2i (v := s0.toInt32) hx hb d_Steps_shift_67 rfl ?_
    refine lv_iadd hx hb d_Steps_shift_68 ?_
    obtain ⟨v19, ev19, h⟩ := st_ob h
    refine fg_topi (y := v19) ev19.symm ?_
    refine lv_istore (lv' := [(6, .int v19), (1, .ref (ad 10 j1))]) hx hb d_Steps_shift_69 hl (by decide) rfl (fun ls hl => ?_)
    refine lv_aload_n hx hb d_Steps_shift_71 rfl (lv_at hl 1 rfl) ?_
    refine lv_iload hx hb d_Steps_shift_72 (lv_at hl 0 rfl) ?_
    obtain ⟨M20, eM20, h⟩ := st_ob h
    refine p_Cell_1 eM20 hx hb hts hown hK hP hD hwf hS hj1 (hts _ u_425) d_Steps_shift_74 (fun H locs hP hD hwf hS => ?_)
    have hkp := kp_I eM20 hkp
    refine lv_iload hx hb d_Steps_shift_77 (lv_at hl 0 rfl) ?_
    refine lv_ldc hx hb hown (hts _ u_1253) d_Steps_shift_79 ?_
    refine lv_icmp_lt (tgt := 91) hx hb d_Steps_shift_81 (by decide) (fun c21 => ?_) (fun c21 => ?_)
    · have h := if_t c21 h
      refine lv_bipush (v := 11) hx hb d_Steps_shift_91 (by decide) ?_
      refine lv_goto (tgt := 97) hx hb d_Steps_shift_93 (by decide) ?_
      exact me_reti (me_kp M0) h hx hb hr hlocks hwf hkp hP hK hD hS d_Steps_shift_97
    have h := if_f c21 h
    refine lv_iload hx hb d_Steps_shift_84 (lv_at hl 0 rfl) ?_
    refine lv_ldc hx hb hown (hts _ u_1254) d_Steps_shift_86 ?_
    refine lv_icmp_le (tgt := 96) hx hb d_Steps_shift_88 (by decide) (fun c22 => ?_) (fun c22 => ?_)
    · have h := if_t c22 h
      refine lv_iconst (v := 0) hx hb d_Steps_shift_96 (by decide) ?_
      exact me_reti (me_kp M0) h hx hb hr hlocks hwf hkp hP hK hD hS d_Steps_shift_97
    have h := if_f c22 h
    refine lv_bipush (v := 11) hx hb d_Steps_shift_91 (by decide) ?_
    refine lv_goto (tgt := 97) hx hb d_Steps_shift_93 (by decide) ?_
    exact me_reti (me_kp M0) h hx hb hr hlocks hwf hkp hP hK hD hS d_Steps_shift_97
  have b_16 : ∀ (M : me_M) (s0 : Int32) (H : Heap) (locs : List Loc) (ls : Array Slot), f_Steps_shift_b16 j0 j1 j2 M s0 = (some (MZ, RZ)) → (s0 = 1 ∨ s0 = 0) → me_wf N M → me_kp M0 M → va_P D classes (me_W ad ca M) H → va_D A (me_W ad ca M) → va_S A s.heap H locs → lv_has ls 7 [(0, .ref (ad 7 j0)), (1, .ref (ad 10 j1)), (2, .ref (ad 11 j2))] → W p l e rm_Steps_shift s m [.ref (ad 7 j0), .ref (ad 10 j1), .ref (ad 11 j2)].toArray below meth c H locs 0 0 (MQ below (q_Steps_shift D ad ca N M0 MZ RZ A) [.ref (ad 7 j0), .ref (ad 10 j1), .ref (ad 11 j2)].toArray s rm_Steps_shift.cells rm_Steps_shift.slots A) (F0 m 16 ls [.int s0]) := by
    intro M s0 H locs ls h zs0 hwf hkp hP hD hS hl
    unfold f_Steps_shift_b16 at h
    have hkb := hkp
    refine lv_istore_n (lv' := [(3, .int s0), (0, .ref (ad 7 j0)), (1, .ref (ad 10 j1)), (2, .ref (ad 11 j2))]) hx hb d_Steps_shift_16 rfl hl (by decide) rfl (fun ls hl => ?_)
    refine lv_aload_n hx hb d_Steps_shift_17 rfl (lv_at hl 3 rfl) ?_
    obtain ⟨M23, r24, eM23, h⟩ := b2_ob h
    refine me_theni0 (M1 := M23) (me_runV (C := "FilterGuard$Num") (As := []) (rest := []) ⟨hx, hb, hml, hown, hts⟩ (c_Num_isExact0 l D ad ca N M M23 r24 j2 eM23 hwf hj2 _) rfl (by show fg_nm y_Num_isExact0 0; decide +kernel) u_1250 u_1158 u_1159 u_187 u_1160 ⟨Nat.le_of_ble_eq_true rfl, Nat.le_of_ble_eq_true rfl⟩ hX hz hK hP hD hwf hS hA hj2 (by decide) rfl rfl rfl hl.1 (Nat.le_of_ble_eq_true rfl) d_Steps_shift_18 ⟨Nat.le_of_ble_eq_true rfl, Nat.le_of_ble_eq_true rfl⟩) hP hD hK hS hA rfl rfl (fun H locs hw hP hD hS => ?_)
    obtain ⟨hwf, hk9, zr24⟩ := hw
    have hkp := hkp.tr hk9
    refine lv_if_eq (tgt := 98) hx hb d_Steps_shift_21 (by decide) (fun c25 => ?_) (fun c25 => ?_)
    · have h := if_t c25 h
      refine lv_aload_n hx hb d_Steps_shift_98 rfl (lv_at hl 2 rfl) ?_
      refine g_Cell_0 hx hb hts hown hK hP hwf hj1 (hts _ u_422) d_Steps_shift_99 ?_
      refine lv_iconst (v := 2) hx hb d_Steps_shift_102 (by decide) ?_
      refine lv_icmp_eq (tgt := 114) hx hb d_Steps_shift_103 (by decide) (fun c26 => ?_) (fun c26 => ?_)
      · have h := if_t c26 h
        exact b_114 M23 s0 _ _ _ h zs0 hwf hkp hP hD hS (lv_sub hl [1, 2, 3, 0] rfl)
      have h := if_f c26 h
      refine lv_aload_n hx hb d_Steps_shift_106 rfl (lv_at hl 2 rfl) ?_
      refine g_Cell_0 hx hb hts hown hK hP hwf hj1 (hts _ u_422) d_Steps_shift_107 ?_
      refine lv_iconst (v := 3) hx hb d_Steps_shift_110 (by decide) ?_
      refine lv_icmp_ne (tgt := 118) hx hb d_Steps_shift_111 (by decide) (fun c27 => ?_) (fun c27 => ?_)
      · have h := if_f c27 h
        refine lv_iconst (v := 0) hx hb d_Steps_shift_118 (by decide) ?_
        exact b_119 M23 s0 (0 : Int32) _ _ _ h zs0 (by decide) hwf hkp hP hD hS (lv_sub hl [1, 2, 3, 0] rfl)
      have h := if_t c27 h
      exact b_114 M23 s0 _ _ _ h zs0 hwf hkp hP hD hS (lv_sub hl [1, 2, 3, 0] rfl)
    have h := if_f c25 h
    refine lv_aload_n hx hb d_Steps_shift_24 rfl (lv_at hl 3 rfl) ?_
    refine g_Num_0 hx hb hts hown hK hP hwf hj2 (hts _ u_370) d_Steps_shift_25 ?_
    obtain ⟨v28, ev28, h⟩ := st_ob h
    refine fg_topl (y := v28) ev28.symm ?_
    refine lv_lstore (lv' := [(4, .long v28), (3, .int s0), (0, .ref (ad 7 j0)), (1, .ref (ad 10 j1)), (2, .ref (ad 11 j2))]) hx hb d_Steps_shift_28 hl (by decide) rfl (fun ls hl => ?_)
    refine lv_lload hx hb d_Steps_shift_30 (lv_at hl 0 rfl) ?_
    refine lv_ldc2 hx hb hown (hts _ u_1251) d_Steps_shift_32 ?_
    refine W.lcmp hx hb d_Steps_shift_35 ?_
    refine lv_if_lt (tgt := 48) hx hb d_Steps_shift_36 (by decide) (fun c29 => ?_) (fun c29 => ?_)
    · have h := if_t ((lg_cmp_lt _ _).mp c29) h
      refine lv_bipush (v := 11) hx hb d_Steps_shift_48 (by decide) ?_
      exact me_reti (me_kp M0) h hx hb hr hlocks hwf hkp hP hK hD hS d_Steps_shift_50
    have h := if_f (fun z => c29 ((lg_cmp_lt _ _).mpr z)) h
    refine lv_lload hx hb d_Steps_shift_39 (lv_at hl 0 rfl) ?_
    refine lv_ldc2 hx hb hown (hts _ u_1252) d_Steps_shift_41 ?_
    refine W.lcmp hx hb d_Steps_shift_44 ?_
    refine lv_if_le (tgt := 51) hx hb d_Steps_shift_45 (by decide) (fun c30 => ?_) (fun c30 => ?_)
    · have h := if_f (Int64.not_lt.mpr ((lg_cmp_le _ _).mp c30)) h
      refine lv_aload_n hx hb d_Steps_shift_51 rfl (lv_at hl 3 rfl) ?_
      refine g_Cell_1 hx hb hts hown hK hP hwf hj1 (hts _ u_425) d_Steps_shift_52 ?_
      refine lv_iload_n hx hb d_Steps_shift_55 rfl (lv_at hl 1 rfl) ?_
      refine lv_if_eq (tgt := 65) hx hb d_Steps_shift_56 (by decide) (fun c31 => ?_) (fun c31 => ?_)
      · have h := if_t c31 h
        refine lv_lload hx hb d_Steps_shift_65 (lv_at hl 0 rfl) ?_
        exact b_67 M23 v28 (mI M23 10 j1 1) _ _ _ h hwf hkp hP hD hS (lv_sub hl [3] rfl)
      have h := if_f c31 h
      refine lv_lload hx hb d_Steps_shift_59 (lv_at hl 0 rfl) ?_
      refine lv_lneg hx hb d_Steps_shift_61 ?_
      refine lv_goto (tgt := 67) hx hb d_Steps_shift_62 (by decide) ?_
      exact b_67 M23 (-v28) (mI M23 10 j1 1) _ _ _ h hwf hkp hP hD hS (lv_sub hl [3] rfl)
    have h := if_t (Int64.not_le.mp (fun z => c30 ((lg_cmp_le _ _).mpr z))) h
    refine lv_bipush (v := 11) hx hb d_Steps_shift_48 (by decide) ?_
    exact me_reti (me_kp M0) h hx hb hr hlocks hwf hkp hP hK hD hS d_Steps_shift_50
  refine lv_aload_n hx hb d_Steps_shift_0 rfl (lv_at hl 0 rfl) ?_
  refine g_Steps_0 hx hb hts hown hK hP hwf hj0 (hts _ u_455) d_Steps_shift_1 ?_
  obtain ⟨j32, e33, h⟩ := bd_ob h
  have hj32 : j32 < N 2 := (hwf.2.1 7 j0 0 _ e33 (by decide) hj0)
  refine me_opt (j := j32) e33 ?_
  refine g_Code_12 hx hb hts hown hK hP hwf hj32 (hts _ u_262) d_Steps_shift_4 ?_
  refine lv_iconst (v := 1) hx hb d_Steps_shift_7 (by decide) ?_
  refine lv_icmp_ne (tgt := 15) hx hb d_Steps_shift_8 (by decide) (fun c34 => ?_) (fun c34 => ?_)
  · have h := if_f c34 h
    refine lv_iconst (v := 0) hx hb d_Steps_shift_15 (by decide) ?_
    exact b_16 M0 (0 : Int32) _ _ _ h (by decide) hwf hkp hP hD hS (lv_sub hl [0, 1, 2] rfl)
  have h := if_t c34 h
  refine lv_iconst (v := 1) hx hb d_Steps_shift_11 (by decide) ?_
  refine lv_goto (tgt := 16) hx hb d_Steps_shift_12 (by decide) ?_
  exact b_16 M0 (1 : Int32) _ _ _ h (by decide) hwf hkp hP hD hS (lv_sub hl [0, 1, 2] rfl)
theorem d_Cell_isOfPacket_0 : decode prog_2_method_10_code 0 = .ok (.aload_n 0, 1) := by decide +kernel
theorem d_Cell_isOfPacket_1 : decode prog_2_method_10_code 1 = .ok (.getfield 18, 3) := by decide +kernel
theorem d_Cell_isOfPacket_4 : decode prog_2_method_10_code 4 = .ok (.iconst 4, 1) := by decide +kernel
theorem d_Cell_isOfPacket_5 : decode prog_2_method_10_code 5 = .ok (.if_icmp .eq 11, 3) := by decide +kernel
theorem d_Cell_isOfPacket_16 : decode prog_2_method_10_code 16 = .ok (.iconst 1, 1) := by decide +kernel
theorem d_Cell_isOfPacket_17 : decode prog_2_method_10_code 17 = .ok (.goto 4, 3) := by decide +kernel
theorem d_Cell_isOfPacket_21 : decode prog_2_method_10_code 21 = .ok (.ireturn, 1) := by decide +kernel
theorem d_Cell_isOfPacket_8 : decode prog_2_method_10_code 8 = .ok (.aload_n 0, 1) := by decide +kernel
theorem d_Cell_isOfPacket_9 : decode prog_2_method_10_code 9 = .ok (.getfield 18, 3) := by decide +kernel
theorem d_Cell_isOfPacket_12 : decode prog_2_method_10_code 12 = .ok (.iconst 5, 1) := by decide +kernel
theorem d_Cell_isOfPacket_13 : decode prog_2_method_10_code 13 = .ok (.if_icmp .ne 7, 3) := by decide +kernel
theorem d_Cell_isOfPacket_20 : decode prog_2_method_10_code 20 = .ok (.iconst 0, 1) := by decide +kernel
abbrev y_Cell_isOfPacket : MethodName := ⟨"FilterGuard$Cell", "isOfPacket", "()Z"⟩
def f_Cell_isOfPacket (M0 : me_M) (j0 : Nat) : Option (me_M × Int32) := (if (mI M0 10 j0 0) = 4 then some (M0, (1 : Int32)) else (if (mI M0 10 j0 0) = 5 then some (M0, (1 : Int32)) else some (M0, (0 : Int32))))
def rm_Cell_isOfPacket : Room := { frames := 1, cells := 0, slots := 0, locals := 20 }
abbrev q_Cell_isOfPacket (D : va_G) (ad : Nat → Nat → Nat) (ca : Nat → ClassId) (N : Nat → Nat) (M0 MZ : me_M) (RZ : Int32) (A : Nat → Prop) : Array Value → Jvm.State → Outcome → Jvm.State → Prop := va_Qi (fun r (_ : Unit) => r = RZ ∧ me_wf N MZ ∧ me_kp M0 MZ ∧ (RZ = 1 ∨ RZ = 0)) (fg_B D A (fun _ => me_W ad ca MZ) (fun _ => [])) A
set_option maxHeartbeats 4000000 in
set_option maxRecDepth 100000 in
theorem c_Cell_isOfPacket (l : Launch) (D : va_G) (ad : Nat → Nat → Nat) (ca : Nat → ClassId) (N : Nat → Nat) (M0 MZ : me_M) (RZ : Int32) (j0 : Nat) (h : f_Cell_isOfPacket M0 j0 = (some (MZ, RZ))) (hwf : me_wf N M0) (hj0 : j0 < N 10) (sz : Nat) : Met l y_Cell_isOfPacket (fg_w y_Cell_isOfPacket prog_2_method_10_code 1 (some .boolean)) rm_Cell_isOfPacket (va_Pc [.ref (ad 10 j0)] (fz_P D (me_T ca) (me_W ad ca M0) sz)) (q_Cell_isOfPacket D ad ca N M0 MZ RZ (va_A (me_W ad ca M0) sz)) rm_Cell_isOfPacket.cells rm_Cell_isOfPacket.slots (va_A (me_W ad ca M0) sz) := by
  refine fz_enter (fun A => q_Cell_isOfPacket D ad ca N M0 MZ RZ A) (by decide +kernel) (Nat.le_of_ble_eq_true rfl) ?_
  intro p e s m below meth c ls A hx hb hml hown hts hr hlocks hin hP hK hD hS hA hX hl hz
  have hl : lv_has ls 1 [(0, .ref (ad 10 j0))] := hl
  unfold f_Cell_isOfPacket at h
  have hkp : me_kp M0 M0 := me_kp.rf
  have hkb := hkp
  refine lv_aload_n hx hb d_Cell_isOfPacket_0 rfl (lv_at hl 0 rfl) ?_
  refine g_Cell_0 hx hb hts hown hK hP hwf hj0 (hts _ u_420) d_Cell_isOfPacket_1 ?_
  refine lv_iconst (v := 4) hx hb d_Cell_isOfPacket_4 (by decide) ?_
  refine lv_icmp_eq (tgt := 16) hx hb d_Cell_isOfPacket_5 (by decide) (fun c1 => ?_) (fun c1 => ?_)
  · have h := if_t c1 h
    refine lv_iconst (v := 1) hx hb d_Cell_isOfPacket_16 (by decide) ?_
    refine lv_goto (tgt := 21) hx hb d_Cell_isOfPacket_17 (by decide) ?_
    exact me_retz (me_kp M0) h (by decide) hx hb hr hlocks hwf hkp hP hK hD hS d_Cell_isOfPacket_21
  have h := if_f c1 h
  refine lv_aload_n hx hb d_Cell_isOfPacket_8 rfl (lv_at hl 0 rfl) ?_
  refine g_Cell_0 hx hb hts hown hK hP hwf hj0 (hts _ u_420) d_Cell_isOfPacket_9 ?_
  refine lv_iconst (v := 5) hx hb d_Cell_isOfPacket_12 (by decide) ?_
  refine lv_icmp_ne (tgt := 20) hx hb d_Cell_isOfPacket_13 (by decide) (fun c2 => ?_) (fun c2 => ?_)
  · have h := if_f c2 h
    refine lv_iconst (v := 0) hx hb d_Cell_isOfPacket_20 (by decide) ?_
    exact me_retz (me_kp M0) h (by decide) hx hb hr hlocks hwf hkp hP hK hD hS d_Cell_isOfPacket_21
  have h := if_t c2 h
  refine lv_iconst (v := 1) hx hb d_Cell_isOfPacket_16 (by decide) ?_
  refine lv_goto (tgt := 21) hx hb d_Cell_isOfPacket_17 (by decide) ?_
  exact me_retz (me_kp M0) h (by decide) hx hb hr hlocks hwf hkp hP hK hD hS d_Cell_isOfPacket_21
theorem d_Cell_becomeAny_0 : decode prog_2_method_5_code 0 = .ok (.aload_n 0, 1) := by decide +kernel
theorem d_Cell_becomeAny_1 : decode prog_2_method_5_code 1 = .ok (.iconst 1, 1) := by decide +kernel
theorem d_Cell_becomeAny_2 : decode prog_2_method_5_code 2 = .ok (.putfield 18, 3) := by decide +kernel
theorem d_Cell_becomeAny_5 : decode prog_2_method_5_code 5 = .ok (.aload_n 0, 1) := by decide +kernel
theorem d_Cell_becomeAny_6 : decode prog_2_method_5_code 6 = .ok (.getfield 12, 3) := by decide +kernel
theorem d_Cell_becomeAny_9 : decode prog_2_method_5_code 9 = .ok (.invokevirtual 45, 3) := by decide +kernel
theorem u_1270 : Cond.methodLink "FilterGuard$Cell" 45 ⟨"FilterGuard$Num", "any", "()V"⟩ ∈ fg_g := fg_in (List.mem_of_getElem? (i := 1270) (by decide +kernel)) rfl
theorem d_Cell_becomeAny_12 : decode prog_2_method_5_code 12 = .ok (.return_, 1) := by decide +kernel
abbrev y_Cell_becomeAny : MethodName := ⟨"FilterGuard$Cell", "becomeAny", "()V"⟩
def f_Cell_becomeAny (M0 : me_M) (j0 : Nat) : Option me_M := st (wI M0 10 j0 0 1) (fun (M1 : me_M) => bd (mR M0 10 j0 6) (fun (j2 : Nat) => bd (f_Num_any M1 j2) (fun (M4 : me_M) => some M4)))
def rm_Cell_becomeAny : Room := { frames := 2, cells := 0, slots := 0, locals := 40 }
abbrev q_Cell_becomeAny (D : va_G) (ad : Nat → Nat → Nat) (ca : Nat → ClassId) (N : Nat → Nat) (M0 MZ : me_M) (A : Nat → Prop) : Array Value → Jvm.State → Outcome → Jvm.State → Prop := va_Qv (fun (_ : Unit) => me_wf N MZ ∧ me_kp M0 MZ) (fg_B D A (fun _ => me_W ad ca MZ) (fun _ => [])) A
set_option maxHeartbeats 4000000 in
set_option maxRecDepth 100000 in
theorem c_Cell_becomeAny (l : Launch) (D : va_G) (ad : Nat → Nat → Nat) (ca : Nat → ClassId) (N : Nat → Nat) (M0 MZ : me_M) (j0 : Nat) (h : f_Cell_becomeAny M0 j0 = (some MZ)) (hwf : me_wf N M0) (hj0 : j0 < N 10) (sz : Nat) : Met l y_Cell_becomeAny (fg_w y_Cell_becomeAny prog_2_method_5_code 1 none) rm_Cell_becomeAny (va_Pc [.ref (ad 10 j0)] (fz_P D (me_T ca) (me_W ad ca M0) sz)) (q_Cell_becomeAny D ad ca N M0 MZ (va_A (me_W ad ca M0) sz)) rm_Cell_becomeAny.cells rm_Cell_becomeAny.slots (va_A (me_W ad ca M0) sz) := by
  refine fz_enter (fun A => q_Cell_becomeAny D ad ca N M0 MZ A) (by decide +kernel) (Nat.le_of_ble_eq_true rfl) ?_
  intro p e s m below meth c ls A hx hb hml hown hts hr hlocks hin hP hK hD hS hA hX hl hz
  have hl : lv_has ls 1 [(0, .ref (ad 10 j0))] := hl
  unfold f_Cell_becomeAny at h
  have hkp : me_kp M0 M0 := me_kp.rf
  have hkb := hkp
  refine lv_aload_n hx hb d_Cell_becomeAny_0 rfl (lv_at hl 0 rfl) ?_
  refine lv_iconst (v := 1) hx hb d_Cell_becomeAny_1 (by decide) ?_
  obtain ⟨M1, eM1, h⟩ := st_ob h
  refine p_Cell_0 eM1 hx hb hts hown hK hP hD hwf hS hj0 (hts _ u_420) d_Cell_becomeAny_2 (fun H locs hP hD hwf hS => ?_)
  have hkp := kp_I eM1 hkp
  refine lv_aload_n hx hb d_Cell_becomeAny_5 rfl (lv_at hl 0 rfl) ?_
  refine g_Cell_6 hx hb hts hown hK hP hwf hj0 (hts _ u_435) d_Cell_becomeAny_6 ?_
  obtain ⟨j2, e3, h⟩ := bd_ob h
  have hj2 : j2 < N 11 := (hwf.2.1 10 j0 6 _ (kp_r hkb hkp e3) (by decide) hj0)
  refine me_opt (j := j2) (kp_r hkb hkp e3) ?_
  obtain ⟨M4, eM4, h⟩ := bd_ob h
  refine me_thenv0 (M1 := M4) (me_runV (C := "FilterGuard$Num") (As := []) (rest := []) ⟨hx, hb, hml, hown, hts⟩ (c_Num_any l D ad ca N M1 M4 j2 eM4 hwf hj2 _) rfl (by show fg_nm y_Num_any 0; decide +kernel) u_1270 u_1131 u_1132 u_187 u_1133 ⟨Nat.le_of_ble_eq_true rfl, Nat.le_of_ble_eq_true rfl⟩ hX hz hK hP hD hwf hS hA hj2 (by decide) rfl rfl rfl hl.1 (Nat.le_of_ble_eq_true rfl) d_Cell_becomeAny_9 ⟨Nat.le_of_ble_eq_true rfl, Nat.le_of_ble_eq_true rfl⟩) hP hD hK hS hA rfl rfl (fun H locs hw hP hD hS => ?_)
  obtain ⟨hwf, hk9⟩ := hw
  have hkp := hkp.tr hk9
  exact me_retv (me_kp M0) h hx hb hr hlocks hwf hkp hP hK hD hS d_Cell_becomeAny_12
theorem d_Steps_arithmetic_234 : decode prog_11_method_6_code 234 = .ok (.istore_n 3, 1) := by decide +kernel
theorem d_Steps_arithmetic_235 : decode prog_11_method_6_code 235 = .ok (.aload_n 0, 1) := by decide +kernel
theorem d_Steps_arithmetic_236 : decode prog_11_method_6_code 236 = .ok (.getfield 44, 3) := by decide +kernel
theorem d_Steps_arithmetic_239 : decode prog_11_method_6_code 239 = .ok (.getfield 133, 3) := by decide +kernel
theorem d_Steps_arithmetic_242 : decode prog_11_method_6_code 242 = .ok (.iconst 1, 1) := by decide +kernel
theorem d_Steps_arithmetic_243 : decode prog_11_method_6_code 243 = .ok (.if_icmp .ne 7, 3) := by decide +kernel
theorem d_Steps_arithmetic_250 : decode prog_11_method_6_code 250 = .ok (.bipush 11, 2) := by decide +kernel
theorem d_Steps_arithmetic_252 : decode prog_11_method_6_code 252 = .ok (.ireturn, 1) := by decide +kernel
theorem d_Steps_arithmetic_246 : decode prog_11_method_6_code 246 = .ok (.iload_n 3, 1) := by decide +kernel
theorem d_Steps_arithmetic_247 : decode prog_11_method_6_code 247 = .ok (.ifCond .ne 6, 3) := by decide +kernel
theorem d_Steps_arithmetic_253 : decode prog_11_method_6_code 253 = .ok (.aload_n 1, 1) := by decide +kernel
theorem d_Steps_arithmetic_254 : decode prog_11_method_6_code 254 = .ok (.invokevirtual 164, 3) := by decide +kernel
theorem u_1266 : Cond.methodLink "FilterGuard$Steps" 164 ⟨"FilterGuard$Cell", "becomeAny", "()V"⟩ ∈ fg_g := fg_in (List.mem_of_getElem? (i := 1266) (by decide +kernel)) rfl
theorem u_1269 : Cond.code ⟨"FilterGuard$Cell", "becomeAny", "()V"⟩ prog_2_method_5_code 1 none ∈ fg_g := fg_in (List.mem_of_getElem? (i := 1269) (by decide +kernel)) rfl
theorem u_1267 : Cond.instanceMethod ⟨"FilterGuard$Cell", "becomeAny", "()V"⟩ ∈ fg_g := fg_in (List.mem_of_getElem? (i := 1267) (by decide +kernel)) rfl
theorem u_1268 : Cond.selects "FilterGuard$Cell" ⟨"FilterGuard$Cell", "becomeAny", "()V"⟩ ⟨"FilterGuard$Cell", "becomeAny", "()V"⟩ ∈ fg_g := fg_in (List.mem_of_getElem? (i := 1268) (by decide +kernel)) rfl
theorem d_Steps_arithmetic_257 : decode prog_11_method_6_code 257 = .ok (.iconst 0, 1) := by decide +kernel
theorem d_Steps_arithmetic_258 : decode prog_11_method_6_code 258 = .ok (.ireturn, 1) := by decide +kernel
theorem d_Steps_arithmetic_233 : decode prog_11_method_6_code 233 = .ok (.iconst 0, 1) := by decide +kernel
theorem d_Steps_arithmetic_215 : decode prog_11_method_6_code 215 = .ok (.aload_n 1, 1) := by decide +kernel
theorem d_Steps_arithmetic_216 : decode prog_11_method_6_code 216 = .ok (.invokevirtual 161, 3) := by decide +kernel
theorem u_1262 : Cond.methodLink "FilterGuard$Steps" 161 ⟨"FilterGuard$Cell", "isOfPacket", "()Z"⟩ ∈ fg_g := fg_in (List.mem_of_getElem? (i := 1262) (by decide +kernel)) rfl
theorem u_1265 : Cond.code ⟨"FilterGuard$Cell", "isOfPacket", "()Z"⟩ prog_2_method_10_code 1 (some .boolean) ∈ fg_g := fg_in (List.mem_of_getElem? (i := 1265) (by decide +kernel)) rfl
theorem u_1263 : Cond.instanceMethod ⟨"FilterGuard$Cell", "isOfPacket", "()Z"⟩ ∈ fg_g := fg_in (List.mem_of_getElem? (i := 1263) (by decide +kernel)) rfl
theorem u_1264 : Cond.selects "FilterGuard$Cell" ⟨"FilterGuard$Cell", "isOfPacket", "()Z"⟩ ⟨"FilterGuard$Cell", "isOfPacket", "()Z"⟩ ∈ fg_g := fg_in (List.mem_of_getElem? (i := 1264) (by decide +kernel)) rfl
theorem d_Steps_arithmetic_219 : decode prog_11_method_6_code 219 = .ok (.ifCond .eq 14, 3) := by decide +kernel
theorem d_Steps_arithmetic_222 : decode prog_11_method_6_code 222 = .ok (.aload_n 2, 1) := by decide +kernel
theorem d_Steps_arithmetic_223 : decode prog_11_method_6_code 223 = .ok (.invokevirtual 161, 3) := by decide +kernel
theorem d_Steps_arithmetic_226 : decode prog_11_method_6_code 226 = .ok (.ifCond .eq 7, 3) := by decide +kernel
theorem d_Steps_arithmetic_229 : decode prog_11_method_6_code 229 = .ok (.iconst 1, 1) := by decide +kernel
theorem d_Steps_arithmetic_230 : decode prog_11_method_6_code 230 = .ok (.goto 4, 3) := by decide +kernel
theorem d_Steps_arithmetic_164 : decode prog_11_method_6_code 164 = .ok (.aload_n 0, 1) := by decide +kernel
theorem d_Steps_arithmetic_165 : decode prog_11_method_6_code 165 = .ok (.getfield 44, 3) := by decide +kernel
theorem d_Steps_arithmetic_168 : decode prog_11_method_6_code 168 = .ok (.getfield 133, 3) := by decide +kernel
theorem d_Steps_arithmetic_171 : decode prog_11_method_6_code 171 = .ok (.ifCond .ne 44, 3) := by decide +kernel
theorem d_Steps_arithmetic_174 : decode prog_11_method_6_code 174 = .ok (.aload_n 1, 1) := by decide +kernel
theorem d_Steps_arithmetic_175 : decode prog_11_method_6_code 175 = .ok (.getfield 76, 3) := by decide +kernel
theorem d_Steps_arithmetic_178 : decode prog_11_method_6_code 178 = .ok (.iconst 1, 1) := by decide +kernel
theorem d_Steps_arithmetic_179 : decode prog_11_method_6_code 179 = .ok (.if_icmp .ne 36, 3) := by decide +kernel
theorem d_Steps_arithmetic_182 : decode prog_11_method_6_code 182 = .ok (.aload_n 2, 1) := by decide +kernel
theorem d_Steps_arithmetic_183 : decode prog_11_method_6_code 183 = .ok (.invokevirtual 150, 3) := by decide +kernel
theorem u_1242 : Cond.methodLink "FilterGuard$Steps" 150 ⟨"FilterGuard$Cell", "isPointer", "()Z"⟩ ∈ fg_g := fg_in (List.mem_of_getElem? (i := 1242) (by decide +kernel)) rfl
theorem u_1245 : Cond.code ⟨"FilterGuard$Cell", "isPointer", "()Z"⟩ prog_2_method_8_code 1 (some .boolean) ∈ fg_g := fg_in (List.mem_of_getElem? (i := 1245) (by decide +kernel)) rfl
theorem u_1243 : Cond.instanceMethod ⟨"FilterGuard$Cell", "isPointer", "()Z"⟩ ∈ fg_g := fg_in (List.mem_of_getElem? (i := 1243) (by decide +kernel)) rfl
theorem u_1244 : Cond.selects "FilterGuard$Cell" ⟨"FilterGuard$Cell", "isPointer", "()Z"⟩ ⟨"FilterGuard$Cell", "isPointer", "()Z"⟩ ∈ fg_g := fg_in (List.mem_of_getElem? (i := 1244) (by decide +kernel)) rfl
theorem d_Steps_arithmetic_186 : decode prog_11_method_6_code 186 = .ok (.ifCond .eq 29, 3) := by decide +kernel
theorem d_Steps_arithmetic_189 : decode prog_11_method_6_code 189 = .ok (.aload_n 0, 1) := by decide +kernel
theorem d_Steps_arithmetic_190 : decode prog_11_method_6_code 190 = .ok (.getfield 28, 3) := by decide +kernel
theorem g_Steps_4 {p : Program} {l : Launch} {e : Env} {R : Room} {s : Jvm.State} {m : MethodId} {args : Array Value} {below : List Frame} {meth : Method} {c : Code} {H : Heap} {locs : List Loc} {cells slots : Nat} {Q : Jvm.State → Prop} {cc : ByteArray} {pc : Nat} {ls : Array Slot} {rest : List Value} {D : va_G} {ad : Nat → Nat → Nat} {ca : Nat → ClassId} {M : me_M} {N : Nat → Nat} {own : String} {index j : Nat} (hexec : p.tables.exec = Jvm.exec) (hb : c.code = cc) (hts : ∀ w ∈ fg_g, w.before args s = true) (hown : s.vm.findClass own = some m.cls) (hK : va_K D classes (me_T ca) s) (hP : va_P D classes (me_W ad ca M) H) (hwf : me_wf N M) (hj : j < N 7) (hlink : (Cond.fieldLink own index "FilterGuard$Steps" "moreNumber" "LFilterGuard$Num;").before args s = true) (hdg : decode cc pc = .ok (.getfield index, 3)) (kk : W p l e R s m args below meth c H locs cells slots Q (F0 m (pc + 3) ls (va_rf ((mR M 7 j 4).map (ad 11)) :: rest))) : W p l e R s m args below meth c H locs cells slots Q (F0 m pc ls (.ref (ad 7 j) :: rest)) := me_get (k := 7) (f := 4) (C := "FilterGuard$Steps") (T := F_Steps) (Nf := 19) hexec hb hts i_Steps hown hK hP hwf hj (by decide) rfl (by decide) (by decide) hlink (fun _ h9 => h9) hdg kk
theorem d_Steps_arithmetic_193 : decode prog_11_method_6_code 193 = .ok (.aload_n 1, 1) := by decide +kernel
theorem d_Steps_arithmetic_194 : decode prog_11_method_6_code 194 = .ok (.getfield 143, 3) := by decide +kernel
theorem d_Steps_arithmetic_197 : decode prog_11_method_6_code 197 = .ok (.invokevirtual 158, 3) := by decide +kernel
theorem u_1261 : Cond.methodLink "FilterGuard$Steps" 158 ⟨"FilterGuard$Num", "copy", "(LFilterGuard$Num;)V"⟩ ∈ fg_g := fg_in (List.mem_of_getElem? (i := 1261) (by decide +kernel)) rfl
theorem d_Steps_arithmetic_200 : decode prog_11_method_6_code 200 = .ok (.aload_n 1, 1) := by decide +kernel
theorem d_Steps_arithmetic_201 : decode prog_11_method_6_code 201 = .ok (.aload_n 2, 1) := by decide +kernel
theorem d_Steps_arithmetic_202 : decode prog_11_method_6_code 202 = .ok (.invokevirtual 139, 3) := by decide +kernel
theorem u_1121 : Cond.methodLink "FilterGuard$Steps" 139 ⟨"FilterGuard$Cell", "copy", "(LFilterGuard$Cell;)V"⟩ ∈ fg_g := fg_in (List.mem_of_getElem? (i := 1121) (by decide +kernel)) rfl
theorem d_Steps_arithmetic_205 : decode prog_11_method_6_code 205 = .ok (.aload_n 0, 1) := by decide +kernel
theorem d_Steps_arithmetic_206 : decode prog_11_method_6_code 206 = .ok (.aload_n 1, 1) := by decide +kernel
theorem d_Steps_arithmetic_207 : decode prog_11_method_6_code 207 = .ok (.aload_n 0, 1) := by decide +kernel
theorem d_Steps_arithmetic_208 : decode prog_11_method_6_code 208 = .ok (.getfield 28, 3) := by decide +kernel
theorem d_Steps_arithmetic_211 : decode prog_11_method_6_code 211 = .ok (.invokevirtual 154, 3) := by decide +kernel
theorem u_1246 : Cond.methodLink "FilterGuard$Steps" 154 ⟨"FilterGuard$Steps", "shift", "(LFilterGuard$Cell;LFilterGuard$Num;)I"⟩ ∈ fg_g := fg_in (List.mem_of_getElem? (i := 1246) (by decide +kernel)) rfl
theorem u_1249 : Cond.code ⟨"FilterGuard$Steps", "shift", "(LFilterGuard$Cell;LFilterGuard$Num;)I"⟩ prog_11_method_7_code 7 (some .int) ∈ fg_g := fg_in (List.mem_of_getElem? (i := 1249) (by decide +kernel)) rfl
theorem u_1248 : Cond.instanceMethod ⟨"FilterGuard$Steps", "shift", "(LFilterGuard$Cell;LFilterGuard$Num;)I"⟩ ∈ fg_g := fg_in (List.mem_of_getElem? (i := 1248) (by decide +kernel)) rfl
theorem u_27 : Cond.selects "FilterGuard$Steps" ⟨"FilterGuard$Steps", "shift", "(LFilterGuard$Cell;LFilterGuard$Num;)I"⟩ ⟨"FilterGuard$Steps", "shift", "(LFilterGuard$Cell;LFilterGuard$Num;)I"⟩ ∈ fg_g := fg_in (List.mem_of_getElem? (i := 27) (by decide +kernel)) rfl
theorem d_Steps_arithmetic_214 : decode prog_11_method_6_code 214 = .ok (.ireturn, 1) := by decide +kernel
theorem d_Steps_arithmetic_115 : decode prog_11_method_6_code 115 = .ok (.aload_n 0, 1) := by decide +kernel
theorem d_Steps_arithmetic_116 : decode prog_11_method_6_code 116 = .ok (.getfield 44, 3) := by decide +kernel
theorem d_Steps_arithmetic_119 : decode prog_11_method_6_code 119 = .ok (.getfield 136, 3) := by decide +kernel
theorem u_266 : Cond.fieldLink "FilterGuard$Steps" 136 "FilterGuard$Code" "isNarrow" "Z" ∈ fg_g := fg_in (List.mem_of_getElem? (i := 266) (by decide +kernel)) rfl
theorem d_Steps_arithmetic_122 : decode prog_11_method_6_code 122 = .ok (.ifCond .ne 14, 3) := by decide +kernel
theorem d_Steps_arithmetic_136 : decode prog_11_method_6_code 136 = .ok (.bipush 11, 2) := by decide +kernel
theorem d_Steps_arithmetic_138 : decode prog_11_method_6_code 138 = .ok (.ireturn, 1) := by decide +kernel
theorem d_Steps_arithmetic_125 : decode prog_11_method_6_code 125 = .ok (.aload_n 0, 1) := by decide +kernel
theorem d_Steps_arithmetic_126 : decode prog_11_method_6_code 126 = .ok (.getfield 44, 3) := by decide +kernel
theorem d_Steps_arithmetic_129 : decode prog_11_method_6_code 129 = .ok (.getfield 133, 3) := by decide +kernel
theorem d_Steps_arithmetic_132 : decode prog_11_method_6_code 132 = .ok (.iconst 1, 1) := by decide +kernel
theorem d_Steps_arithmetic_133 : decode prog_11_method_6_code 133 = .ok (.if_icmp .le 6, 3) := by decide +kernel
theorem d_Steps_arithmetic_139 : decode prog_11_method_6_code 139 = .ok (.aload_n 1, 1) := by decide +kernel
theorem d_Steps_arithmetic_140 : decode prog_11_method_6_code 140 = .ok (.invokevirtual 150, 3) := by decide +kernel
theorem d_Steps_arithmetic_143 : decode prog_11_method_6_code 143 = .ok (.ifCond .eq 21, 3) := by decide +kernel
theorem d_Steps_arithmetic_146 : decode prog_11_method_6_code 146 = .ok (.aload_n 2, 1) := by decide +kernel
theorem d_Steps_arithmetic_147 : decode prog_11_method_6_code 147 = .ok (.getfield 76, 3) := by decide +kernel
theorem d_Steps_arithmetic_150 : decode prog_11_method_6_code 150 = .ok (.iconst 1, 1) := by decide +kernel
theorem d_Steps_arithmetic_151 : decode prog_11_method_6_code 151 = .ok (.if_icmp .ne 13, 3) := by decide +kernel
theorem d_Steps_arithmetic_154 : decode prog_11_method_6_code 154 = .ok (.aload_n 0, 1) := by decide +kernel
theorem d_Steps_arithmetic_155 : decode prog_11_method_6_code 155 = .ok (.aload_n 1, 1) := by decide +kernel
theorem d_Steps_arithmetic_156 : decode prog_11_method_6_code 156 = .ok (.aload_n 2, 1) := by decide +kernel
theorem d_Steps_arithmetic_157 : decode prog_11_method_6_code 157 = .ok (.getfield 143, 3) := by decide +kernel
theorem d_Steps_arithmetic_160 : decode prog_11_method_6_code 160 = .ok (.invokevirtual 154, 3) := by decide +kernel
theorem d_Steps_arithmetic_163 : decode prog_11_method_6_code 163 = .ok (.ireturn, 1) := by decide +kernel
theorem d_Steps_arithmetic_75 : decode prog_11_method_6_code 75 = .ok (.aload_n 1, 1) := by decide +kernel
theorem d_Steps_arithmetic_76 : decode prog_11_method_6_code 76 = .ok (.iconst 1, 1) := by decide +kernel
theorem d_Steps_arithmetic_77 : decode prog_11_method_6_code 77 = .ok (.putfield 76, 3) := by decide +kernel
theorem d_Steps_arithmetic_80 : decode prog_11_method_6_code 80 = .ok (.aload_n 0, 1) := by decide +kernel
theorem d_Steps_arithmetic_81 : decode prog_11_method_6_code 81 = .ok (.getfield 12, 3) := by decide +kernel
theorem d_Steps_arithmetic_84 : decode prog_11_method_6_code 84 = .ok (.aload_n 0, 1) := by decide +kernel
theorem d_Steps_arithmetic_85 : decode prog_11_method_6_code 85 = .ok (.getfield 44, 3) := by decide +kernel
theorem d_Steps_arithmetic_88 : decode prog_11_method_6_code 88 = .ok (.getfield 133, 3) := by decide +kernel
theorem d_Steps_arithmetic_91 : decode prog_11_method_6_code 91 = .ok (.aload_n 1, 1) := by decide +kernel
theorem d_Steps_arithmetic_92 : decode prog_11_method_6_code 92 = .ok (.getfield 143, 3) := by decide +kernel
theorem d_Steps_arithmetic_95 : decode prog_11_method_6_code 95 = .ok (.aload_n 2, 1) := by decide +kernel
theorem d_Steps_arithmetic_96 : decode prog_11_method_6_code 96 = .ok (.getfield 143, 3) := by decide +kernel
theorem d_Steps_arithmetic_99 : decode prog_11_method_6_code 99 = .ok (.aload_n 0, 1) := by decide +kernel
theorem d_Steps_arithmetic_100 : decode prog_11_method_6_code 100 = .ok (.getfield 44, 3) := by decide +kernel
theorem d_Steps_arithmetic_103 : decode prog_11_method_6_code 103 = .ok (.getfield 136, 3) := by decide +kernel
theorem d_Steps_arithmetic_106 : decode prog_11_method_6_code 106 = .ok (.aload_n 1, 1) := by decide +kernel
theorem d_Steps_arithmetic_107 : decode prog_11_method_6_code 107 = .ok (.getfield 143, 3) := by decide +kernel
theorem d_Steps_arithmetic_110 : decode prog_11_method_6_code 110 = .ok (.invokevirtual 146, 3) := by decide +kernel
theorem u_1122 : Cond.methodLink "FilterGuard$Steps" 146 ⟨"FilterGuard$Reckoner", "operate", "(ILFilterGuard$Num;LFilterGuard$Num;ZLFilterGuard$Num;)V"⟩ ∈ fg_g := fg_in (List.mem_of_getElem? (i := 1122) (by decide +kernel)) rfl
theorem u_1125 : Cond.code ⟨"FilterGuard$Reckoner", "operate", "(ILFilterGuard$Num;LFilterGuard$Num;ZLFilterGuard$Num;)V"⟩ prog_9_method_4_code 7 none ∈ fg_g := fg_in (List.mem_of_getElem? (i := 1125) (by decide +kernel)) rfl
theorem u_1123 : Cond.instanceMethod ⟨"FilterGuard$Reckoner", "operate", "(ILFilterGuard$Num;LFilterGuard$Num;ZLFilterGuard$Num;)V"⟩ ∈ fg_g := fg_in (List.mem_of_getElem? (i := 1123) (by decide +kernel)) rfl
theorem u_1124 : Cond.selects "FilterGuard$Reckoner" ⟨"FilterGuard$Reckoner", "operate", "(ILFilterGuard$Num;LFilterGuard$Num;ZLFilterGuard$Num;)V"⟩ ⟨"FilterGuard$Reckoner", "operate", "(ILFilterGuard$Num;LFilterGuard$Num;ZLFilterGuard$Num;)V"⟩ ∈ fg_g := fg_in (List.mem_of_getElem? (i := 1124) (by decide +kernel)) rfl
theorem d_Steps_arithmetic_113 : decode prog_11_method_6_code 113 = .ok (.iconst 0, 1) := by decide +kernel
theorem d_Steps_arithmetic_114 : decode prog_11_method_6_code 114 = .ok (.ireturn, 1) := by decide +kernel
theorem d_Steps_arithmetic_47 : decode prog_11_method_6_code 47 = .ok (.aload_n 2, 1) := by decide +kernel
theorem d_Steps_arithmetic_48 : decode prog_11_method_6_code 48 = .ok (.getfield 76, 3) := by decide +kernel
theorem d_Steps_arithmetic_51 : decode prog_11_method_6_code 51 = .ok (.iconst 1, 1) := by decide +kernel
theorem d_Steps_arithmetic_52 : decode prog_11_method_6_code 52 = .ok (.if_icmp .ne 63, 3) := by decide +kernel
theorem d_Steps_arithmetic_55 : decode prog_11_method_6_code 55 = .ok (.aload_n 1, 1) := by decide +kernel
theorem d_Steps_arithmetic_56 : decode prog_11_method_6_code 56 = .ok (.getfield 76, 3) := by decide +kernel
theorem d_Steps_arithmetic_59 : decode prog_11_method_6_code 59 = .ok (.iconst 1, 1) := by decide +kernel
theorem d_Steps_arithmetic_60 : decode prog_11_method_6_code 60 = .ok (.if_icmp .eq 15, 3) := by decide +kernel
theorem d_Steps_arithmetic_63 : decode prog_11_method_6_code 63 = .ok (.aload_n 0, 1) := by decide +kernel
theorem d_Steps_arithmetic_64 : decode prog_11_method_6_code 64 = .ok (.getfield 44, 3) := by decide +kernel
theorem d_Steps_arithmetic_67 : decode prog_11_method_6_code 67 = .ok (.getfield 133, 3) := by decide +kernel
theorem d_Steps_arithmetic_70 : decode prog_11_method_6_code 70 = .ok (.bipush 12, 2) := by decide +kernel
theorem d_Steps_arithmetic_72 : decode prog_11_method_6_code 72 = .ok (.if_icmp .ne 43, 3) := by decide +kernel
theorem d_Steps_arithmetic_0 : decode prog_11_method_6_code 0 = .ok (.aload_n 0, 1) := by decide +kernel
theorem d_Steps_arithmetic_1 : decode prog_11_method_6_code 1 = .ok (.getfield 66, 3) := by decide +kernel
theorem d_Steps_arithmetic_4 : decode prog_11_method_6_code 4 = .ok (.aload_n 0, 1) := by decide +kernel
theorem d_Steps_arithmetic_5 : decode prog_11_method_6_code 5 = .ok (.getfield 44, 3) := by decide +kernel
theorem d_Steps_arithmetic_8 : decode prog_11_method_6_code 8 = .ok (.getfield 73, 3) := by decide +kernel
theorem d_Steps_arithmetic_11 : decode prog_11_method_6_code 11 = .ok (.aaload, 1) := by decide +kernel
theorem d_Steps_arithmetic_12 : decode prog_11_method_6_code 12 = .ok (.astore_n 1, 1) := by decide +kernel
theorem d_Steps_arithmetic_13 : decode prog_11_method_6_code 13 = .ok (.aload_n 0, 1) := by decide +kernel
theorem d_Steps_arithmetic_14 : decode prog_11_method_6_code 14 = .ok (.invokevirtual 129, 3) := by decide +kernel
theorem u_1113 : Cond.methodLink "FilterGuard$Steps" 129 ⟨"FilterGuard$Steps", "operand", "()LFilterGuard$Cell;"⟩ ∈ fg_g := fg_in (List.mem_of_getElem? (i := 1113) (by decide +kernel)) rfl
theorem u_1116 : Cond.code ⟨"FilterGuard$Steps", "operand", "()LFilterGuard$Cell;"⟩ prog_11_method_5_code 1 (some (.object "FilterGuard$Cell")) ∈ fg_g := fg_in (List.mem_of_getElem? (i := 1116) (by decide +kernel)) rfl
theorem u_1115 : Cond.instanceMethod ⟨"FilterGuard$Steps", "operand", "()LFilterGuard$Cell;"⟩ ∈ fg_g := fg_in (List.mem_of_getElem? (i := 1115) (by decide +kernel)) rfl
theorem u_18 : Cond.selects "FilterGuard$Steps" ⟨"FilterGuard$Steps", "operand", "()LFilterGuard$Cell;"⟩ ⟨"FilterGuard$Steps", "operand", "()LFilterGuard$Cell;"⟩ ∈ fg_g := fg_in (List.mem_of_getElem? (i := 18) (by decide +kernel)) rfl
theorem d_Steps_arithmetic_17 : decode prog_11_method_6_code 17 = .ok (.astore_n 2, 1) := by decide +kernel
theorem d_Steps_arithmetic_18 : decode prog_11_method_6_code 18 = .ok (.aload_n 0, 1) := by decide +kernel
theorem d_Steps_arithmetic_19 : decode prog_11_method_6_code 19 = .ok (.getfield 44, 3) := by decide +kernel
theorem d_Steps_arithmetic_22 : decode prog_11_method_6_code 22 = .ok (.getfield 133, 3) := by decide +kernel
theorem d_Steps_arithmetic_25 : decode prog_11_method_6_code 25 = .ok (.bipush 12, 2) := by decide +kernel
theorem d_Steps_arithmetic_27 : decode prog_11_method_6_code 27 = .ok (.if_icmp .ne 20, 3) := by decide +kernel
theorem d_Steps_arithmetic_30 : decode prog_11_method_6_code 30 = .ok (.aload_n 0, 1) := by decide +kernel
theorem d_Steps_arithmetic_31 : decode prog_11_method_6_code 31 = .ok (.getfield 44, 3) := by decide +kernel
theorem d_Steps_arithmetic_34 : decode prog_11_method_6_code 34 = .ok (.getfield 136, 3) := by decide +kernel
theorem d_Steps_arithmetic_37 : decode prog_11_method_6_code 37 = .ok (.ifCond .ne 10, 3) := by decide +kernel
theorem d_Steps_arithmetic_40 : decode prog_11_method_6_code 40 = .ok (.aload_n 1, 1) := by decide +kernel
theorem d_Steps_arithmetic_41 : decode prog_11_method_6_code 41 = .ok (.aload_n 2, 1) := by decide +kernel
theorem d_Steps_arithmetic_42 : decode prog_11_method_6_code 42 = .ok (.invokevirtual 139, 3) := by decide +kernel
theorem d_Steps_arithmetic_45 : decode prog_11_method_6_code 45 = .ok (.iconst 0, 1) := by decide +kernel
theorem d_Steps_arithmetic_46 : decode prog_11_method_6_code 46 = .ok (.ireturn, 1) := by decide +kernel
abbrev y_Steps_arithmetic : MethodName := ⟨"FilterGuard$Steps", "arithmetic", "()I"⟩
def f_Steps_arithmetic_b234 (j0 : Nat) (M : me_M) (y1 : Nat) (s0 : Int32) : Option (me_M × Int32) := bd (mR M 7 j0 0) (fun (j1 : Nat) => (if (mI M 2 j1 12) = 1 then (if s0 = 0 then some (M, (11 : Int32)) else bd (f_Cell_becomeAny M y1) (fun (M5 : me_M) => some (M5, (0 : Int32)))) else some (M, (11 : Int32))))
def f_Steps_arithmetic_b233 (j0 : Nat) (M : me_M) (y1 : Nat) : Option (me_M × Int32) := f_Steps_arithmetic_b234 j0 M y1 (0 : Int32)
def f_Steps_arithmetic_b215 (j0 : Nat) (M : me_M) (y1 : Nat) (y2 : Nat) : Option (me_M × Int32) := b2 (f_Cell_isOfPacket M y1) (fun (M6 : me_M) (r7 : Int32) => (if r7 = 0 then f_Steps_arithmetic_b233 j0 M6 y1 else b2 (f_Cell_isOfPacket M6 y2) (fun (M9 : me_M) (r10 : Int32) => (if r10 = 0 then f_Steps_arithmetic_b233 j0 M9 y1 else f_Steps_arithmetic_b234 j0 M9 y1 (1 : Int32)))))
def f_Steps_arithmetic_b164 (j0 : Nat) (M : me_M) (y1 : Nat) (y2 : Nat) : Option (me_M × Int32) := bd (mR M 7 j0 0) (fun (j12 : Nat) => (if (mI M 2 j12 12) = 0 then (if (mI M 10 y1 0) = 1 then b2 (f_Cell_isPointer M y2) (fun (M16 : me_M) (r17 : Int32) => (if r17 = 0 then f_Steps_arithmetic_b215 j0 M16 y1 y2 else bd (mR M 7 j0 4) (fun (j19 : Nat) => bd (mR M 10 y1 6) (fun (j21 : Nat) => bd (f_Num_copy M16 j19 j21) (fun (M23 : me_M) => bd (f_Cell_copy M23 y1 y2) (fun (M24 : me_M) => b2 (f_Steps_shift M24 j0 y1 j19) (fun (M25 : me_M) (r26 : Int32) => some (M25, r26)))))))) else f_Steps_arithmetic_b215 j0 M y1 y2) else f_Steps_arithmetic_b215 j0 M y1 y2))
def f_Steps_arithmetic_b115 (j0 : Nat) (M : me_M) (y1 : Nat) (y2 : Nat) : Option (me_M × Int32) := bd (mR M 7 j0 0) (fun (j27 : Nat) => (if (mI M 2 j27 13) = 0 then (if (mI M 2 j27 12) ≤ 1 then b2 (f_Cell_isPointer M y1) (fun (M32 : me_M) (r33 : Int32) => (if r33 = 0 then f_Steps_arithmetic_b164 j0 M32 y1 y2 else (if (mI M32 10 y2 0) = 1 then bd (mR M 10 y2 6) (fun (j36 : Nat) => b2 (f_Steps_shift M32 j0 y1 j36) (fun (M38 : me_M) (r39 : Int32) => some (M38, r39))) else f_Steps_arithmetic_b164 j0 M32 y1 y2))) else some (M, (11 : Int32))) else some (M, (11 : Int32))))
def f_Steps_arithmetic_b75 (j0 : Nat) (M : me_M) (y1 : Nat) (y2 : Nat) : Option (me_M × Int32) := st (wI M 10 y1 0 1) (fun (M40 : me_M) => bd (mR M 7 j0 2) (fun (j41 : Nat) => bd (mR M 7 j0 0) (fun (j43 : Nat) => bd (mR M 10 y1 6) (fun (j45 : Nat) => bd (mR M 10 y2 6) (fun (j47 : Nat) => bd (f_Reckoner_operate M40 j41 (mI M40 2 j43 12) j45 j47 (mI M40 2 j43 13) j45) (fun (M50 : me_M) => some (M50, (0 : Int32))))))))
def f_Steps_arithmetic_b47 (j0 : Nat) (M : me_M) (y1 : Nat) (y2 : Nat) : Option (me_M × Int32) := (if (mI M 10 y2 0) = 1 then (if (mI M 10 y1 0) = 1 then f_Steps_arithmetic_b75 j0 M y1 y2 else bd (mR M 7 j0 0) (fun (j53 : Nat) => (if (mI M 2 j53 12) = 12 then f_Steps_arithmetic_b75 j0 M y1 y2 else f_Steps_arithmetic_b115 j0 M y1 y2))) else f_Steps_arithmetic_b115 j0 M y1 y2)
def f_Steps_arithmetic (M0 : me_M) (j0 : Nat) : Option (me_M × Int32) := bd (mR M0 7 j0 5) (fun (j56 : Nat) => bd (mR M0 7 j0 0) (fun (j58 : Nat) => gd (¬ ((mI M0 2 j58 6) < 0 ∨ mZ M0 18 j56 ≤ (mI M0 2 j58 6).toNatClampNeg)) (bd (mR M0 18 j56 ((mI M0 2 j58 6).toNatClampNeg)) (fun (j61 : Nat) => b2 (f_Steps_operand M0 j0) (fun (M63 : me_M) (r64 : Nat) => (if (mI M63 2 j58 12) = 12 then (if (mI M63 2 j58 13) = 0 then bd (f_Cell_copy M63 j61 r64) (fun (M68 : me_M) => some (M68, (0 : Int32))) else f_Steps_arithmetic_b47 j0 M63 j61 r64) else f_Steps_arithmetic_b47 j0 M63 j61 r64))))))
def rm_Steps_arithmetic : Room := { frames := 6, cells := 0, slots := 0, locals := 136 }
abbrev q_Steps_arithmetic (D : va_G) (ad : Nat → Nat → Nat) (ca : Nat → ClassId) (N : Nat → Nat) (M0 MZ : me_M) (RZ : Int32) (A : Nat → Prop) : Array Value → Jvm.State → Outcome → Jvm.State → Prop := va_Qi (fun r (_ : Unit) => r = RZ ∧ me_wf N MZ ∧ me_kp M0 MZ) (fg_B D A (fun _ => me_W ad ca MZ) (fun _ => [])) A
set_option maxHeartbeats 4000000 in
set_option maxRecDepth 100000 in
theorem c_Steps_arithmetic (l : Launch) (D : va_G) (ad : Nat → Nat → Nat) (ca : Nat → ClassId) (N : Nat → Nat) (M0 MZ : me_M) (RZ : Int32) (j0 : Nat) (h : f_Steps_arithmetic M0 j0 = (some (MZ, RZ))) (hwf : me_wf N M0) (hj0 : j0 < N 7) (sz : Nat) : Met l y_Steps_arithmetic (fg_w y_Steps_arithmetic prog_11_method_6_code 4 (some .int)) rm_Steps_arithmetic (va_Pc [.ref (ad 7 j0)] (fz_P D (me_T ca) (me_W ad ca M0) sz)) (q_Steps_arithmetic D ad ca N M0 MZ RZ (va_A (me_W ad ca M0) sz)) rm_Steps_arithmetic.cells rm_Steps_arithmetic.slots (va_A (me_W ad ca M0) sz) := by
  refine fz_enter (fun A => q_Steps_arithmetic D ad ca N M0 MZ RZ A) (by decide +kernel) (Nat.le_of_ble_eq_true rfl) ?_
  intro p e s m below meth c ls A hx hb hml hown hts hr hlocks hin hP hK hD hS hA hX hl hz
  have hl : lv_has ls 4 [(0, .ref (ad 7 j0))] := hl
  unfold f_Steps_arithmetic at h
  have hkp : me_kp M0 M0 := me_kp.rf
  have hkb := hkp
  have b_234 : ∀ (M : me_M) (y1 : Nat) (s0 : Int32) (H : Heap) (locs : List Loc) (ls : Array Slot), f_Steps_arithmetic_b234 j0 M y1 s0 = (some (MZ, RZ)) → (y1 < N 10) → (s0 = 1 ∨ s0 = 0) → me_wf N M → me_kp M0 M → va_P D classes (me_W ad ca M) H → va_D A (me_W ad ca M) → va_S A s.heap H locs → lv_has ls 4 [(0, .ref (ad 7 j0)), (1, .ref (ad 10 y1))] → W p l e rm_Steps_arithmetic s m [.ref (ad 7 j0)].toArray below meth c H locs 0 0 (MQ below (q_Steps_arithmetic D ad ca N M0 MZ RZ A) [.ref (ad 7 j0)].toArray s rm_Steps_arithmetic.cells rm_Steps_arithmetic.slots A) (F0 m 234 ls [.int s0]) := by
    intro M y1 s0 H locs ls h hy1 zs0 hwf hkp hP hD hS hl
    unfold f_Steps_arithmetic_b234 at h
    have hkb := hkp
    refine lv_istore_n (lv' := [(3, .int s0), (0, .ref (ad 7 j0)), (1, .ref (ad 10 y1))]) hx hb d_Steps_arithmetic_234 rfl hl (by decide) rfl (fun ls hl => ?_)
    refine lv_aload_n hx hb d_Steps_arithmetic_235 rfl (lv_at hl 1 rfl) ?_
    refine g_Steps_0 hx hb hts hown hK hP hwf hj0 (hts _ u_455) d_Steps_arithmetic_236 ?_
    obtain ⟨j1, e2, h⟩ := bd_ob h
    have hj1 : j1 < N 2 := (hwf.2.1 7 j0 0 _ e2 (by decide) hj0)
    refine me_opt (j := j1) e2 ?_
    refine g_Code_12 hx hb hts hown hK hP hwf hj1 (hts _ u_262) d_Steps_arithmetic_239 ?_
    refine lv_iconst (v := 1) hx hb d_Steps_arithmetic_242 (by decide) ?_
    refine lv_icmp_ne (tgt := 250) hx hb d_Steps_arithmetic_243 (by decide) (fun c3 => ?_) (fun c3 => ?_)
    · have h := if_f c3 h
      refine lv_bipush (v := 11) hx hb d_Steps_arithmetic_250 (by decide) ?_
      exact me_reti (me_kp M0) h hx hb hr hlocks hwf hkp hP hK hD hS d_Steps_arithmetic_252
    have h := if_t c3 h
    refine lv_iload_n hx hb d_Steps_arithmetic_246 rfl (lv_at hl 0 rfl) ?_
    refine lv_if_ne (tgt := 253) hx hb d_Steps_arithmetic_247 (by decide) (fun c4 => ?_) (fun c4 => ?_)
    · have h := if_f c4 h
      refine lv_aload_n hx hb d_Steps_arithmetic_253 rfl (lv_at hl 2 rfl) ?_
      obtain ⟨M5, eM5, h⟩ := bd_ob h
      refine me_thenv0 (M1 := M5) (me_runV (C := "FilterGuard$Cell") (As := []) (rest := []) ⟨hx, hb, hml, hown, hts⟩ (c_Cell_becomeAny l D ad ca N M M5 y1 eM5 hwf hy1 _) rfl (by show fg_nm y_Cell_becomeAny 0; decide +kernel) u_1266 u_1267 u_1268 u_188 u_1269 ⟨Nat.le_of_ble_eq_true rfl, Nat.le_of_ble_eq_true rfl⟩ hX hz hK hP hD hwf hS hA hy1 (by decide) rfl rfl rfl hl.1 (Nat.le_of_ble_eq_true rfl) d_Steps_arithmetic_254 ⟨Nat.le_of_ble_eq_true rfl, Nat.le_of_ble_eq_true rfl⟩) hP hD hK hS hA rfl rfl (fun H locs hw hP hD hS => ?_)
      obtain ⟨hwf, hk9⟩ := hw
      have hkp := hkp.tr hk9
      refine lv_iconst (v := 0) hx hb d_Steps_arithmetic_257 (by decide) ?_
      exact me_reti (me_kp M0) h hx hb hr hlocks hwf hkp hP hK hD hS d_Steps_arithmetic_258
    have h := if_t c4 h
    refine lv_bipush (v := 11) hx hb d_Steps_arithmetic_250 (by decide) ?_
    exact me_reti (me_kp M0) h hx hb hr hlocks hwf hkp hP hK hD hS d_Steps_arithmetic_252
  have b_233 : ∀ (M : me_M) (y1 : Nat) (H : Heap) (locs : List Loc) (ls : Array Slot), f_Steps_arithmetic_b233 j0 M y1 = (some (MZ, RZ)) → (y1 < N 10) → me_wf N M → me_kp M0 M → va_P D classes (me_W ad ca M) H → va_D A (me_W ad ca M) → va_S A s.heap H locs → lv_has ls 4 [(0, .ref (ad 7 j0)), (1, .ref (ad 10 y1))] → W p l e rm_Steps_arithmetic s m [.ref (ad 7 j0)].toArray below meth c H locs 0 0 (MQ below (q_Steps_arithmetic D ad ca N M0 MZ RZ A) [.ref (ad 7 j0)].toArray s rm_Steps_arithmetic.cells rm_Steps_arithmetic.slots A) (F0 m 233 ls []) := by
    intro M y1 H locs ls h hy1 hwf hkp hP hD hS hl
    unfold f_Steps_arithmetic_b233 at h
    have hkb := hkp
    refine lv_iconst (v := 0) hx hb d_Steps_arithmetic_233 (by decide) ?_
    exact b_234 M y1 (0 : Int32) _ _ _ h hy1 (by decide) hwf hkp hP hD hS (lv_sub hl [0, 1] rfl)
  have b_215 : ∀ (M : me_M) (y1 : Nat) (y2 : Nat) (H : Heap) (locs : List Loc) (ls : Array Slot), f_Steps_arithmetic_b215 j0 M y1 y2 = (some (MZ, RZ)) → (y1 < N 10) → (y2 < N 10) → me_wf N M → me_kp M0 M → va_P D classes (me_W ad ca M) H → va_D A (me_W ad ca M) → va_S A s.heap H locs → lv_has ls 4 [(0, .ref (ad 7 j0)), (1, .ref (ad 10 y1)), (2, .ref (ad 10 y2))] → W p l e rm_Steps_arithmetic s m [.ref (ad 7 j0)].toArray below meth c H locs 0 0 (MQ below (q_Steps_arithmetic D ad ca N M0 MZ RZ A) [.ref (ad 7 j0)].toArray s rm_Steps_arithmetic.cells rm_Steps_arithmetic.slots A) (F0 m 215 ls []) := by
    intro M y1 y2 H locs ls h hy1 hy2 hwf hkp hP hD hS hl
    unfold f_Steps_arithmetic_b215 at h
    have hkb := hkp
    refine lv_aload_n hx hb d_Steps_arithmetic_215 rfl (lv_at hl 1 rfl) ?_
    obtain ⟨M6, r7, eM6, h⟩ := b2_ob h
    refine me_theni0 (M1 := M6) (me_runV (C := "FilterGuard$Cell") (As := []) (rest := []) ⟨hx, hb, hml, hown, hts⟩ (c_Cell_isOfPacket l D ad ca N M M6 r7 y1 eM6 hwf hy1 _) rfl (by show fg_nm y_Cell_isOfPacket 0; decide +kernel) u_1262 u_1263 u_1264 u_188 u_1265 ⟨Nat.le_of_ble_eq_true rfl, Nat.le_of_ble_eq_true rfl⟩ hX hz hK hP hD hwf hS hA hy1 (by decide) rfl rfl rfl hl.1 (Nat.le_of_ble_eq_true rfl) d_Steps_arithmetic_216 ⟨Nat.le_of_ble_eq_true rfl, Nat.le_of_ble_eq_true rfl⟩) hP hD hK hS hA rfl rfl (fun H locs hw hP hD hS => ?_)
    obtain ⟨hwf, hk9, zr7⟩ := hw
    have hkp := hkp.tr hk9
    refine lv_if_eq (tgt := 233) hx hb d_Steps_arithmetic_219 (by decide) (fun c8 => ?_) (fun c8 => ?_)
    · have h := if_t c8 h
      exact b_233 M6 y1 _ _ _ h hy1 hwf hkp hP hD hS (lv_sub hl [0, 1] rfl)
    have h := if_f c8 h
    refine lv_aload_n hx hb d_Steps_arithmetic_222 rfl (lv_at hl 2 rfl) ?_
    obtain ⟨M9, r10, eM9, h⟩ := b2_ob h
    refine me_theni0 (M1 := M9) (me_runV (C := "FilterGuard$Cell") (As := []) (rest := []) ⟨hx, hb, hml, hown, hts⟩ (c_Cell_isOfPacket l D ad ca N M6 M9 r10 y2 eM9 hwf hy2 _) rfl (by show fg_nm y_Cell_isOfPacket 0; decide +kernel) u_1262 u_1263 u_1264 u_188 u_1265 ⟨Nat.le_of_ble_eq_true rfl, Nat.le_of_ble_eq_true rfl⟩ hX hz hK hP hD hwf hS hA hy2 (by decide) rfl rfl rfl hl.1 (Nat.le_of_ble_eq_true rfl) d_Steps_arithmetic_223 ⟨Nat.le_of_ble_eq_true rfl, Nat.le_of_ble_eq_true rfl⟩) hP hD hK hS hA rfl rfl (fun H locs hw hP hD hS => ?_)
    obtain ⟨hwf, hk9, zr10⟩ := hw
    have hkp := hkp.tr hk9
    refine lv_if_eq (tgt := 233) hx hb d_Steps_arithmetic_226 (by decide) (fun c11 => ?_) (fun c11 => ?_)
    · have h := if_t c11 h
      exact b_233 M9 y1 _ _ _ h hy1 hwf hkp hP hD hS (lv_sub hl [0, 1] rfl)
    have h := if_f c11 h
    refine lv_iconst (v := 1) hx hb d_Steps_arithmetic_229 (by decide) ?_
    refine lv_goto (tgt := 234) hx hb d_Steps_arithmetic_230 (by decide) ?_
    exact b_234 M9 y1 (1 : Int32) _ _ _ h hy1 (by decide) hwf hkp hP hD hS (lv_sub hl [0, 1] rfl)
  have b_164 : ∀ (M : me_M) (y1 : Nat) (y2 : Nat) (H : Heap) (locs : List Loc) (ls : Array Slot), f_Steps_arithmetic_b164 j0 M y1 y2 = (some (MZ, RZ)) → (y1 < N 10) → (y2 < N 10) → me_wf N M → me_kp M0 M → va_P D classes (me_W ad ca M) H → va_D A (me_W ad ca M) → va_S A s.heap H locs → lv_has ls 4 [(0, .ref (ad 7 j0)), (1, .ref (ad 10 y1)), (2, .ref (ad 10 y2))] → W p l e rm_Steps_arithmetic s m [.ref (ad 7 j0)].toArray below meth c H locs 0 0 (MQ below (q_Steps_arithmetic D ad ca N M0 MZ RZ A) [.ref (ad 7 j0)].toArray s rm_Steps_arithmetic.cells rm_Steps_arithmetic.slots A) (F0 m 164 ls []) := by
    intro M y1 y2 H locs ls h hy1 hy2 hwf hkp hP hD hS hl
    unfold f_Steps_arithmetic_b164 at h
    have hkb := hkp
    refine lv_aload_n hx hb d_Steps_arithmetic_164 rfl (lv_at hl 0 rfl) ?_
    refine g_Steps_0 hx hb hts hown hK hP hwf hj0 (hts _ u_455) d_Steps_arithmetic_165 ?_
    obtain ⟨j12, e13, h⟩ := bd_ob h
    have hj12 : j12 < N 2 := (hwf.2.1 7 j0 0 _ e13 (by decide) hj0)
    refine me_opt (j := j12) e13 ?_
    refine g_Code_12 hx hb hts hown hK hP hwf hj12 (hts _ u_262) d_Steps_arithmetic_168 ?_
    refine lv_if_ne (tgt := 215) hx hb d_Steps_arithmetic_171 (by decide) (fun c14 => ?_) (fun c14 => ?_)
    · have h := if_f c14 h
      exact b_215 M y1 y2 _ _ _ h hy1 hy2 hwf hkp hP hD hS (lv_sub hl [0, 1, 2] rfl)
    have h := if_t c14 h
    refine lv_aload_n hx hb d_Steps_arithmetic_174 rfl (lv_at hl 1 rfl) ?_
    refine g_Cell_0 hx hb hts hown hK hP hwf hy1 (hts _ u_422) d_Steps_arithmetic_175 ?_
    refine lv_iconst (v := 1) hx hb d_Steps_arithmetic_178 (by decide) ?_
    refine lv_icmp_ne (tgt := 215) hx hb d_Steps_arithmetic_179 (by decide) (fun c15 => ?_) (fun c15 => ?_)
    · have h := if_f c15 h
      exact b_215 M y1 y2 _ _ _ h hy1 hy2 hwf hkp hP hD hS (lv_sub hl [0, 1, 2] rfl)
    have h := if_t c15 h
    refine lv_aload_n hx hb d_Steps_arithmetic_182 rfl (lv_at hl 2 rfl) ?_
    obtain ⟨M16, r17, eM16, h⟩ := b2_ob h
    refine me_theni0 (M1 := M16) (me_runV (C := "FilterGuard$Cell") (As := []) (rest := []) ⟨hx, hb, hml, hown, hts⟩ (c_Cell_isPointer l D ad ca N M M16 r17 y2 eM16 hwf hy2 _) rfl (by show fg_nm y_Cell_isPointer 0; decide +kernel) u_1242 u_1243 u_1244 u_188 u_1245 ⟨Nat.le_of_ble_eq_true rfl, Nat.le_of_ble_eq_true rfl⟩ hX hz hK hP hD hwf hS hA hy2 (by decide) rfl rfl rfl hl.1 (Nat.le_of_ble_eq_true rfl) d_Steps_arithmetic_183 ⟨Nat.le_of_ble_eq_true rfl, Nat.le_of_ble_eq_true rfl⟩) hP hD hK hS hA rfl rfl (fun H locs hw hP hD hS => ?_)
    obtain ⟨hwf, hk9, zr17⟩ := hw
    have hkp := hkp.tr hk9
    refine lv_if_eq (tgt := 215) hx hb d_Steps_arithmetic_186 (by decide) (fun c18 => ?_) (fun c18 => ?_)
    · have h := if_t c18 h
      exact b_215 M16 y1 y2 _ _ _ h hy1 hy2 hwf hkp hP hD hS (lv_sub hl [0, 1, 2] rfl)
    have h := if_f c18 h
    refine lv_aload_n hx hb d_Steps_arithmetic_189 rfl (lv_at hl 0 rfl) ?_
    refine g_Steps_4 hx hb hts hown hK hP hwf hj0 (hts _ u_459) d_Steps_arithmetic_190 ?_
    obtain ⟨j19, e20, h⟩ := bd_ob h
    have hj19 : j19 < N 11 := (hwf.2.1 7 j0 4 _ (kp_r hkb hkp e20) (by decide) hj0)
    refine me_opt (j := j19) (kp_r hkb hkp e20) ?_
    refine lv_aload_n hx hb d_Steps_arithmetic_193 rfl (lv_at hl 1 rfl) ?_
    refine g_Cell_6 hx hb hts hown hK hP hwf hy1 (hts _ u_437) d_Steps_arithmetic_194 ?_
    obtain ⟨j21, e22, h⟩ := bd_ob h
    have hj21 : j21 < N 11 := (hwf.2.1 10 y1 6 _ (kp_r hkb hkp e22) (by decide) hy1)
    refine me_opt (j := j21) (kp_r hkb hkp e22) ?_
    obtain ⟨M23, eM23, h⟩ := bd_ob h
    refine me_thenv0 (M1 := M23) (me_runV (C := "FilterGuard$Num") (As := [.ref (ad 11 j21)]) (rest := []) ⟨hx, hb, hml, hown, hts⟩ (c_Num_copy l D ad ca N M16 M23 j19 j21 eM23 hwf hj19 hj21 _) rfl (by show fg_nm y_Num_copy 1; decide +kernel) u_1261 u_1083 u_1084 u_187 u_1085 ⟨Nat.le_of_ble_eq_true rfl, Nat.le_of_ble_eq_true rfl⟩ hX hz hK hP hD hwf hS hA hj19 (by decide) rfl rfl rfl hl.1 (Nat.le_of_ble_eq_true rfl) d_Steps_arithmetic_197 ⟨Nat.le_of_ble_eq_true rfl, Nat.le_of_ble_eq_true rfl⟩) hP hD hK hS hA rfl rfl (fun H locs hw hP hD hS => ?_)
    obtain ⟨hwf, hk9⟩ := hw
    have hkp := hkp.tr hk9
    refine lv_aload_n hx hb d_Steps_arithmetic_200 rfl (lv_at hl 1 rfl) ?_
    refine lv_aload_n hx hb d_Steps_arithmetic_201 rfl (lv_at hl 2 rfl) ?_
    obtain ⟨M24, eM24, h⟩ := bd_ob h
    refine me_thenv0 (M1 := M24) (me_runV (C := "FilterGuard$Cell") (As := [.ref (ad 10 y2)]) (rest := []) ⟨hx, hb, hml, hown, hts⟩ (c_Cell_copy l D ad ca N M23 M24 y1 y2 eM24 hwf hy1 hy2 _) rfl (by show fg_nm y_Cell_copy 1; decide +kernel) u_1121 u_1079 u_1080 u_188 u_1081 ⟨Nat.le_of_ble_eq_true rfl, Nat.le_of_ble_eq_true rfl⟩ hX hz hK hP hD hwf hS hA hy1 (by decide) rfl rfl rfl hl.1 (Nat.le_of_ble_eq_true rfl) d_Steps_arithmetic_202 ⟨Nat.le_of_ble_eq_true rfl, Nat.le_of_ble_eq_true rfl⟩) hP hD hK hS hA rfl rfl (fun H locs hw hP hD hS => ?_)
    obtain ⟨hwf, hk9⟩ := hw
    have hkp := hkp.tr hk9
    refine lv_aload_n hx hb d_Steps_arithmetic_205 rfl (lv_at hl 0 rfl) ?_
    refine lv_aload_n hx hb d_Steps_arithmetic_206 rfl (lv_at hl 1 rfl) ?_
    refine lv_aload_n hx hb d_Steps_arithmetic_207 rfl (lv_at hl 0 rfl) ?_
    refine g_Steps_4 hx hb hts hown hK hP hwf hj0 (hts _ u_459) d_Steps_arithmetic_208 ?_
    refine me_opt (j := j19) (kp_r hkb hkp e20) ?_
    obtain ⟨M25, r26, eM25, h⟩ := b2_ob h
    refine me_theni0 (M1 := M25) (me_runV (C := "FilterGuard$Steps") (As := [.ref (ad 10 y1), .ref (ad 11 j19)]) (rest := []) ⟨hx, hb, hml, hown, hts⟩ (c_Steps_shift l D ad ca N M24 M25 r26 j0 y1 j19 eM25 hwf hj0 hy1 hj19 _) rfl (by show fg_nm y_Steps_shift 2; decide +kernel) u_1246 u_1248 u_27 u_185 u_1249 ⟨Nat.le_of_ble_eq_true rfl, Nat.le_of_ble_eq_true rfl⟩ hX hz hK hP hD hwf hS hA hj0 (by decide) rfl rfl rfl hl.1 (Nat.le_of_ble_eq_true rfl) d_Steps_arithmetic_211 ⟨Nat.le_of_ble_eq_true rfl, Nat.le_of_ble_eq_true rfl⟩) hP hD hK hS hA rfl rfl (fun H locs hw hP hD hS => ?_)
    obtain ⟨hwf, hk9⟩ := hw
    have hkp := hkp.tr hk9
    exact me_reti (me_kp M0) h hx hb hr hlocks hwf hkp hP hK hD hS d_Steps_arithmetic_214
  have b_115 : ∀ (M : me_M) (y1 : Nat) (y2 : Nat) (H : Heap) (locs : List Loc) (ls : Array Slot), f_Steps_arithmetic_b115 j0 M y1 y2 = (some (MZ, RZ)) → (y1 < N 10) → (y2 < N 10) → me_wf N M → me_kp M0 M → va_P D classes (me_W ad ca M) H → va_D A (me_W ad ca M) → va_S A s.heap H locs → lv_has ls 4 [(0, .ref (ad 7 j0)), (1, .ref (ad 10 y1)), (2, .ref (ad 10 y2))] → W p l e rm_Steps_arithmetic s m [.ref (ad 7 j0)].toArray below meth c H locs 0 0 (MQ below (q_Steps_arithmetic D ad ca N M0 MZ RZ A) [.ref (ad 7 j0)].toArray s rm_Steps_arithmetic.cells rm_Steps_arithmetic.slots A) (F0 m 115 ls []) := by
    intro M y1 y2 H locs ls h hy1 hy2 hwf hkp hP hD hS hl
    unfold f_Steps_arithmetic_b115 at h
    have hkb := hkp
    refine lv_aload_n hx hb d_Steps_arithmetic_115 rfl (lv_at hl 0 rfl) ?_
    refine g_Steps_0 hx hb hts hown hK hP hwf hj0 (hts _ u_455) d_Steps_arithmetic_116 ?_
    obtain ⟨j27, e28, h⟩ := bd_ob h
    have hj27 : j27 < N 2 := (hwf.2.1 7 j0 0 _ e28 (by decide) hj0)
    refine me_opt (j := j27) e28 ?_
    refine g_Code_13 hx hb hts hown hK hP hwf hj27 (hts _ u_266) d_Steps_arithmetic_119 ?_
    have z29 := (hwf.2.2.2 2 j27 13 rfl)
    refine lv_if_ne (tgt := 136) hx hb d_Steps_arithmetic_122 (by decide) (fun c30 => ?_) (fun c30 => ?_)
    · have h := if_f c30 h
      refine lv_bipush (v := 11) hx hb d_Steps_arithmetic_136 (by decide) ?_
      exact me_reti (me_kp M0) h hx hb hr hlocks hwf hkp hP hK hD hS d_Steps_arithmetic_138
    have h := if_t c30 h
    refine lv_aload_n hx hb d_Steps_arithmetic_125 rfl (lv_at hl 0 rfl) ?_
    refine g_Steps_0 hx hb hts hown hK hP hwf hj0 (hts _ u_455) d_Steps_arithmetic_126 ?_
    refine me_opt (j := j27) e28 ?_
    refine g_Code_12 hx hb hts hown hK hP hwf hj27 (hts _ u_262) d_Steps_arithmetic_129 ?_
    refine lv_iconst (v := 1) hx hb d_Steps_arithmetic_132 (by decide) ?_
    refine lv_icmp_le (tgt := 139) hx hb d_Steps_arithmetic_133 (by decide) (fun c31 => ?_) (fun c31 => ?_)
    · have h := if_t c31 h
      refine lv_aload_n hx hb d_Steps_arithmetic_139 rfl (lv_at hl 1 rfl) ?_
      obtain ⟨M32, r33, eM32, h⟩ := b2_ob h
      refine me_theni0 (M1 := M32) (me_runV (C := "FilterGuard$Cell") (As := []) (rest := []) ⟨hx, hb, hml, hown, hts⟩ (c_Cell_isPointer l D ad ca N M M32 r33 y1 eM32 hwf hy1 _) rfl (by show fg_nm y_Cell_isPointer 0; decide +kernel) u_1242 u_1243 u_1244 u_188 u_1245 ⟨Nat.le_of_ble_eq_true rfl, Nat.le_of_ble_eq_true rfl⟩ hX hz hK hP hD hwf hS hA hy1 (by decide) rfl rfl rfl hl.1 (Nat.le_of_ble_eq_true rfl) d_Steps_arithmetic_140 ⟨Nat.le_of_ble_eq_true rfl, Nat.le_of_ble_eq_true rfl⟩) hP hD hK hS hA rfl rfl (fun H locs hw hP hD hS => ?_)
      obtain ⟨hwf, hk9, zr33⟩ := hw
      have hkp := hkp.tr hk9
      refine lv_if_eq (tgt := 164) hx hb d_Steps_arithmetic_143 (by decide) (fun c34 => ?_) (fun c34 => ?_)
      · have h := if_t c34 h
        exact b_164 M32 y1 y2 _ _ _ h hy1 hy2 hwf hkp hP hD hS (lv_sub hl [0, 1, 2] rfl)
      have h := if_f c34 h
      refine lv_aload_n hx hb d_Steps_arithmetic_146 rfl (lv_at hl 2 rfl) ?_
      refine g_Cell_0 hx hb hts hown hK hP hwf hy2 (hts _ u_422) d_Steps_arithmetic_147 ?_
      refine lv_iconst (v := 1) hx hb d_Steps_arithmetic_150 (by decide) ?_
      refine lv_icmp_ne (tgt := 164) hx hb d_Steps_arithmetic_151 (by decide) (fun c35 => ?_) (fun c35 => ?_)
      · have h := if_f c35 h
        exact b_164 M32 y1 y2 _ _ _ h hy1 hy2 hwf hkp hP hD hS (lv_sub hl [0, 1, 2] rfl)
      have h := if_t c35 h
      refine lv_aload_n hx hb d_Steps_arithmetic_154 rfl (lv_at hl 0 rfl) ?_
      refine lv_aload_n hx hb d_Steps_arithmetic_155 rfl (lv_at hl 1 rfl) ?_
      refine lv_aload_n hx hb d_Steps_arithmetic_156 rfl (lv_at hl 2 rfl) ?_
      refine g_Cell_6 hx hb hts hown hK hP hwf hy2 (hts _ u_437) d_Steps_arithmetic_157 ?_
      obtain ⟨j36, e37, h⟩ := bd_ob h
      have hj36 : j36 < N 11 := (hwf.2.1 10 y2 6 _ (kp_r hkb hkp e37) (by decide) hy2)
      refine me_opt (j := j36) (kp_r hkb hkp e37) ?_
      obtain ⟨M38, r39, eM38, h⟩ := b2_ob h
      refine me_theni0 (M1 := M38) (me_runV (C := "FilterGuard$Steps") (As := [.ref (ad 10 y1), .ref (ad 11 j36)]) (rest := []) ⟨hx, hb, hml, hown, hts⟩ (c_Steps_shift l D ad ca N M32 M38 r39 j0 y1 j36 eM38 hwf hj0 hy1 hj36 _) rfl (by show fg_nm y_Steps_shift 2; decide +kernel) u_1246 u_1248 u_27 u_185 u_1249 ⟨Nat.le_of_ble_eq_true rfl, Nat.le_of_ble_eq_true rfl⟩ hX hz hK hP hD hwf hS hA hj0 (by decide) rfl rfl rfl hl.1 (Nat.le_of_ble_eq_true rfl) d_Steps_arithmetic_160 ⟨Nat.le_of_ble_eq_true rfl, Nat.le_of_ble_eq_true rfl⟩) hP hD hK hS hA rfl rfl (fun H locs hw hP hD hS => ?_)
      obtain ⟨hwf, hk9⟩ := hw
      have hkp := hkp.tr hk9
      exact me_reti (me_kp M0) h hx hb hr hlocks hwf hkp hP hK hD hS d_Steps_arithmetic_163
    have h := if_f c31 h
    refine lv_bipush (v := 11) hx hb d_Steps_arithmetic_136 (by decide) ?_
    exact me_reti (me_kp M0) h hx hb hr hlocks hwf hkp hP hK hD hS d_Steps_arithmetic_138
  have b_75 : ∀ (M : me_M) (y1 : Nat) (y2 : Nat) (H : Heap) (locs : List Loc) (ls : Array Slot), f_Steps_arithmetic_b75 j0 M y1 y2 = (some (MZ, RZ)) → (y1 < N 10) → (y2 < N 10) → me_wf N M → me_kp M0 M → va_P D classes (me_W ad ca M) H → va_D A (me_W ad ca M) → va_S A s.heap H locs → lv_has ls 4 [(0, .ref (ad 7 j0)), (1, .ref (ad 10 y1)), (2, .ref (ad 10 y2))] → W p l e rm_Steps_arithmetic s m [.ref (ad 7 j0)].toArray below meth c H locs 0 0 (MQ below (q_Steps_arithmetic D ad ca N M0 MZ RZ A) [.ref (ad 7 j0)].toArray s rm_Steps_arithmetic.cells rm_Steps_arithmetic.slots A) (F0 m 75 ls []) := by
    intro M y1 y2 H locs ls h hy1 hy2 hwf hkp hP hD hS hl
    unfold f_Steps_arithmetic_b75 at h
    have hkb := hkp
    refine lv_aload_n hx hb d_Steps_arithmetic_75 rfl (lv_at hl 1 rfl) ?_
    refine lv_iconst (v := 1) hx hb d_Steps_arithmetic_76 (by decide) ?_
    obtain ⟨M40, eM40, h⟩ := st_ob h
    refine p_Cell_0 eM40 hx hb hts hown hK hP hD hwf hS hy1 (hts _ u_422) d_Steps_arithmetic_77 (fun H locs hP hD hwf hS => ?_)
    have hkp := kp_I eM40 hkp
    refine lv_aload_n hx hb d_Steps_arithmetic_80 rfl (lv_at hl 0 rfl) ?_
    refine g_Steps_2 hx hb hts hown hK hP hwf hj0 (hts _ u_457) d_Steps_arithmetic_81 ?_
    obtain ⟨j41, e42, h⟩ := bd_ob h
    have hj41 : j41 < N 8 := (hwf.2.1 7 j0 2 _ (kp_r hkb hkp e42) (by decide) hj0)
    refine me_opt (j := j41) (kp_r hkb hkp e42) ?_
    refine lv_aload_n hx hb d_Steps_arithmetic_84 rfl (lv_at hl 0 rfl) ?_
    refine g_Steps_0 hx hb hts hown hK hP hwf hj0 (hts _ u_455) d_Steps_arithmetic_85 ?_
    obtain ⟨j43, e44, h⟩ := bd_ob h
    have hj43 : j43 < N 2 := (hwf.2.1 7 j0 0 _ (kp_r hkb hkp e44) (by decide) hj0)
    refine me_opt (j := j43) (kp_r hkb hkp e44) ?_
    refine g_Code_12 hx hb hts hown hK hP hwf hj43 (hts _ u_262) d_Steps_arithmetic_88 ?_
    refine lv_aload_n hx hb d_Steps_arithmetic_91 rfl (lv_at hl 1 rfl) ?_
    refine g_Cell_6 hx hb hts hown hK hP hwf hy1 (hts _ u_437) d_Steps_arithmetic_92 ?_
    obtain ⟨j45, e46, h⟩ := bd_ob h
    have hj45 : j45 < N 11 := (hwf.2.1 10 y1 6 _ (kp_r hkb hkp e46) (by decide) hy1)
    refine me_opt (j := j45) (kp_r hkb hkp e46) ?_
    refine lv_aload_n hx hb d_Steps_arithmetic_95 rfl (lv_at hl 2 rfl) ?_
    refine g_Cell_6 hx hb hts hown hK hP hwf hy2 (hts _ u_437) d_Steps_arithmetic_96 ?_
    obtain ⟨j47, e48, h⟩ := bd_ob h
    have hj47 : j47 < N 11 := (hwf.2.1 10 y2 6 _ (kp_r hkb hkp e48) (by decide) hy2)
    refine me_opt (j := j47) (kp_r hkb hkp e48) ?_
    refine lv_aload_n hx hb d_Steps_arithmetic_99 rfl (lv_at hl 0 rfl) ?_
    refine g_Steps_0 hx hb hts hown hK hP hwf hj0 (hts _ u_455) d_Steps_arithmetic_100 ?_
    refine me_opt (j := j43) (kp_r hkb hkp e44) ?_
    refine g_Code_13 hx hb hts hown hK hP hwf hj43 (hts _ u_266) d_Steps_arithmetic_103 ?_
    have z49 := (hwf.2.2.2 2 j43 13 rfl)
    refine lv_aload_n hx hb d_Steps_arithmetic_106 rfl (lv_at hl 1 rfl) ?_
    refine g_Cell_6 hx hb hts hown hK hP hwf hy1 (hts _ u_437) d_Steps_arithmetic_107 ?_
    refine me_opt (j := j45) (kp_r hkb hkp e46) ?_
    obtain ⟨M50, eM50, h⟩ := bd_ob h
    refine me_thenv0 (M1 := M50) (me_runV (C := "FilterGuard$Reckoner") (As := [.int (mI M40 2 j43 12), .ref (ad 11 j45), .ref (ad 11 j47), .int (mI M40 2 j43 13), .ref (ad 11 j45)]) (rest := []) ⟨hx, hb, hml, hown, hts⟩ (c_Reckoner_operate l D ad ca N M40 M50 j41 (mI M40 2 j43 12) j45 j47 (mI M40 2 j43 13) j45 eM50 hwf hj41 hj45 hj47 z49 hj45 _) rfl (by show fg_nm y_Reckoner_operate 5; decide +kernel) u_1122 u_1123 u_1124 u_186 u_1125 ⟨Nat.le_of_ble_eq_true rfl, Nat.le_of_ble_eq_true rfl⟩ hX hz hK hP hD hwf hS hA hj41 (by decide) rfl rfl rfl hl.1 (Nat.le_of_ble_eq_true rfl) d_Steps_arithmetic_110 ⟨Nat.le_of_ble_eq_true rfl, Nat.le_of_ble_eq_true rfl⟩) hP hD hK hS hA rfl rfl (fun H locs hw hP hD hS => ?_)
    obtain ⟨hwf, hk9⟩ := hw
    have hkp := hkp.tr hk9
    refine lv_iconst (v := 0) hx hb d_Steps_arithmetic_113 (by decide) ?_
    exact me_reti (me_kp M0) h hx hb hr hlocks hwf hkp hP hK hD hS d_Steps_arithmetic_114
  have b_47 : ∀ (M : me_M) (y1 : Nat) (y2 : Nat) (H : Heap) (locs : List Loc) (ls : Array Slot), f_Steps_arithmetic_b47 j0 M y1 y2 = (some (MZ, RZ)) → (y1 < N 10) → (y2 < N 10) → me_wf N M → me_kp M0 M → va_P D classes (me_W ad ca M) H → va_D A (me_W ad ca M) → va_S A s.heap H locs → lv_has ls 4 [(0, .ref (ad 7 j0)), (1, .ref (ad 10 y1)), (2, .ref (ad 10 y2))] → W p l e rm_Steps_arithmetic s m [.ref (ad 7 j0)].toArray below meth c H locs 0 0 (MQ below (q_Steps_arithmetic D ad ca N M0 MZ RZ A) [.ref (ad 7 j0)].toArray s rm_Steps_arithmetic.cells rm_Steps_arithmetic.slots A) (F0 m 47 ls []) := by
    intro M y1 y2 H locs ls h hy1 hy2 hwf hkp hP hD hS hl
    unfold f_Steps_arithmetic_b47 at h
    have hkb := hkp
    refine lv_aload_n hx hb d_Steps_arithmetic_47 rfl (lv_at hl 2 rfl) ?_
    refine g_Cell_0 hx hb hts hown hK hP hwf hy2 (hts _ u_422) d_Steps_arithmetic_48 ?_
    refine lv_iconst (v := 1) hx hb d_Steps_arithmetic_51 (by decide) ?_
    refine lv_icmp_ne (tgt := 115) hx hb d_Steps_arithmetic_52 (by decide) (fun c51 => ?_) (fun c51 => ?_)
    · have h := if_f c51 h
      exact b_115 M y1 y2 _ _ _ h hy1 hy2 hwf hkp hP hD hS (lv_sub hl [0, 1, 2] rfl)
    have h := if_t c51 h
    refine lv_aload_n hx hb d_Steps_arithmetic_55 rfl (lv_at hl 1 rfl) ?_
    refine g_Cell_0 hx hb hts hown hK hP hwf hy1 (hts _ u_422) d_Steps_arithmetic_56 ?_
    refine lv_iconst (v := 1) hx hb d_Steps_arithmetic_59 (by decide) ?_
    refine lv_icmp_eq (tgt := 75) hx hb d_Steps_arithmetic_60 (by decide) (fun c52 => ?_) (fun c52 => ?_)
    · have h := if_t c52 h
      exact b_75 M y1 y2 _ _ _ h hy1 hy2 hwf hkp hP hD hS (lv_sub hl [0, 1, 2] rfl)
    have h := if_f c52 h
    refine lv_aload_n hx hb d_Steps_arithmetic_63 rfl (lv_at hl 0 rfl) ?_
    refine g_Steps_0 hx hb hts hown hK hP hwf hj0 (hts _ u_455) d_Steps_arithmetic_64 ?_
    obtain ⟨j53, e54, h⟩ := bd_ob h
    have hj53 : j53 < N 2 := (hwf.2.1 7 j0 0 _ e54 (by decide) hj0)
    refine me_opt (j := j53) e54 ?_
    refine g_Code_12 hx hb hts hown hK hP hwf hj53 (hts _ u_262) d_Steps_arithmetic_67 ?_
    refine lv_bipush (v := 12) hx hb d_Steps_arithmetic_70 (by decide) ?_
    refine lv_icmp_ne (tgt := 115) hx hb d_Steps_arithmetic_72 (by decide) (fun c55 => ?_) (fun c55 => ?_)
    · have h := if_f c55 h
      exact b_115 M y1 y2 _ _ _ h hy1 hy2 hwf hkp hP hD hS (lv_sub hl [0, 1, 2] rfl)
    have h := if_t c55 h
    exact b_75 M y1 y2 _ _ _ h hy1 hy2 hwf hkp hP hD hS (lv_sub hl [0, 1, 2] rfl)
  refine lv_aload_n hx hb d_Steps_arithmetic_0 rfl (lv_at hl 0 rfl) ?_
  refine g_Steps_5 hx hb hts hown hK hP hwf hj0 (hts _ u_460) d_Steps_arithmetic_1 ?_
  obtain ⟨j56, e57, h⟩ := bd_ob h
  have hj56 : j56 < N 18 := (hwf.2.1 7 j0 5 _ e57 (by decide) hj0)
  refine me_opt (j := j56) e57 ?_
  refine lv_aload_n hx hb d_Steps_arithmetic_4 rfl (lv_at hl 0 rfl) ?_
  refine g_Steps_0 hx hb hts hown hK hP hwf hj0 (hts _ u_455) d_Steps_arithmetic_5 ?_
  obtain ⟨j58, e59, h⟩ := bd_ob h
  have hj58 : j58 < N 2 := (hwf.2.1 7 j0 0 _ e59 (by decide) hj0)
  refine me_opt (j := j58) e59 ?_
  refine g_Code_6 hx hb hts hown hK hP hwf hj58 (hts _ u_232) d_Steps_arithmetic_8 ?_
  obtain ⟨g60, h⟩ := gd_ob h
  refine me_aald (k := 18) (t := 10) hx hb hK hP hwf hj56 (by decide) (by decide) rfl (fun _ => rfl) g60 d_Steps_arithmetic_11 ?_
  obtain ⟨j61, e62, h⟩ := bd_ob h
  have hj61 : j61 < N 10 := (hwf.2.1 18 j56 ((mI M0 2 j58 6).toNatClampNeg) _ e62 (by decide) hj56)
  refine me_opt (j := j61) e62 ?_
  refine lv_astore_n (lv' := [(1, .ref (ad 10 j61)), (0, .ref (ad 7 j0))]) hx hb d_Steps_arithmetic_12 rfl hl (by decide) rfl (fun ls hl => ?_)
  refine lv_aload_n hx hb d_Steps_arithmetic_13 rfl (lv_at hl 1 rfl) ?_
  obtain ⟨M63, r64, eM63, h⟩ := b2_ob h
  refine me_thenr0 (M1 := M63) (me_runV (C := "FilterGuard$Steps") (As := []) (rest := []) ⟨hx, hb, hml, hown, hts⟩ (c_Steps_operand l D ad ca N M0 M63 r64 j0 eM63 hwf hj0 _) rfl (by show fg_nm y_Steps_operand 0; decide +kernel) u_1113 u_1115 u_18 u_185 u_1116 ⟨Nat.le_of_ble_eq_true rfl, Nat.le_of_ble_eq_true rfl⟩ hX hz hK hP hD hwf hS hA hj0 (by decide) rfl rfl rfl hl.1 (Nat.le_of_ble_eq_true rfl) d_Steps_arithmetic_14 ⟨Nat.le_of_ble_eq_true rfl, Nat.le_of_ble_eq_true rfl⟩) hP hD hK hS hA rfl rfl (fun H locs hw hP hD hS => ?_)
  obtain ⟨hwf, hk9, hr64⟩ := hw
  have hkp := hkp.tr hk9
  refine lv_astore_n (lv' := [(2, .ref (ad 10 r64)), (1, .ref (ad 10 j61)), (0, .ref (ad 7 j0))]) hx hb d_Steps_arithmetic_17 rfl hl (by decide) rfl (fun ls hl => ?_)
  refine lv_aload_n hx hb d_Steps_arithmetic_18 rfl (lv_at hl 2 rfl) ?_
  refine g_Steps_0 hx hb hts hown hK hP hwf hj0 (hts _ u_455) d_Steps_arithmetic_19 ?_
  refine me_opt (j := j58) (kp_r hkb hkp e59) ?_
  refine g_Code_12 hx hb hts hown hK hP hwf hj58 (hts _ u_262) d_Steps_arithmetic_22 ?_
  refine lv_bipush (v := 12) hx hb d_Steps_arithmetic_25 (by decide) ?_
  refine lv_icmp_ne (tgt := 47) hx hb d_Steps_arithmetic_27 (by decide) (fun c65 => ?_) (fun c65 => ?_)
  · have h := if_f c65 h
    exact b_47 M63 j61 r64 _ _ _ h hj61 hr64 hwf hkp hP hD hS (lv_sub hl [2, 1, 0] rfl)
  have h := if_t c65 h
  refine lv_aload_n hx hb d_Steps_arithmetic_30 rfl (lv_at hl 2 rfl) ?_
  refine g_Steps_0 hx hb hts hown hK hP hwf hj0 (hts _ u_455) d_Steps_arithmetic_31 ?_
  refine me_opt (j := j58) (kp_r hkb hkp e59) ?_
  refine g_Code_13 hx hb hts hown hK hP hwf hj58 (hts _ u_266) d_Steps_arithmetic_34 ?_
  have z66 := (hwf.2.2.2 2 j58 13 rfl)
  refine lv_if_ne (tgt := 47) hx hb d_Steps_arithmetic_37 (by decide) (fun c67 => ?_) (fun c67 => ?_)
  · have h := if_f c67 h
    exact b_47 M63 j61 r64 _ _ _ h hj61 hr64 hwf hkp hP hD hS (lv_sub hl [2, 1, 0] rfl)
  have h := if_t c67 h
  refine lv_aload_n hx hb d_Steps_arithmetic_40 rfl (lv_at hl 1 rfl) ?_
  refine lv_aload_n hx hb d_Steps_arithmetic_41 rfl (lv_at hl 0 rfl) ?_
  obtain ⟨M68, eM68, h⟩ := bd_ob h
  refine me_thenv0 (M1 := M68) (me_runV (C := "FilterGuard$Cell") (As := [.ref (ad 10 r64)]) (rest := []) ⟨hx, hb, hml, hown, hts⟩ (c_Cell_copy l D ad ca N M63 M68 j61 r64 eM68 hwf hj61 hr64 _) rfl (by show fg_nm y_Cell_copy 1; decide +kernel) u_1121 u_1079 u_1080 u_188 u_1081 ⟨Nat.le_of_ble_eq_true rfl, Nat.le_of_ble_eq_true rfl⟩ hX hz hK hP hD hwf hS hA hj61 (by decide) rfl rfl rfl hl.1 (Nat.le_of_ble_eq_true rfl) d_Steps_arithmetic_42 ⟨Nat.le_of_ble_eq_true rfl, Nat.le_of_ble_eq_true rfl⟩) hP hD hK hS hA rfl rfl (fun H locs hw hP hD hS => ?_)
  obtain ⟨hwf, hk9⟩ := hw
  have hkp := hkp.tr hk9
  refine lv_iconst (v := 0) hx hb d_Steps_arithmetic_45 (by decide) ?_
  exact me_reti (me_kp M0) h hx hb hr hlocks hwf hkp hP hK hD hS d_Steps_arithmetic_46
