theorem d_Machine_step_0 : decode prog_7_method_6_code 0 = .ok (.aload_n 0, 1) := by decide +kernel
theorem d_Machine_step_1 : decode prog_7_method_6_code 1 = .ok (.aload_n 0, 1) := by decide +kernel
theorem d_Machine_step_2 : decode prog_7_method_6_code 2 = .ok (.getfield 48, 3) := by decide +kernel
theorem d_Machine_step_5 : decode prog_7_method_6_code 5 = .ok (.iload_n 1, 1) := by decide +kernel
theorem d_Machine_step_6 : decode prog_7_method_6_code 6 = .ok (.invokevirtual 132, 3) := by decide +kernel
theorem u_1653 : Cond.methodLink "FilterGuard$Machine" 132 ⟨"FilterGuard$Code", "behind", "(I)I"⟩ ∈ fg_g := fg_in (List.mem_of_getElem? (i := 1653) (by decide +kernel)) rfl
theorem d_Machine_step_9 : decode prog_7_method_6_code 9 = .ok (.putfield 76, 3) := by decide +kernel
theorem d_Machine_step_12 : decode prog_7_method_6_code 12 = .ok (.aload_n 0, 1) := by decide +kernel
theorem d_Machine_step_13 : decode prog_7_method_6_code 13 = .ok (.getfield 48, 3) := by decide +kernel
theorem d_Machine_step_16 : decode prog_7_method_6_code 16 = .ok (.getfield 98, 3) := by decide +kernel
theorem d_Machine_step_19 : decode prog_7_method_6_code 19 = .ok (.tableswitch 194 1 9 #[49, 189, 189, 189, 189, 92, 126, 140, 184], 49) := by decide +kernel
theorem d_Machine_step_68 : decode prog_7_method_6_code 68 = .ok (.aload_n 0, 1) := by decide +kernel
theorem d_Machine_step_69 : decode prog_7_method_6_code 69 = .ok (.getfield 18, 3) := by decide +kernel
theorem d_Machine_step_72 : decode prog_7_method_6_code 72 = .ok (.aload_n 0, 1) := by decide +kernel
theorem d_Machine_step_73 : decode prog_7_method_6_code 73 = .ok (.getfield 48, 3) := by decide +kernel
theorem d_Machine_step_76 : decode prog_7_method_6_code 76 = .ok (.getfield 136, 3) := by decide +kernel
theorem d_Machine_step_79 : decode prog_7_method_6_code 79 = .ok (.aload_n 0, 1) := by decide +kernel
theorem d_Machine_step_80 : decode prog_7_method_6_code 80 = .ok (.getfield 48, 3) := by decide +kernel
theorem d_Machine_step_83 : decode prog_7_method_6_code 83 = .ok (.getfield 139, 3) := by decide +kernel
theorem d_Machine_step_86 : decode prog_7_method_6_code 86 = .ok (.ifCond .ne 14, 3) := by decide +kernel
theorem d_Machine_step_100 : decode prog_7_method_6_code 100 = .ok (.aload_n 0, 1) := by decide +kernel
theorem d_Machine_step_101 : decode prog_7_method_6_code 101 = .ok (.getfield 48, 3) := by decide +kernel
theorem d_Machine_step_104 : decode prog_7_method_6_code 104 = .ok (.getfield 101, 3) := by decide +kernel
theorem d_Machine_step_107 : decode prog_7_method_6_code 107 = .ok (.i2l, 1) := by decide +kernel
theorem d_Machine_step_108 : decode prog_7_method_6_code 108 = .ok (.lastore, 1) := by decide +kernel
theorem d_Machine_step_109 : decode prog_7_method_6_code 109 = .ok (.iconst 1, 1) := by decide +kernel
theorem d_Machine_step_110 : decode prog_7_method_6_code 110 = .ok (.ireturn, 1) := by decide +kernel
theorem d_Machine_step_89 : decode prog_7_method_6_code 89 = .ok (.aload_n 0, 1) := by decide +kernel
theorem d_Machine_step_90 : decode prog_7_method_6_code 90 = .ok (.getfield 48, 3) := by decide +kernel
theorem d_Machine_step_93 : decode prog_7_method_6_code 93 = .ok (.iload_n 1, 1) := by decide +kernel
theorem d_Machine_step_94 : decode prog_7_method_6_code 94 = .ok (.invokevirtual 142, 3) := by decide +kernel
theorem u_1654 : Cond.methodLink "FilterGuard$Machine" 142 ⟨"FilterGuard$Code", "wideNumber", "(I)J"⟩ ∈ fg_g := fg_in (List.mem_of_getElem? (i := 1654) (by decide +kernel)) rfl
theorem d_Machine_step_97 : decode prog_7_method_6_code 97 = .ok (.goto 11, 3) := by decide +kernel
theorem d_Machine_step_208 : decode prog_7_method_6_code 208 = .ok (.aload_n 0, 1) := by decide +kernel
theorem d_Machine_step_209 : decode prog_7_method_6_code 209 = .ok (.invokevirtual 164, 3) := by decide +kernel
theorem u_1714 : Cond.methodLink "FilterGuard$Machine" 164 ⟨"FilterGuard$Machine", "memory", "()Z"⟩ ∈ fg_g := fg_in (List.mem_of_getElem? (i := 1714) (by decide +kernel)) rfl
theorem u_1717 : Cond.code ⟨"FilterGuard$Machine", "memory", "()Z"⟩ prog_7_method_11_code 6 (some .boolean) ∈ fg_g := fg_in (List.mem_of_getElem? (i := 1717) (by decide +kernel)) rfl
theorem u_1716 : Cond.instanceMethod ⟨"FilterGuard$Machine", "memory", "()Z"⟩ ∈ fg_g := fg_in (List.mem_of_getElem? (i := 1716) (by decide +kernel)) rfl
theorem u_83 : Cond.selects "FilterGuard$Machine" ⟨"FilterGuard$Machine", "memory", "()Z"⟩ ⟨"FilterGuard$Machine", "memory", "()Z"⟩ ∈ fg_g := fg_in (List.mem_of_getElem? (i := 83) (by decide +kernel)) rfl
theorem d_Machine_step_212 : decode prog_7_method_6_code 212 = .ok (.ireturn, 1) := by decide +kernel
theorem d_Machine_step_111 : decode prog_7_method_6_code 111 = .ok (.aload_n 0, 1) := by decide +kernel
theorem d_Machine_step_112 : decode prog_7_method_6_code 112 = .ok (.getfield 18, 3) := by decide +kernel
theorem d_Machine_step_115 : decode prog_7_method_6_code 115 = .ok (.aload_n 0, 1) := by decide +kernel
theorem d_Machine_step_116 : decode prog_7_method_6_code 116 = .ok (.getfield 48, 3) := by decide +kernel
theorem d_Machine_step_119 : decode prog_7_method_6_code 119 = .ok (.getfield 136, 3) := by decide +kernel
theorem d_Machine_step_122 : decode prog_7_method_6_code 122 = .ok (.aload_n 0, 1) := by decide +kernel
theorem d_Machine_step_123 : decode prog_7_method_6_code 123 = .ok (.aload_n 0, 1) := by decide +kernel
theorem d_Machine_step_124 : decode prog_7_method_6_code 124 = .ok (.getfield 18, 3) := by decide +kernel
theorem d_Machine_step_127 : decode prog_7_method_6_code 127 = .ok (.aload_n 0, 1) := by decide +kernel
theorem d_Machine_step_128 : decode prog_7_method_6_code 128 = .ok (.getfield 48, 3) := by decide +kernel
theorem d_Machine_step_131 : decode prog_7_method_6_code 131 = .ok (.getfield 136, 3) := by decide +kernel
theorem d_Machine_step_134 : decode prog_7_method_6_code 134 = .ok (.laload, 1) := by decide +kernel
theorem d_Machine_step_135 : decode prog_7_method_6_code 135 = .ok (.aload_n 0, 1) := by decide +kernel
theorem d_Machine_step_136 : decode prog_7_method_6_code 136 = .ok (.invokevirtual 145, 3) := by decide +kernel
theorem d_Machine_step_139 : decode prog_7_method_6_code 139 = .ok (.invokevirtual 149, 3) := by decide +kernel
theorem u_1660 : Cond.methodLink "FilterGuard$Machine" 149 ⟨"FilterGuard$Machine", "reckoned", "(JJ)J"⟩ ∈ fg_g := fg_in (List.mem_of_getElem? (i := 1660) (by decide +kernel)) rfl
theorem u_1663 : Cond.code ⟨"FilterGuard$Machine", "reckoned", "(JJ)J"⟩ prog_7_method_8_code 9 (some .long) ∈ fg_g := fg_in (List.mem_of_getElem? (i := 1663) (by decide +kernel)) rfl
theorem u_1662 : Cond.instanceMethod ⟨"FilterGuard$Machine", "reckoned", "(JJ)J"⟩ ∈ fg_g := fg_in (List.mem_of_getElem? (i := 1662) (by decide +kernel)) rfl
theorem u_75 : Cond.selects "FilterGuard$Machine" ⟨"FilterGuard$Machine", "reckoned", "(JJ)J"⟩ ⟨"FilterGuard$Machine", "reckoned", "(JJ)J"⟩ ∈ fg_g := fg_in (List.mem_of_getElem? (i := 75) (by decide +kernel)) rfl
theorem d_Machine_step_142 : decode prog_7_method_6_code 142 = .ok (.lastore, 1) := by decide +kernel
theorem d_Machine_step_143 : decode prog_7_method_6_code 143 = .ok (.iconst 1, 1) := by decide +kernel
theorem d_Machine_step_144 : decode prog_7_method_6_code 144 = .ok (.ireturn, 1) := by decide +kernel
theorem d_Machine_step_145 : decode prog_7_method_6_code 145 = .ok (.aload_n 0, 1) := by decide +kernel
theorem d_Machine_step_146 : decode prog_7_method_6_code 146 = .ok (.aload_n 0, 1) := by decide +kernel
theorem d_Machine_step_147 : decode prog_7_method_6_code 147 = .ok (.getfield 48, 3) := by decide +kernel
theorem d_Machine_step_150 : decode prog_7_method_6_code 150 = .ok (.iload_n 1, 1) := by decide +kernel
theorem d_Machine_step_151 : decode prog_7_method_6_code 151 = .ok (.invokevirtual 153, 3) := by decide +kernel
theorem u_1674 : Cond.methodLink "FilterGuard$Machine" 153 ⟨"FilterGuard$Code", "target", "(I)I"⟩ ∈ fg_g := fg_in (List.mem_of_getElem? (i := 1674) (by decide +kernel)) rfl
theorem d_Machine_step_154 : decode prog_7_method_6_code 154 = .ok (.putfield 76, 3) := by decide +kernel
theorem d_Machine_step_157 : decode prog_7_method_6_code 157 = .ok (.iconst 1, 1) := by decide +kernel
theorem d_Machine_step_158 : decode prog_7_method_6_code 158 = .ok (.ireturn, 1) := by decide +kernel
theorem d_Machine_step_159 : decode prog_7_method_6_code 159 = .ok (.aload_n 0, 1) := by decide +kernel
theorem d_Machine_step_160 : decode prog_7_method_6_code 160 = .ok (.aload_n 0, 1) := by decide +kernel
theorem d_Machine_step_161 : decode prog_7_method_6_code 161 = .ok (.aload_n 0, 1) := by decide +kernel
theorem d_Machine_step_162 : decode prog_7_method_6_code 162 = .ok (.getfield 18, 3) := by decide +kernel
theorem d_Machine_step_165 : decode prog_7_method_6_code 165 = .ok (.aload_n 0, 1) := by decide +kernel
theorem d_Machine_step_166 : decode prog_7_method_6_code 166 = .ok (.getfield 48, 3) := by decide +kernel
theorem d_Machine_step_169 : decode prog_7_method_6_code 169 = .ok (.getfield 136, 3) := by decide +kernel
theorem d_Machine_step_172 : decode prog_7_method_6_code 172 = .ok (.laload, 1) := by decide +kernel
theorem d_Machine_step_173 : decode prog_7_method_6_code 173 = .ok (.aload_n 0, 1) := by decide +kernel
theorem d_Machine_step_174 : decode prog_7_method_6_code 174 = .ok (.invokevirtual 145, 3) := by decide +kernel
theorem d_Machine_step_177 : decode prog_7_method_6_code 177 = .ok (.invokevirtual 156, 3) := by decide +kernel
theorem u_1675 : Cond.methodLink "FilterGuard$Machine" 156 ⟨"FilterGuard$Machine", "holds", "(JJ)Z"⟩ ∈ fg_g := fg_in (List.mem_of_getElem? (i := 1675) (by decide +kernel)) rfl
theorem u_1678 : Cond.code ⟨"FilterGuard$Machine", "holds", "(JJ)Z"⟩ prog_7_method_10_code 13 (some .boolean) ∈ fg_g := fg_in (List.mem_of_getElem? (i := 1678) (by decide +kernel)) rfl
theorem u_1677 : Cond.instanceMethod ⟨"FilterGuard$Machine", "holds", "(JJ)Z"⟩ ∈ fg_g := fg_in (List.mem_of_getElem? (i := 1677) (by decide +kernel)) rfl
theorem u_77 : Cond.selects "FilterGuard$Machine" ⟨"FilterGuard$Machine", "holds", "(JJ)Z"⟩ ⟨"FilterGuard$Machine", "holds", "(JJ)Z"⟩ ∈ fg_g := fg_in (List.mem_of_getElem? (i := 77) (by decide +kernel)) rfl
theorem d_Machine_step_180 : decode prog_7_method_6_code 180 = .ok (.ifCond .eq 14, 3) := by decide +kernel
theorem d_Machine_step_194 : decode prog_7_method_6_code 194 = .ok (.aload_n 0, 1) := by decide +kernel
theorem d_Machine_step_195 : decode prog_7_method_6_code 195 = .ok (.getfield 76, 3) := by decide +kernel
theorem g_Machine_17 {p : Program} {l : Launch} {e : Env} {R : Room} {s : Jvm.State} {m : MethodId} {args : Array Value} {below : List Frame} {meth : Method} {c : Code} {H : Heap} {locs : List Loc} {cells slots : Nat} {Q : Jvm.State → Prop} {cc : ByteArray} {pc : Nat} {ls : Array Slot} {rest : List Value} {D : va_G} {ad : Nat → Nat → Nat} {ca : Nat → ClassId} {M : me_M} {N : Nat → Nat} {own : String} {index j : Nat} (hexec : p.tables.exec = Jvm.exec) (hb : c.code = cc) (hts : ∀ w ∈ fg_g, w.before args s = true) (hown : s.vm.findClass own = some m.cls) (hK : va_K D classes (me_T ca) s) (hP : va_P D classes (me_W ad ca M) H) (hwf : me_wf N M) (hj : j < N 5) (hlink : (Cond.fieldLink own index "FilterGuard$Machine" "at" "I").before args s = true) (hdg : decode cc pc = .ok (.getfield index, 3)) (kk : W p l e R s m args below meth c H locs cells slots Q (F0 m (pc + 3) ls (.int (mI M 5 j 17) :: rest))) : W p l e R s m args below meth c H locs cells slots Q (F0 m pc ls (.ref (ad 5 j) :: rest)) := me_get (k := 5) (f := 17) (C := "FilterGuard$Machine") (T := F_Machine) (Nf := 20) hexec hb hts i_Machine hown hK hP hwf hj (by decide) rfl (by decide) (by decide) hlink (fun _ h9 => h9) hdg kk
theorem d_Machine_step_198 : decode prog_7_method_6_code 198 = .ok (.putfield 76, 3) := by decide +kernel
theorem d_Machine_step_201 : decode prog_7_method_6_code 201 = .ok (.iconst 1, 1) := by decide +kernel
theorem d_Machine_step_202 : decode prog_7_method_6_code 202 = .ok (.ireturn, 1) := by decide +kernel
theorem d_Machine_step_183 : decode prog_7_method_6_code 183 = .ok (.aload_n 0, 1) := by decide +kernel
theorem d_Machine_step_184 : decode prog_7_method_6_code 184 = .ok (.getfield 48, 3) := by decide +kernel
theorem d_Machine_step_187 : decode prog_7_method_6_code 187 = .ok (.iload_n 1, 1) := by decide +kernel
theorem d_Machine_step_188 : decode prog_7_method_6_code 188 = .ok (.invokevirtual 153, 3) := by decide +kernel
theorem d_Machine_step_191 : decode prog_7_method_6_code 191 = .ok (.goto 7, 3) := by decide +kernel
theorem d_Machine_step_203 : decode prog_7_method_6_code 203 = .ok (.aload_n 0, 1) := by decide +kernel
theorem d_Machine_step_204 : decode prog_7_method_6_code 204 = .ok (.invokevirtual 160, 3) := by decide +kernel
theorem u_1680 : Cond.methodLink "FilterGuard$Machine" 160 ⟨"FilterGuard$Machine", "help", "()Z"⟩ ∈ fg_g := fg_in (List.mem_of_getElem? (i := 1680) (by decide +kernel)) rfl
theorem u_1683 : Cond.code ⟨"FilterGuard$Machine", "help", "()Z"⟩ prog_7_method_16_code 1 (some .boolean) ∈ fg_g := fg_in (List.mem_of_getElem? (i := 1683) (by decide +kernel)) rfl
theorem u_1682 : Cond.instanceMethod ⟨"FilterGuard$Machine", "help", "()Z"⟩ ∈ fg_g := fg_in (List.mem_of_getElem? (i := 1682) (by decide +kernel)) rfl
theorem u_78 : Cond.selects "FilterGuard$Machine" ⟨"FilterGuard$Machine", "help", "()Z"⟩ ⟨"FilterGuard$Machine", "help", "()Z"⟩ ∈ fg_g := fg_in (List.mem_of_getElem? (i := 78) (by decide +kernel)) rfl
theorem d_Machine_step_207 : decode prog_7_method_6_code 207 = .ok (.ireturn, 1) := by decide +kernel
theorem d_Machine_step_213 : decode prog_7_method_6_code 213 = .ok (.iconst 0, 1) := by decide +kernel
theorem d_Machine_step_214 : decode prog_7_method_6_code 214 = .ok (.ireturn, 1) := by decide +kernel
abbrev y_Machine_step : MethodName := ⟨"FilterGuard$Machine", "step", "(I)Z"⟩
def f_Machine_step (M0 : me_M) (j0 : Nat) (x1 : Int32) : Option (me_M × Int32) := bd (mR M0 5 j0 16) (fun (j1 : Nat) => b2 (f_Code_behind M0 j1 x1) (fun (M3 : me_M) (r4 : Int32) => st (wI M3 5 j0 17 r4) (fun (M5 : me_M) => bd (mR M5 5 j0 16) (fun (j6 : Nat) => (if (mI M5 2 j6 10) = 1 then bd (mR M5 5 j0 6) (fun (j10 : Nat) => (if (mI M5 2 j6 7) = 0 then b2 (f_Code_wideNumber M5 j6 x1) (fun (M15 : me_M) (r16 : Int64) => gd (¬ ((mI M5 2 j6 6) < 0 ∨ mZ M0 16 j10 ≤ (mI M5 2 j6 6).toNatClampNeg)) (st (wL M15 16 j10 (mI M5 2 j6 6).toNatClampNeg r16) (fun (M18 : me_M) => some (M18, (1 : Int32))))) else gd (¬ ((mI M5 2 j6 6) < 0 ∨ mZ M0 16 j10 ≤ (mI M5 2 j6 6).toNatClampNeg)) (st (wL M5 16 j10 (mI M5 2 j6 6).toNatClampNeg ((mI M5 2 j6 9).toInt64)) (fun (M14 : me_M) => some (M14, (1 : Int32)))))) else (if (mI M5 2 j6 10) = 2 then b2 (f_Machine_memory M5 j0) (fun (M20 : me_M) (r21 : Int32) => some (M20, r21)) else (if (mI M5 2 j6 10) = 3 then b2 (f_Machine_memory M5 j0) (fun (M23 : me_M) (r24 : Int32) => some (M23, r24)) else (if (mI M5 2 j6 10) = 4 then b2 (f_Machine_memory M5 j0) (fun (M26 : me_M) (r27 : Int32) => some (M26, r27)) else (if (mI M5 2 j6 10) = 5 then b2 (f_Machine_memory M5 j0) (fun (M29 : me_M) (r30 : Int32) => some (M29, r30)) else (if (mI M5 2 j6 10) = 6 then bd (mR M5 5 j0 6) (fun (j32 : Nat) => gd (¬ ((mI M5 2 j6 6) < 0 ∨ mZ M0 16 j32 ≤ (mI M5 2 j6 6).toNatClampNeg)) (b2 (f_Machine_operand M5 j0) (fun (M35 : me_M) (r36 : Int64) => b2 (f_Machine_reckoned M35 j0 (mL M5 16 j32 (mI M5 2 j6 6).toNatClampNeg) r36) (fun (M37 : me_M) (r38 : Int64) => st (wL M37 16 j32 (mI M5 2 j6 6).toNatClampNeg r38) (fun (M39 : me_M) => some (M39, (1 : Int32))))))) else (if (mI M5 2 j6 10) = 7 then b2 (f_Code_target M5 j6 x1) (fun (M41 : me_M) (r42 : Int32) => st (wI M41 5 j0 17 r42) (fun (M43 : me_M) => some (M43, (1 : Int32)))) else (if (mI M5 2 j6 10) = 8 then bd (mR M5 5 j0 6) (fun (j45 : Nat) => gd (¬ ((mI M5 2 j6 6) < 0 ∨ mZ M0 16 j45 ≤ (mI M5 2 j6 6).toNatClampNeg)) (b2 (f_Machine_operand M5 j0) (fun (M48 : me_M) (r49 : Int64) => b2 (f_Machine_holds M48 j0 (mL M5 16 j45 (mI M5 2 j6 6).toNatClampNeg) r49) (fun (M50 : me_M) (r51 : Int32) => (if r51 = 0 then st (wI M50 5 j0 17 (mI M50 5 j0 17)) (fun (M53 : me_M) => some (M53, (1 : Int32))) else bd (mR M50 5 j0 16) (fun (j54 : Nat) => b2 (f_Code_target M50 j54 x1) (fun (M56 : me_M) (r57 : Int32) => st (wI M56 5 j0 17 r57) (fun (M58 : me_M) => some (M58, (1 : Int32)))))))))) else (if (mI M5 2 j6 10) = 9 then b2 (f_Machine_help M5 j0) (fun (M60 : me_M) (r61 : Int32) => some (M60, r61)) else some (M5, (0 : Int32)))))))))))))))
def rm_Machine_step : Room := { frames := 6, cells := 0, slots := 0, locals := 141 }
abbrev q_Machine_step (D : va_G) (ad : Nat → Nat → Nat) (ca : Nat → ClassId) (N : Nat → Nat) (M0 MZ : me_M) (RZ : Int32) (A : Nat → Prop) : Array Value → Jvm.State → Outcome → Jvm.State → Prop := va_Qi (fun r (_ : Unit) => r = RZ ∧ me_wf N MZ ∧ me_kz M0 MZ ∧ (RZ = 1 ∨ RZ = 0)) (fg_B D A (fun _ => me_W ad ca MZ) (fun _ => [])) A
set_option maxHeartbeats 4000000 in
set_option maxRecDepth 100000 in
theorem c_Machine_step (l : Launch) (D : va_G) (ad : Nat → Nat → Nat) (ca : Nat → ClassId) (N : Nat → Nat) (M0 MZ : me_M) (RZ : Int32) (j0 : Nat) (x1 : Int32) (h : f_Machine_step M0 j0 x1 = (some (MZ, RZ))) (hwf : me_wf N M0) (hj0 : j0 < N 5) (sz : Nat) : Met l y_Machine_step (fg_w y_Machine_step prog_7_method_6_code 2 (some .boolean)) rm_Machine_step (va_Pc [.ref (ad 5 j0), .int x1] (fz_P D (me_T ca) (me_W ad ca M0) sz)) (q_Machine_step D ad ca N M0 MZ RZ (va_A (me_W ad ca M0) sz)) rm_Machine_step.cells rm_Machine_step.slots (va_A (me_W ad ca M0) sz) := by
  refine fz_enter (fun A => q_Machine_step D ad ca N M0 MZ RZ A) (by decide +kernel) (Nat.le_of_ble_eq_true rfl) ?_
  intro p e s m below meth c ls A hx hb hml hown hts hr hlocks hin hP hK hD hS hA hX hl hz
  have hl : lv_has ls 2 [(0, .ref (ad 5 j0)), (1, .int x1)] := hl
  unfold f_Machine_step at h
  have hkp : me_kz M0 M0 := me_kz.rf
  have hkb := hkp
  refine lv_aload_n hx hb d_Machine_step_0 rfl (lv_at hl 0 rfl) ?_
  refine lv_aload_n hx hb d_Machine_step_1 rfl (lv_at hl 0 rfl) ?_
  refine g_Machine_16 hx hb hts hown hK hP hwf hj0 (hts _ u_648) d_Machine_step_2 ?_
  obtain ⟨j1, e2, h⟩ := bd_ob h
  have hj1 : j1 < N 2 := (hwf.2.1 5 j0 16 _ e2 (by decide) hj0)
  refine me_opt (j := j1) e2 ?_
  refine lv_iload_n hx hb d_Machine_step_5 rfl (lv_at hl 1 rfl) ?_
  obtain ⟨M3, r4, eM3, h⟩ := b2_ob h
  refine me_theni0 (M1 := M3) (me_runV (C := "FilterGuard$Code") (As := [.int x1]) (rest := [.ref (ad 5 j0)]) ⟨hx, hb, hml, hown, hts⟩ (c_Code_behind l D ad ca N M0 M3 r4 j1 x1 eM3 hwf hj1 _) rfl (by show fg_nm y_Code_behind 1; decide +kernel) u_1653 u_1440 u_1441 u_182 u_1442 ⟨Nat.le_of_ble_eq_true rfl, Nat.le_of_ble_eq_true rfl⟩ hX hz hK hP hD hwf hS hA hj1 (by decide) rfl rfl rfl hl.1 (Nat.le_of_ble_eq_true rfl) d_Machine_step_6 ⟨Nat.le_of_ble_eq_true rfl, Nat.le_of_ble_eq_true rfl⟩) hP hD hK hS hA rfl rfl (fun H locs hw hP hD hS => ?_)
  obtain ⟨hwf, hk9⟩ := hw
  have hkp := hkp.tr hk9.z
  obtain ⟨M5, eM5, h⟩ := st_ob h
  refine p_Machine_17 eM5 hx hb hts hown hK hP hD hwf hS hj0 (hts _ u_649) d_Machine_step_9 (fun H locs hP hD hwf hS => ?_)
  have hkp := kz_I eM5 hkp
  refine lv_aload_n hx hb d_Machine_step_12 rfl (lv_at hl 0 rfl) ?_
  refine g_Machine_16 hx hb hts hown hK hP hwf hj0 (hts _ u_648) d_Machine_step_13 ?_
  obtain ⟨j6, e7, h⟩ := bd_ob h
  have hj6 : j6 < N 2 := (hwf.2.1 5 j0 16 _ e7 (by decide) hj0)
  refine me_opt (j := j6) e7 ?_
  refine g_Code_10 hx hb hts hown hK hP hwf hj6 (hts _ u_254) d_Machine_step_16 ?_
  refine lv_topi (fun w8 ew8 => ?_)
  by_cases n9 : w8 = 1
  · have h := if_t (ew8.symm.trans n9) h
    subst n9
    refine lv_tableIn (off := 49) (tgt := 68) hx hb d_Machine_step_19 (by decide) (by decide) (by decide) (by decide) ?_
    refine lv_aload_n hx hb d_Machine_step_68 rfl (lv_at hl 0 rfl) ?_
    refine g_Machine_6 hx hb hts hown hK hP hwf hj0 (hts _ u_629) d_Machine_step_69 ?_
    obtain ⟨j10, e11, h⟩ := bd_ob h
    have hj10 : j10 < N 16 := (hwf.2.1 5 j0 6 _ e11 (by decide) hj0)
    refine me_opt (j := j10) e11 ?_
    refine lv_aload_n hx hb d_Machine_step_72 rfl (lv_at hl 0 rfl) ?_
    refine g_Machine_16 hx hb hts hown hK hP hwf hj0 (hts _ u_648) d_Machine_step_73 ?_
    refine me_opt (j := j6) e7 ?_
    refine g_Code_6 hx hb hts hown hK hP hwf hj6 (hts _ u_235) d_Machine_step_76 ?_
    refine lv_aload_n hx hb d_Machine_step_79 rfl (lv_at hl 0 rfl) ?_
    refine g_Machine_16 hx hb hts hown hK hP hwf hj0 (hts _ u_648) d_Machine_step_80 ?_
    refine me_opt (j := j6) e7 ?_
    refine g_Code_7 hx hb hts hown hK hP hwf hj6 (hts _ u_241) d_Machine_step_83 ?_
    refine lv_if_ne (tgt := 100) hx hb d_Machine_step_86 (by decide) (fun c12 => ?_) (fun c12 => ?_)
    · have h := if_f c12 h
      refine lv_aload_n hx hb d_Machine_step_100 rfl (lv_at hl 0 rfl) ?_
      refine g_Machine_16 hx hb hts hown hK hP hwf hj0 (hts _ u_648) d_Machine_step_101 ?_
      refine me_opt (j := j6) e7 ?_
      refine g_Code_9 hx hb hts hown hK hP hwf hj6 (hts _ u_249) d_Machine_step_104 ?_
      refine lv_i2l (v := (mI M5 2 j6 9).toInt64) hx hb d_Machine_step_107 rfl ?_
      obtain ⟨g13, h⟩ := gd_ob h
      obtain ⟨M14, eM14, h⟩ := st_ob h
      refine me_last eM14 hx hb hK hP hD hwf hS hj10 (kp_z hkb hkp g13) d_Machine_step_108 (fun H locs hP hD hwf hS => ?_)
      have hkp := kz_L eM14 hkp
      refine lv_iconst (v := 1) hx hb d_Machine_step_109 (by decide) ?_
      exact me_retz (me_kz M0) h (by decide) hx hb hr hlocks hwf hkp hP hK hD hS d_Machine_step_110
    have h := if_t c12 h
    refine lv_aload_n hx hb d_Machine_step_89 rfl (lv_at hl 0 rfl) ?_
    refine g_Machine_16 hx hb hts hown hK hP hwf hj0 (hts _ u_648) d_Machine_step_90 ?_
    refine me_opt (j := j6) e7 ?_
    refine lv_iload_n hx hb d_Machine_step_93 rfl (lv_at hl 1 rfl) ?_
    obtain ⟨M15, r16, eM15, h⟩ := b2_ob h
    refine me_thenl0 (M1 := M15) (me_runV (C := "FilterGuard$Code") (As := [.int x1]) (rest := [.int (mI M5 2 j6 6), .ref (ad 16 j10)]) ⟨hx, hb, hml, hown, hts⟩ (c_Code_wideNumber l D ad ca N M5 M15 r16 j6 x1 eM15 hwf hj6 _) rfl (by show fg_nm y_Code_wideNumber 1; decide +kernel) u_1654 u_1100 u_1101 u_182 u_1102 ⟨Nat.le_of_ble_eq_true rfl, Nat.le_of_ble_eq_true rfl⟩ hX hz hK hP hD hwf hS hA hj6 (by decide) rfl rfl rfl hl.1 (Nat.le_of_ble_eq_true rfl) d_Machine_step_94 ⟨Nat.le_of_ble_eq_true rfl, Nat.le_of_ble_eq_true rfl⟩) hP hD hK hS hA rfl rfl (fun H locs hw hP hD hS => ?_)
    obtain ⟨hwf, hk9⟩ := hw
    have hkp := hkp.tr hk9.z
    refine lv_goto (tgt := 108) hx hb d_Machine_step_97 (by decide) ?_
    obtain ⟨g17, h⟩ := gd_ob h
    obtain ⟨M18, eM18, h⟩ := st_ob h
    refine me_last eM18 hx hb hK hP hD hwf hS hj10 (kp_z hkb hkp g17) d_Machine_step_108 (fun H locs hP hD hwf hS => ?_)
    have hkp := kz_L eM18 hkp
    refine lv_iconst (v := 1) hx hb d_Machine_step_109 (by decide) ?_
    exact me_retz (me_kz M0) h (by decide) hx hb hr hlocks hwf hkp hP hK hD hS d_Machine_step_110
  have h := if_f (fun z => n9 (ew8.trans z)) h
  by_cases n19 : w8 = 2
  · have h := if_t (ew8.symm.trans n19) h
    subst n19
    refine lv_tableIn (off := 189) (tgt := 208) hx hb d_Machine_step_19 (by decide) (by decide) (by decide) (by decide) ?_
    refine lv_aload_n hx hb d_Machine_step_208 rfl (lv_at hl 0 rfl) ?_
    obtain ⟨M20, r21, eM20, h⟩ := b2_ob h
    refine me_theni0 (M1 := M20) (me_runV (C := "FilterGuard$Machine") (As := []) (rest := []) ⟨hx, hb, hml, hown, hts⟩ (c_Machine_memory l D ad ca N M5 M20 r21 j0 eM20 hwf hj0 _) rfl (by show fg_nm y_Machine_memory 0; decide +kernel) u_1714 u_1716 u_83 u_190 u_1717 ⟨Nat.le_of_ble_eq_true rfl, Nat.le_of_ble_eq_true rfl⟩ hX hz hK hP hD hwf hS hA hj0 (by decide) rfl rfl rfl hl.1 (Nat.le_of_ble_eq_true rfl) d_Machine_step_209 ⟨Nat.le_of_ble_eq_true rfl, Nat.le_of_ble_eq_true rfl⟩) hP hD hK hS hA rfl rfl (fun H locs hw hP hD hS => ?_)
    obtain ⟨hwf, hk9, zr21⟩ := hw
    have hkp := hkp.tr hk9
    exact me_retz (me_kz M0) h zr21 hx hb hr hlocks hwf hkp hP hK hD hS d_Machine_step_212
  have h := if_f (fun z => n19 (ew8.trans z)) h
  by_cases n22 : w8 = 3
  · have h := if_t (ew8.symm.trans n22) h
    subst n22
    refine lv_tableIn (off := 189) (tgt := 208) hx hb d_Machine_step_19 (by decide) (by decide) (by decide) (by decide) ?_
    refine lv_aload_n hx hb d_Machine_step_208 rfl (lv_at hl 0 rfl) ?_
    obtain ⟨M23, r24, eM23, h⟩ := b2_ob h
    refine me_theni0 (M1 := M23) (me_runV (C := "FilterGuard$Machine") (As := []) (rest := []) ⟨hx, hb, hml, hown, hts⟩ (c_Machine_memory l D ad ca N M5 M23 r24 j0 eM23 hwf hj0 _) rfl (by show fg_nm y_Machine_memory 0; decide +kernel) u_1714 u_1716 u_83 u_190 u_1717 ⟨Nat.le_of_ble_eq_true rfl, Nat.le_of_ble_eq_true rfl⟩ hX hz hK hP hD hwf hS hA hj0 (by decide) rfl rfl rfl hl.1 (Nat.le_of_ble_eq_true rfl) d_Machine_step_209 ⟨Nat.le_of_ble_eq_true rfl, Nat.le_of_ble_eq_true rfl⟩) hP hD hK hS hA rfl rfl (fun H locs hw hP hD hS => ?_)
    obtain ⟨hwf, hk9, zr24⟩ := hw
    have hkp := hkp.tr hk9
    exact me_retz (me_kz M0) h zr24 hx hb hr hlocks hwf hkp hP hK hD hS d_Machine_step_212
  have h := if_f (fun z => n22 (ew8.trans z)) h
  by_cases n25 : w8 = 4
  · have h := if_t (ew8.symm.trans n25) h
    subst n25
    refine lv_tableIn (off := 189) (tgt := 208) hx hb d_Machine_step_19 (by decide) (by decide) (by decide) (by decide) ?_
    refine lv_aload_n hx hb d_Machine_step_208 rfl (lv_at hl 0 rfl) ?_
    obtain ⟨M26, r27, eM26, h⟩ := b2_ob h
    refine me_theni0 (M1 := M26) (me_runV (C := "FilterGuard$Machine") (As := []) (rest := []) ⟨hx, hb, hml, hown, hts⟩ (c_Machine_memory l D ad ca N M5 M26 r27 j0 eM26 hwf hj0 _) rfl (by show fg_nm y_Machine_memory 0; decide +kernel) u_1714 u_1716 u_83 u_190 u_1717 ⟨Nat.le_of_ble_eq_true rfl, Nat.le_of_ble_eq_true rfl⟩ hX hz hK hP hD hwf hS hA hj0 (by decide) rfl rfl rfl hl.1 (Nat.le_of_ble_eq_true rfl) d_Machine_step_209 ⟨Nat.le_of_ble_eq_true rfl, Nat.le_of_ble_eq_true rfl⟩) hP hD hK hS hA rfl rfl (fun H locs hw hP hD hS => ?_)
    obtain ⟨hwf, hk9, zr27⟩ := hw
    have hkp := hkp.tr hk9
    exact me_retz (me_kz M0) h zr27 hx hb hr hlocks hwf hkp hP hK hD hS d_Machine_step_212
  have h := if_f (fun z => n25 (ew8.trans z)) h
  by_cases n28 : w8 = 5
  · have h := if_t (ew8.symm.trans n28) h
    subst n28
    refine lv_tableIn (off := 189) (tgt := 208) hx hb d_Machine_step_19 (by decide) (by decide) (by decide) (by decide) ?_
    refine lv_aload_n hx hb d_Machine_step_208 rfl (lv_at hl 0 rfl) ?_
    obtain ⟨M29, r30, eM29, h⟩ := b2_ob h
    refine me_theni0 (M1 := M29) (me_runV (C := "FilterGuard$Machine") (As := []) (rest := []) ⟨hx, hb, hml, hown, hts⟩ (c_Machine_memory l D ad ca N M5 M29 r30 j0 eM29 hwf hj0 _) rfl (by show fg_nm y_Machine_memory 0; decide +kernel) u_1714 u_1716 u_83 u_190 u_1717 ⟨Nat.le_of_ble_eq_true rfl, Nat.le_of_ble_eq_true rfl⟩ hX hz hK hP hD hwf hS hA hj0 (by decide) rfl rfl rfl hl.1 (Nat.le_of_ble_eq_true rfl) d_Machine_step_209 ⟨Nat.le_of_ble_eq_true rfl, Nat.le_of_ble_eq_true rfl⟩) hP hD hK hS hA rfl rfl (fun H locs hw hP hD hS => ?_)
    obtain ⟨hwf, hk9, zr30⟩ := hw
    have hkp := hkp.tr hk9
    exact me_retz (me_kz M0) h zr30 hx hb hr hlocks hwf hkp hP hK hD hS d_Machine_step_212
  have h := if_f (fun z => n28 (ew8.trans z)) h
  by_cases n31 : w8 = 6
  · have h := if_t (ew8.symm.trans n31) h
    subst n31
    refine lv_tableIn (off := 92) (tgt := 111) hx hb d_Machine_step_19 (by decide) (by decide) (by decide) (by decide) ?_
    refine lv_aload_n hx hb d_Machine_step_111 rfl (lv_at hl 0 rfl) ?_
    refine g_Machine_6 hx hb hts hown hK hP hwf hj0 (hts _ u_629) d_Machine_step_112 ?_
    obtain ⟨j32, e33, h⟩ := bd_ob h
    have hj32 : j32 < N 16 := (hwf.2.1 5 j0 6 _ e33 (by decide) hj0)
    refine me_opt (j := j32) e33 ?_
    refine lv_aload_n hx hb d_Machine_step_115 rfl (lv_at hl 0 rfl) ?_
    refine g_Machine_16 hx hb hts hown hK hP hwf hj0 (hts _ u_648) d_Machine_step_116 ?_
    refine me_opt (j := j6) e7 ?_
    refine g_Code_6 hx hb hts hown hK hP hwf hj6 (hts _ u_235) d_Machine_step_119 ?_
    refine lv_aload_n hx hb d_Machine_step_122 rfl (lv_at hl 0 rfl) ?_
    refine lv_aload_n hx hb d_Machine_step_123 rfl (lv_at hl 0 rfl) ?_
    refine g_Machine_6 hx hb hts hown hK hP hwf hj0 (hts _ u_629) d_Machine_step_124 ?_
    refine me_opt (j := j32) e33 ?_
    refine lv_aload_n hx hb d_Machine_step_127 rfl (lv_at hl 0 rfl) ?_
    refine g_Machine_16 hx hb hts hown hK hP hwf hj0 (hts _ u_648) d_Machine_step_128 ?_
    refine me_opt (j := j6) e7 ?_
    refine g_Code_6 hx hb hts hown hK hP hwf hj6 (hts _ u_235) d_Machine_step_131 ?_
    obtain ⟨g34, h⟩ := gd_ob h
    refine me_lald hx hb hK hP hwf hj32 (kp_z hkb hkp g34) d_Machine_step_134 ?_
    refine lv_aload_n hx hb d_Machine_step_135 rfl (lv_at hl 0 rfl) ?_
    obtain ⟨M35, r36, eM35, h⟩ := b2_ob h
    refine me_thenl0 (M1 := M35) (me_runV (C := "FilterGuard$Machine") (As := []) (rest := [.long (mL M5 16 j32 (mI M5 2 j6 6).toNatClampNeg), .ref (ad 5 j0), .int (mI M5 2 j6 6), .ref (ad 16 j32)]) ⟨hx, hb, hml, hown, hts⟩ (c_Machine_operand l D ad ca N M5 M35 r36 j0 eM35 hwf hj0 _) rfl (by show fg_nm y_Machine_operand 0; decide +kernel) u_1655 u_1657 u_74 u_190 u_1658 ⟨Nat.le_of_ble_eq_true rfl, Nat.le_of_ble_eq_true rfl⟩ hX hz hK hP hD hwf hS hA hj0 (by decide) rfl rfl rfl hl.1 (Nat.le_of_ble_eq_true rfl) d_Machine_step_136 ⟨Nat.le_of_ble_eq_true rfl, Nat.le_of_ble_eq_true rfl⟩) hP hD hK hS hA rfl rfl (fun H locs hw hP hD hS => ?_)
    obtain ⟨hwf, hk9⟩ := hw
    have hkp := hkp.tr hk9.z
    obtain ⟨M37, r38, eM37, h⟩ := b2_ob h
    refine me_thenl0 (M1 := M37) (me_runV (C := "FilterGuard$Machine") (As := [.long (mL M5 16 j32 (mI M5 2 j6 6).toNatClampNeg), .long r36]) (rest := [.int (mI M5 2 j6 6), .ref (ad 16 j32)]) ⟨hx, hb, hml, hown, hts⟩ (c_Machine_reckoned l D ad ca N M35 M37 r38 j0 (mL M5 16 j32 (mI M5 2 j6 6).toNatClampNeg) r36 eM37 hwf hj0 _) rfl (by show fg_nm y_Machine_reckoned 2; decide +kernel) u_1660 u_1662 u_75 u_190 u_1663 ⟨Nat.le_of_ble_eq_true rfl, Nat.le_of_ble_eq_true rfl⟩ hX hz hK hP hD hwf hS hA hj0 (by decide) rfl rfl rfl hl.1 (Nat.le_of_ble_eq_true rfl) d_Machine_step_139 ⟨Nat.le_of_ble_eq_true rfl, Nat.le_of_ble_eq_true rfl⟩) hP hD hK hS hA rfl rfl (fun H locs hw hP hD hS => ?_)
    obtain ⟨hwf, hk9⟩ := hw
    have hkp := hkp.tr hk9.z
    obtain ⟨M39, eM39, h⟩ := st_ob h
    refine me_last eM39 hx hb hK hP hD hwf hS hj32 (kp_z hkb hkp g34) d_Machine_step_142 (fun H locs hP hD hwf hS => ?_)
    have hkp := kz_L eM39 hkp
    refine lv_iconst (v := 1) hx hb d_Machine_step_143 (by decide) ?_
    exact me_retz (me_kz M0) h (by decide) hx hb hr hlocks hwf hkp hP hK hD hS d_Machine_step_144
  have h := if_f (fun z => n31 (ew8.trans z)) h
  by_cases n40 : w8 = 7
  · have h := if_t (ew8.symm.trans n40) h
    subst n40
    refine lv_tableIn (off := 126) (tgt := 145) hx hb d_Machine_step_19 (by decide) (by decide) (by decide) (by decide) ?_
    refine lv_aload_n hx hb d_Machine_step_145 rfl (lv_at hl 0 rfl) ?_
    refine lv_aload_n hx hb d_Machine_step_146 rfl (lv_at hl 0 rfl) ?_
    refine g_Machine_16 hx hb hts hown hK hP hwf hj0 (hts _ u_648) d_Machine_step_147 ?_
    refine me_opt (j := j6) e7 ?_
    refine lv_iload_n hx hb d_Machine_step_150 rfl (lv_at hl 1 rfl) ?_
    obtain ⟨M41, r42, eM41, h⟩ := b2_ob h
    refine me_theni0 (M1 := M41) (me_runV (C := "FilterGuard$Code") (As := [.int x1]) (rest := [.ref (ad 5 j0)]) ⟨hx, hb, hml, hown, hts⟩ (c_Code_target l D ad ca N M5 M41 r42 j6 x1 eM41 hwf hj6 _) rfl (by show fg_nm y_Code_target 1; decide +kernel) u_1674 u_1005 u_1006 u_182 u_1007 ⟨Nat.le_of_ble_eq_true rfl, Nat.le_of_ble_eq_true rfl⟩ hX hz hK hP hD hwf hS hA hj6 (by decide) rfl rfl rfl hl.1 (Nat.le_of_ble_eq_true rfl) d_Machine_step_151 ⟨Nat.le_of_ble_eq_true rfl, Nat.le_of_ble_eq_true rfl⟩) hP hD hK hS hA rfl rfl (fun H locs hw hP hD hS => ?_)
    obtain ⟨hwf, hk9⟩ := hw
    have hkp := hkp.tr hk9.z
    obtain ⟨M43, eM43, h⟩ := st_ob h
    refine p_Machine_17 eM43 hx hb hts hown hK hP hD hwf hS hj0 (hts _ u_649) d_Machine_step_154 (fun H locs hP hD hwf hS => ?_)
    have hkp := kz_I eM43 hkp
    refine lv_iconst (v := 1) hx hb d_Machine_step_157 (by decide) ?_
    exact me_retz (me_kz M0) h (by decide) hx hb hr hlocks hwf hkp hP hK hD hS d_Machine_step_158
  have h := if_f (fun z => n40 (ew8.trans z)) h
  by_cases n44 : w8 = 8
  · have h := if_t (ew8.symm.trans n44) h
    subst n44
    refine lv_tableIn (off := 140) (tgt := 159) hx hb d_Machine_step_19 (by decide) (by decide) (by decide) (by decide) ?_
    refine lv_aload_n hx hb d_Machine_step_159 rfl (lv_at hl 0 rfl) ?_
    refine lv_aload_n hx hb d_Machine_step_160 rfl (lv_at hl 0 rfl) ?_
    refine lv_aload_n hx hb d_Machine_step_161 rfl (lv_at hl 0 rfl) ?_
    refine g_Machine_6 hx hb hts hown hK hP hwf hj0 (hts _ u_629) d_Machine_step_162 ?_
    obtain ⟨j45, e46, h⟩ := bd_ob h
    have hj45 : j45 < N 16 := (hwf.2.1 5 j0 6 _ e46 (by decide) hj0)
    refine me_opt (j := j45) e46 ?_
    refine lv_aload_n hx hb d_Machine_step_165 rfl (lv_at hl 0 rfl) ?_
    refine g_Machine_16 hx hb hts hown hK hP hwf hj0 (hts _ u_648) d_Machine_step_166 ?_
    refine me_opt (j := j6) e7 ?_
    refine g_Code_6 hx hb hts hown hK hP hwf hj6 (hts _ u_235) d_Machine_step_169 ?_
    obtain ⟨g47, h⟩ := gd_ob h
    refine me_lald hx hb hK hP hwf hj45 (kp_z hkb hkp g47) d_Machine_step_172 ?_
    refine lv_aload_n hx hb d_Machine_step_173 rfl (lv_at hl 0 rfl) ?_
    obtain ⟨M48, r49, eM48, h⟩ := b2_ob h
    refine me_thenl0 (M1 := M48) (me_runV (C := "FilterGuard$Machine") (As := []) (rest := [.long (mL M5 16 j45 (mI M5 2 j6 6).toNatClampNeg), .ref (ad 5 j0), .ref (ad 5 j0)]) ⟨hx, hb, hml, hown, hts⟩ (c_Machine_operand l D ad ca N M5 M48 r49 j0 eM48 hwf hj0 _) rfl (by show fg_nm y_Machine_operand 0; decide +kernel) u_1655 u_1657 u_74 u_190 u_1658 ⟨Nat.le_of_ble_eq_true rfl, Nat.le_of_ble_eq_true rfl⟩ hX hz hK hP hD hwf hS hA hj0 (by decide) rfl rfl rfl hl.1 (Nat.le_of_ble_eq_true rfl) d_Machine_step_174 ⟨Nat.le_of_ble_eq_true rfl, Nat.le_of_ble_eq_true rfl⟩) hP hD hK hS hA rfl rfl (fun H locs hw hP hD hS => ?_)
    obtain ⟨hwf, hk9⟩ := hw
    have hkp := hkp.tr hk9.z
    obtain ⟨M50, r51, eM50, h⟩ := b2_ob h
    refine me_theni0 (M1 := M50) (me_runV (C := "FilterGuard$Machine") (As := [.long (mL M5 16 j45 (mI M5 2 j6 6).toNatClampNeg), .long r49]) (rest := [.ref (ad 5 j0)]) ⟨hx, hb, hml, hown, hts⟩ (c_Machine_holds l D ad ca N M48 M50 r51 j0 (mL M5 16 j45 (mI M5 2 j6 6).toNatClampNeg) r49 eM50 hwf hj0 _) rfl (by show fg_nm y_Machine_holds 2; decide +kernel) u_1675 u_1677 u_77 u_190 u_1678 ⟨Nat.le_of_ble_eq_true rfl, Nat.le_of_ble_eq_true rfl⟩ hX hz hK hP hD hwf hS hA hj0 (by decide) rfl rfl rfl hl.1 (Nat.le_of_ble_eq_true rfl) d_Machine_step_177 ⟨Nat.le_of_ble_eq_true rfl, Nat.le_of_ble_eq_true rfl⟩) hP hD hK hS hA rfl rfl (fun H locs hw hP hD hS => ?_)
    obtain ⟨hwf, hk9, zr51⟩ := hw
    have hkp := hkp.tr hk9.z
    refine lv_if_eq (tgt := 194) hx hb d_Machine_step_180 (by decide) (fun c52 => ?_) (fun c52 => ?_)
    · have h := if_t c52 h
      refine lv_aload_n hx hb d_Machine_step_194 rfl (lv_at hl 0 rfl) ?_
      refine g_Machine_17 hx hb hts hown hK hP hwf hj0 (hts _ u_649) d_Machine_step_195 ?_
      obtain ⟨M53, eM53, h⟩ := st_ob h
      refine p_Machine_17 eM53 hx hb hts hown hK hP hD hwf hS hj0 (hts _ u_649) d_Machine_step_198 (fun H locs hP hD hwf hS => ?_)
      have hkp := kz_I eM53 hkp
      refine lv_iconst (v := 1) hx hb d_Machine_step_201 (by decide) ?_
      exact me_retz (me_kz M0) h (by decide) hx hb hr hlocks hwf hkp hP hK hD hS d_Machine_step_202
    have h := if_f c52 h
    refine lv_aload_n hx hb d_Machine_step_183 rfl (lv_at hl 0 rfl) ?_
    refine g_Machine_16 hx hb hts hown hK hP hwf hj0 (hts _ u_648) d_Machine_step_184 ?_
    obtain ⟨j54, e55, h⟩ := bd_ob h
    have hj54 : j54 < N 2 := (hwf.2.1 5 j0 16 _ e55 (by decide) hj0)
    refine me_opt (j := j54) e55 ?_
    refine lv_iload_n hx hb d_Machine_step_187 rfl (lv_at hl 1 rfl) ?_
    obtain ⟨M56, r57, eM56, h⟩ := b2_ob h
    refine me_theni0 (M1 := M56) (me_runV (C := "FilterGuard$Code") (As := [.int x1]) (rest := [.ref (ad 5 j0)]) ⟨hx, hb, hml, hown, hts⟩ (c_Code_target l D ad ca N M50 M56 r57 j54 x1 eM56 hwf hj54 _) rfl (by show fg_nm y_Code_target 1; decide +kernel) u_1674 u_1005 u_1006 u_182 u_1007 ⟨Nat.le_of_ble_eq_true rfl, Nat.le_of_ble_eq_true rfl⟩ hX hz hK hP hD hwf hS hA hj54 (by decide) rfl rfl rfl hl.1 (Nat.le_of_ble_eq_true rfl) d_Machine_step_188 ⟨Nat.le_of_ble_eq_true rfl, Nat.le_of_ble_eq_true rfl⟩) hP hD hK hS hA rfl rfl (fun H locs hw hP hD hS => ?_)
    obtain ⟨hwf, hk9⟩ := hw
    have hkp := hkp.tr hk9.z
    refine lv_goto (tgt := 198) hx hb d_Machine_step_191 (by decide) ?_
    obtain ⟨M58, eM58, h⟩ := st_ob h
    refine p_Machine_17 eM58 hx hb hts hown hK hP hD hwf hS hj0 (hts _ u_649) d_Machine_step_198 (fun H locs hP hD hwf hS => ?_)
    have hkp := kz_I eM58 hkp
    refine lv_iconst (v := 1) hx hb d_Machine_step_201 (by decide) ?_
    exact me_retz (me_kz M0) h (by decide) hx hb hr hlocks hwf hkp hP hK hD hS d_Machine_step_202
  have h := if_f (fun z => n44 (ew8.trans z)) h
  by_cases n59 : w8 = 9
  · have h := if_t (ew8.symm.trans n59) h
    subst n59
    refine lv_tableIn (off := 184) (tgt := 203) hx hb d_Machine_step_19 (by decide) (by decide) (by decide) (by decide) ?_
    refine lv_aload_n hx hb d_Machine_step_203 rfl (lv_at hl 0 rfl) ?_
    obtain ⟨M60, r61, eM60, h⟩ := b2_ob h
    refine me_theni0 (M1 := M60) (me_runV (C := "FilterGuard$Machine") (As := []) (rest := []) ⟨hx, hb, hml, hown, hts⟩ (c_Machine_help l D ad ca N M5 M60 r61 j0 eM60 hwf hj0 _) rfl (by show fg_nm y_Machine_help 0; decide +kernel) u_1680 u_1682 u_78 u_190 u_1683 ⟨Nat.le_of_ble_eq_true rfl, Nat.le_of_ble_eq_true rfl⟩ hX hz hK hP hD hwf hS hA hj0 (by decide) rfl rfl rfl hl.1 (Nat.le_of_ble_eq_true rfl) d_Machine_step_204 ⟨Nat.le_of_ble_eq_true rfl, Nat.le_of_ble_eq_true rfl⟩) hP hD hK hS hA rfl rfl (fun H locs hw hP hD hS => ?_)
    obtain ⟨hwf, hk9, zr61⟩ := hw
    have hkp := hkp.tr hk9
    exact me_retz (me_kz M0) h zr61 hx hb hr hlocks hwf hkp hP hK hD hS d_Machine_step_207
  have h := if_f (fun z => n59 (ew8.trans z)) h
  have in9 := lv_neT n9 (show (1 : Int32).toInt = 1 from rfl)
  have in19 := lv_neT n19 (show (2 : Int32).toInt = 2 from rfl)
  have in22 := lv_neT n22 (show (3 : Int32).toInt = 3 from rfl)
  have in25 := lv_neT n25 (show (4 : Int32).toInt = 4 from rfl)
  have in28 := lv_neT n28 (show (5 : Int32).toInt = 5 from rfl)
  have in31 := lv_neT n31 (show (6 : Int32).toInt = 6 from rfl)
  have in40 := lv_neT n40 (show (7 : Int32).toInt = 7 from rfl)
  have in44 := lv_neT n44 (show (8 : Int32).toInt = 8 from rfl)
  have in59 := lv_neT n59 (show (9 : Int32).toInt = 9 from rfl)
  refine lv_tableOut (tgt := 213) hx hb d_Machine_step_19 (by omega) (by decide) ?_
  refine lv_iconst (v := 0) hx hb d_Machine_step_213 (by decide) ?_
  exact me_retz (me_kz M0) h (by decide) hx hb hr hlocks hwf hkp hP hK hD hS d_Machine_step_214
theorem d_Checks_find_0 : decode prog_3_method_3_code 0 = .ok (.aload_n 0, 1) := by decide +kernel
theorem d_Checks_find_1 : decode prog_3_method_3_code 1 = .ok (.getfield 22, 3) := by decide +kernel
theorem d_Checks_find_4 : decode prog_3_method_3_code 4 = .ok (.iconst 0, 1) := by decide +kernel
theorem d_Checks_find_5 : decode prog_3_method_3_code 5 = .ok (.aaload, 1) := by decide +kernel
theorem d_Checks_find_6 : decode prog_3_method_3_code 6 = .ok (.iload_n 1, 1) := by decide +kernel
theorem d_Checks_find_7 : decode prog_3_method_3_code 7 = .ok (.ifCond .eq 8, 3) := by decide +kernel
theorem d_Checks_find_15 : decode prog_3_method_3_code 15 = .ok (.iconst 1, 1) := by decide +kernel
theorem d_Checks_find_16 : decode prog_3_method_3_code 16 = .ok (.putfield 34, 3) := by decide +kernel
theorem d_Checks_find_19 : decode prog_3_method_3_code 19 = .ok (.return_, 1) := by decide +kernel
theorem d_Checks_find_10 : decode prog_3_method_3_code 10 = .ok (.bipush 7, 2) := by decide +kernel
theorem d_Checks_find_12 : decode prog_3_method_3_code 12 = .ok (.goto 4, 3) := by decide +kernel
abbrev y_Checks_find : MethodName := ⟨"FilterGuard$Checks", "find", "(Z)V"⟩
def f_Checks_find (M0 : me_M) (j0 : Nat) (x1 : Int32) : Option me_M := bd (mR M0 6 j0 3) (fun (j1 : Nat) => gd (0 < mZ M0 18 j1) (bd (mR M0 18 j1 0) (fun (j4 : Nat) => (if x1 = 0 then st (wI M0 10 j4 0 1) (fun (M7 : me_M) => some M7) else st (wI M0 10 j4 0 7) (fun (M8 : me_M) => some M8)))))
def rm_Checks_find : Room := { frames := 1, cells := 0, slots := 0, locals := 20 }
abbrev q_Checks_find (D : va_G) (ad : Nat → Nat → Nat) (ca : Nat → ClassId) (N : Nat → Nat) (M0 MZ : me_M) (A : Nat → Prop) : Array Value → Jvm.State → Outcome → Jvm.State → Prop := va_Qv (fun (_ : Unit) => me_wf N MZ ∧ me_kp M0 MZ) (fg_B D A (fun _ => me_W ad ca MZ) (fun _ => [])) A
set_option maxHeartbeats 4000000 in
set_option maxRecDepth 100000 in
theorem c_Checks_find (l : Launch) (D : va_G) (ad : Nat → Nat → Nat) (ca : Nat → ClassId) (N : Nat → Nat) (M0 MZ : me_M) (j0 : Nat) (x1 : Int32) (h : f_Checks_find M0 j0 x1 = (some MZ)) (hwf : me_wf N M0) (hj0 : j0 < N 6) (zx1 : x1 = 1 ∨ x1 = 0) (sz : Nat) : Met l y_Checks_find (fg_w y_Checks_find prog_3_method_3_code 2 none) rm_Checks_find (va_Pc [.ref (ad 6 j0), .int x1] (fz_P D (me_T ca) (me_W ad ca M0) sz)) (q_Checks_find D ad ca N M0 MZ (va_A (me_W ad ca M0) sz)) rm_Checks_find.cells rm_Checks_find.slots (va_A (me_W ad ca M0) sz) := by
  refine fz_enter (fun A => q_Checks_find D ad ca N M0 MZ A) (by decide +kernel) (Nat.le_of_ble_eq_true rfl) ?_
  intro p e s m below meth c ls A hx hb hml hown hts hr hlocks hin hP hK hD hS hA hX hl hz
  have hl : lv_has ls 2 [(0, .ref (ad 6 j0)), (1, .int x1)] := hl
  unfold f_Checks_find at h
  have hkp : me_kp M0 M0 := me_kp.rf
  have hkb := hkp
  refine lv_aload_n hx hb d_Checks_find_0 rfl (lv_at hl 0 rfl) ?_
  refine g_Checks_3 hx hb hts hown hK hP hwf hj0 (hts _ u_613) d_Checks_find_1 ?_
  obtain ⟨j1, e2, h⟩ := bd_ob h
  have hj1 : j1 < N 18 := (hwf.2.1 6 j0 3 _ e2 (by decide) hj0)
  refine me_opt (j := j1) e2 ?_
  refine lv_iconst (v := 0) hx hb d_Checks_find_4 (by decide) ?_
  obtain ⟨g3, h⟩ := gd_ob h
  refine me_aald (k := 18) (t := 10) hx hb hK hP hwf hj1 (by decide) (by decide) rfl (fun _ => rfl) (me_in (i := (0 : Int32)) (k := 0) (by decide) (by decide) g3) d_Checks_find_5 ?_
  rw [show (0 : Int32).toNatClampNeg = 0 by decide]
  obtain ⟨j4, e5, h⟩ := bd_ob h
  have hj4 : j4 < N 10 := (hwf.2.1 18 j1 0 _ e5 (by decide) hj1)
  refine me_opt (j := j4) e5 ?_
  refine lv_iload_n hx hb d_Checks_find_6 rfl (lv_at hl 1 rfl) ?_
  refine lv_if_eq (tgt := 15) hx hb d_Checks_find_7 (by decide) (fun c6 => ?_) (fun c6 => ?_)
  · have h := if_t c6 h
    refine lv_iconst (v := 1) hx hb d_Checks_find_15 (by decide) ?_
    obtain ⟨M7, eM7, h⟩ := st_ob h
    refine p_Cell_0 eM7 hx hb hts hown hK hP hD hwf hS hj4 (hts _ u_421) d_Checks_find_16 (fun H locs hP hD hwf hS => ?_)
    have hkp := kp_I eM7 hkp
    exact me_retv (me_kp M0) h hx hb hr hlocks hwf hkp hP hK hD hS d_Checks_find_19
  have h := if_f c6 h
  refine lv_bipush (v := 7) hx hb d_Checks_find_10 (by decide) ?_
  refine lv_goto (tgt := 16) hx hb d_Checks_find_12 (by decide) ?_
  obtain ⟨M8, eM8, h⟩ := st_ob h
  refine p_Cell_0 eM8 hx hb hts hown hK hP hD hwf hS hj4 (hts _ u_421) d_Checks_find_16 (fun H locs hP hD hwf hS => ?_)
  have hkp := kp_I eM8 hkp
  exact me_retv (me_kp M0) h hx hb hr hlocks hwf hkp hP hK hD hS d_Checks_find_19
theorem d_Machine_go_54 : decode prog_7_method_4_code 54 = .ok (.aload_n 0, 1) := by decide +kernel
theorem d_Machine_go_55 : decode prog_7_method_4_code 55 = .ok (.dup, 1) := by decide +kernel
theorem d_Machine_go_56 : decode prog_7_method_4_code 56 = .ok (.getfield 91, 3) := by decide +kernel
theorem g_Machine_14 {p : Program} {l : Launch} {e : Env} {R : Room} {s : Jvm.State} {m : MethodId} {args : Array Value} {below : List Frame} {meth : Method} {c : Code} {H : Heap} {locs : List Loc} {cells slots : Nat} {Q : Jvm.State → Prop} {cc : ByteArray} {pc : Nat} {ls : Array Slot} {rest : List Value} {D : va_G} {ad : Nat → Nat → Nat} {ca : Nat → ClassId} {M : me_M} {N : Nat → Nat} {own : String} {index j : Nat} (hexec : p.tables.exec = Jvm.exec) (hb : c.code = cc) (hts : ∀ w ∈ fg_g, w.before args s = true) (hown : s.vm.findClass own = some m.cls) (hK : va_K D classes (me_T ca) s) (hP : va_P D classes (me_W ad ca M) H) (hwf : me_wf N M) (hj : j < N 5) (hlink : (Cond.fieldLink own index "FilterGuard$Machine" "done" "I").before args s = true) (hdg : decode cc pc = .ok (.getfield index, 3)) (kk : W p l e R s m args below meth c H locs cells slots Q (F0 m (pc + 3) ls (.int (mI M 5 j 14) :: rest))) : W p l e R s m args below meth c H locs cells slots Q (F0 m pc ls (.ref (ad 5 j) :: rest)) := me_get (k := 5) (f := 14) (C := "FilterGuard$Machine") (T := F_Machine) (Nf := 20) hexec hb hts i_Machine hown hK hP hwf hj (by decide) rfl (by decide) (by decide) hlink (fun _ h9 => h9) hdg kk
theorem d_Machine_go_59 : decode prog_7_method_4_code 59 = .ok (.iconst 1, 1) := by decide +kernel
theorem d_Machine_go_60 : decode prog_7_method_4_code 60 = .ok (.iadd, 1) := by decide +kernel
theorem d_Machine_go_61 : decode prog_7_method_4_code 61 = .ok (.putfield 91, 3) := by decide +kernel
theorem d_Machine_go_64 : decode prog_7_method_4_code 64 = .ok (.aload_n 0, 1) := by decide +kernel
theorem d_Machine_go_65 : decode prog_7_method_4_code 65 = .ok (.aload_n 0, 1) := by decide +kernel
theorem d_Machine_go_66 : decode prog_7_method_4_code 66 = .ok (.getfield 76, 3) := by decide +kernel
theorem d_Machine_go_69 : decode prog_7_method_4_code 69 = .ok (.invokevirtual 94, 3) := by decide +kernel
theorem u_1649 : Cond.methodLink "FilterGuard$Machine" 94 ⟨"FilterGuard$Machine", "step", "(I)Z"⟩ ∈ fg_g := fg_in (List.mem_of_getElem? (i := 1649) (by decide +kernel)) rfl
theorem u_1652 : Cond.code ⟨"FilterGuard$Machine", "step", "(I)Z"⟩ prog_7_method_6_code 2 (some .boolean) ∈ fg_g := fg_in (List.mem_of_getElem? (i := 1652) (by decide +kernel)) rfl
theorem u_1651 : Cond.instanceMethod ⟨"FilterGuard$Machine", "step", "(I)Z"⟩ ∈ fg_g := fg_in (List.mem_of_getElem? (i := 1651) (by decide +kernel)) rfl
theorem u_73 : Cond.selects "FilterGuard$Machine" ⟨"FilterGuard$Machine", "step", "(I)Z"⟩ ⟨"FilterGuard$Machine", "step", "(I)Z"⟩ ∈ fg_g := fg_in (List.mem_of_getElem? (i := 73) (by decide +kernel)) rfl
theorem d_Machine_go_72 : decode prog_7_method_4_code 72 = .ok (.istore_n 2, 1) := by decide +kernel
theorem d_Machine_go_73 : decode prog_7_method_4_code 73 = .ok (.aload_n 0, 1) := by decide +kernel
theorem d_Machine_go_74 : decode prog_7_method_4_code 74 = .ok (.getfield 84, 3) := by decide +kernel
theorem g_Machine_13 {p : Program} {l : Launch} {e : Env} {R : Room} {s : Jvm.State} {m : MethodId} {args : Array Value} {below : List Frame} {meth : Method} {c : Code} {H : Heap} {locs : List Loc} {cells slots : Nat} {Q : Jvm.State → Prop} {cc : ByteArray} {pc : Nat} {ls : Array Slot} {rest : List Value} {D : va_G} {ad : Nat → Nat → Nat} {ca : Nat → ClassId} {M : me_M} {N : Nat → Nat} {own : String} {index j : Nat} (hexec : p.tables.exec = Jvm.exec) (hb : c.code = cc) (hts : ∀ w ∈ fg_g, w.before args s = true) (hown : s.vm.findClass own = some m.cls) (hK : va_K D classes (me_T ca) s) (hP : va_P D classes (me_W ad ca M) H) (hwf : me_wf N M) (hj : j < N 5) (hlink : (Cond.fieldLink own index "FilterGuard$Machine" "mode" "I").before args s = true) (hdg : decode cc pc = .ok (.getfield index, 3)) (kk : W p l e R s m args below meth c H locs cells slots Q (F0 m (pc + 3) ls (.int (mI M 5 j 13) :: rest))) : W p l e R s m args below meth c H locs cells slots Q (F0 m pc ls (.ref (ad 5 j) :: rest)) := me_get (k := 5) (f := 13) (C := "FilterGuard$Machine") (T := F_Machine) (Nf := 20) hexec hb hts i_Machine hown hK hP hwf hj (by decide) rfl (by decide) (by decide) hlink (fun _ h9 => h9) hdg kk
theorem d_Machine_go_77 : decode prog_7_method_4_code 77 = .ok (.ifCond .ne 49, 3) := by decide +kernel
theorem d_Machine_go_126 : decode prog_7_method_4_code 126 = .ok (.iinc 3 1, 3) := by decide +kernel
theorem d_Machine_go_129 : decode prog_7_method_4_code 129 = .ok (.goto (-120), 3) := by decide +kernel
theorem d_Machine_go_80 : decode prog_7_method_4_code 80 = .ok (.aload_n 0, 1) := by decide +kernel
theorem d_Machine_go_81 : decode prog_7_method_4_code 81 = .ok (.getfield 48, 3) := by decide +kernel
theorem d_Machine_go_84 : decode prog_7_method_4_code 84 = .ok (.getfield 98, 3) := by decide +kernel
theorem d_Machine_go_87 : decode prog_7_method_4_code 87 = .ok (.bipush 9, 2) := by decide +kernel
theorem d_Machine_go_89 : decode prog_7_method_4_code 89 = .ok (.if_icmp .ne 37, 3) := by decide +kernel
theorem d_Machine_go_92 : decode prog_7_method_4_code 92 = .ok (.aload_n 0, 1) := by decide +kernel
theorem d_Machine_go_93 : decode prog_7_method_4_code 93 = .ok (.getfield 48, 3) := by decide +kernel
theorem d_Machine_go_96 : decode prog_7_method_4_code 96 = .ok (.getfield 101, 3) := by decide +kernel
theorem d_Machine_go_99 : decode prog_7_method_4_code 99 = .ok (.iconst 1, 1) := by decide +kernel
theorem d_Machine_go_100 : decode prog_7_method_4_code 100 = .ok (.if_icmp .ne 26, 3) := by decide +kernel
theorem d_Machine_go_103 : decode prog_7_method_4_code 103 = .ok (.aload_n 0, 1) := by decide +kernel
theorem d_Machine_go_104 : decode prog_7_method_4_code 104 = .ok (.getfield 44, 3) := by decide +kernel
theorem d_Machine_go_107 : decode prog_7_method_4_code 107 = .ok (.aload_n 0, 1) := by decide +kernel
theorem d_Machine_go_108 : decode prog_7_method_4_code 108 = .ok (.getfield 18, 3) := by decide +kernel
theorem d_Machine_go_111 : decode prog_7_method_4_code 111 = .ok (.iconst 0, 1) := by decide +kernel
theorem d_Machine_go_112 : decode prog_7_method_4_code 112 = .ok (.laload, 1) := by decide +kernel
theorem d_Machine_go_113 : decode prog_7_method_4_code 113 = .ok (.lconst 0, 1) := by decide +kernel
theorem d_Machine_go_114 : decode prog_7_method_4_code 114 = .ok (.lcmp, 1) := by decide +kernel
theorem d_Machine_go_115 : decode prog_7_method_4_code 115 = .ok (.ifCond .eq 7, 3) := by decide +kernel
theorem d_Machine_go_122 : decode prog_7_method_4_code 122 = .ok (.iconst 0, 1) := by decide +kernel
theorem d_Machine_go_123 : decode prog_7_method_4_code 123 = .ok (.invokevirtual 104, 3) := by decide +kernel
theorem u_1722 : Cond.methodLink "FilterGuard$Machine" 104 ⟨"FilterGuard$Checks", "find", "(Z)V"⟩ ∈ fg_g := fg_in (List.mem_of_getElem? (i := 1722) (by decide +kernel)) rfl
theorem u_1725 : Cond.code ⟨"FilterGuard$Checks", "find", "(Z)V"⟩ prog_3_method_3_code 2 none ∈ fg_g := fg_in (List.mem_of_getElem? (i := 1725) (by decide +kernel)) rfl
theorem u_1723 : Cond.instanceMethod ⟨"FilterGuard$Checks", "find", "(Z)V"⟩ ∈ fg_g := fg_in (List.mem_of_getElem? (i := 1723) (by decide +kernel)) rfl
theorem u_1724 : Cond.selects "FilterGuard$Checks" ⟨"FilterGuard$Checks", "find", "(Z)V"⟩ ⟨"FilterGuard$Checks", "find", "(Z)V"⟩ ∈ fg_g := fg_in (List.mem_of_getElem? (i := 1724) (by decide +kernel)) rfl
theorem d_Machine_go_118 : decode prog_7_method_4_code 118 = .ok (.iconst 1, 1) := by decide +kernel
theorem d_Machine_go_119 : decode prog_7_method_4_code 119 = .ok (.goto 4, 3) := by decide +kernel
theorem d_Machine_go_9 : decode prog_7_method_4_code 9 = .ok (.iload_n 3, 1) := by decide +kernel
theorem d_Machine_go_10 : decode prog_7_method_4_code 10 = .ok (.ldc 75, 2) := by decide +kernel
theorem u_1595 : Cond.constant "FilterGuard$Machine" 75 1000000 ∈ fg_g := fg_in (List.mem_of_getElem? (i := 1595) (by decide +kernel)) rfl
theorem d_Machine_go_12 : decode prog_7_method_4_code 12 = .ok (.if_icmp .ge 120, 3) := by decide +kernel
theorem d_Machine_go_132 : decode prog_7_method_4_code 132 = .ok (.aload_n 0, 1) := by decide +kernel
theorem d_Machine_go_133 : decode prog_7_method_4_code 133 = .ok (.getfield 18, 3) := by decide +kernel
theorem d_Machine_go_136 : decode prog_7_method_4_code 136 = .ok (.iconst 0, 1) := by decide +kernel
theorem d_Machine_go_137 : decode prog_7_method_4_code 137 = .ok (.laload, 1) := by decide +kernel
theorem d_Machine_go_138 : decode prog_7_method_4_code 138 = .ok (.lreturn, 1) := by decide +kernel
theorem d_Machine_go_15 : decode prog_7_method_4_code 15 = .ok (.iload_n 2, 1) := by decide +kernel
theorem d_Machine_go_16 : decode prog_7_method_4_code 16 = .ok (.ifCond .eq 116, 3) := by decide +kernel
theorem d_Machine_go_19 : decode prog_7_method_4_code 19 = .ok (.aload_n 0, 1) := by decide +kernel
theorem d_Machine_go_20 : decode prog_7_method_4_code 20 = .ok (.getfield 48, 3) := by decide +kernel
theorem d_Machine_go_23 : decode prog_7_method_4_code 23 = .ok (.aload_n 0, 1) := by decide +kernel
theorem d_Machine_go_24 : decode prog_7_method_4_code 24 = .ok (.getfield 76, 3) := by decide +kernel
theorem d_Machine_go_27 : decode prog_7_method_4_code 27 = .ok (.invokevirtual 79, 3) := by decide +kernel
theorem u_1596 : Cond.methodLink "FilterGuard$Machine" 79 ⟨"FilterGuard$Code", "look", "(I)V"⟩ ∈ fg_g := fg_in (List.mem_of_getElem? (i := 1596) (by decide +kernel)) rfl
theorem d_Machine_go_30 : decode prog_7_method_4_code 30 = .ok (.aload_n 0, 1) := by decide +kernel
theorem d_Machine_go_31 : decode prog_7_method_4_code 31 = .ok (.getfield 84, 3) := by decide +kernel
theorem d_Machine_go_34 : decode prog_7_method_4_code 34 = .ok (.ifCond .ne 20, 3) := by decide +kernel
theorem d_Machine_go_37 : decode prog_7_method_4_code 37 = .ok (.aload_n 0, 1) := by decide +kernel
theorem d_Machine_go_38 : decode prog_7_method_4_code 38 = .ok (.getfield 44, 3) := by decide +kernel
theorem d_Machine_go_41 : decode prog_7_method_4_code 41 = .ok (.aload_n 0, 1) := by decide +kernel
theorem d_Machine_go_42 : decode prog_7_method_4_code 42 = .ok (.getfield 18, 3) := by decide +kernel
theorem d_Machine_go_45 : decode prog_7_method_4_code 45 = .ok (.invokevirtual 87, 3) := by decide +kernel
theorem u_1597 : Cond.methodLink "FilterGuard$Machine" 87 ⟨"FilterGuard$Checks", "allows", "([J)Z"⟩ ∈ fg_g := fg_in (List.mem_of_getElem? (i := 1597) (by decide +kernel)) rfl
theorem u_1600 : Cond.code ⟨"FilterGuard$Checks", "allows", "([J)Z"⟩ prog_3_method_4_code 3 (some .boolean) ∈ fg_g := fg_in (List.mem_of_getElem? (i := 1600) (by decide +kernel)) rfl
theorem u_1598 : Cond.instanceMethod ⟨"FilterGuard$Checks", "allows", "([J)Z"⟩ ∈ fg_g := fg_in (List.mem_of_getElem? (i := 1598) (by decide +kernel)) rfl
theorem u_1599 : Cond.selects "FilterGuard$Checks" ⟨"FilterGuard$Checks", "allows", "([J)Z"⟩ ⟨"FilterGuard$Checks", "allows", "([J)Z"⟩ ∈ fg_g := fg_in (List.mem_of_getElem? (i := 1599) (by decide +kernel)) rfl
theorem d_Machine_go_48 : decode prog_7_method_4_code 48 = .ok (.ifCond .ne 6, 3) := by decide +kernel
theorem d_Machine_go_51 : decode prog_7_method_4_code 51 = .ok (.goto 81, 3) := by decide +kernel
theorem d_Machine_go_0 : decode prog_7_method_4_code 0 = .ok (.aload_n 0, 1) := by decide +kernel
theorem d_Machine_go_1 : decode prog_7_method_4_code 1 = .ok (.iload_n 1, 1) := by decide +kernel
theorem d_Machine_go_2 : decode prog_7_method_4_code 2 = .ok (.invokevirtual 71, 3) := by decide +kernel
theorem u_1576 : Cond.methodLink "FilterGuard$Machine" 71 ⟨"FilterGuard$Machine", "begin", "(I)V"⟩ ∈ fg_g := fg_in (List.mem_of_getElem? (i := 1576) (by decide +kernel)) rfl
theorem u_1579 : Cond.code ⟨"FilterGuard$Machine", "begin", "(I)V"⟩ prog_7_method_5_code 2 none ∈ fg_g := fg_in (List.mem_of_getElem? (i := 1579) (by decide +kernel)) rfl
theorem u_1578 : Cond.instanceMethod ⟨"FilterGuard$Machine", "begin", "(I)V"⟩ ∈ fg_g := fg_in (List.mem_of_getElem? (i := 1578) (by decide +kernel)) rfl
theorem u_63 : Cond.selects "FilterGuard$Machine" ⟨"FilterGuard$Machine", "begin", "(I)V"⟩ ⟨"FilterGuard$Machine", "begin", "(I)V"⟩ ∈ fg_g := fg_in (List.mem_of_getElem? (i := 63) (by decide +kernel)) rfl
theorem d_Machine_go_5 : decode prog_7_method_4_code 5 = .ok (.iconst 1, 1) := by decide +kernel
theorem d_Machine_go_6 : decode prog_7_method_4_code 6 = .ok (.istore_n 2, 1) := by decide +kernel
theorem d_Machine_go_7 : decode prog_7_method_4_code 7 = .ok (.iconst 0, 1) := by decide +kernel
theorem d_Machine_go_8 : decode prog_7_method_4_code 8 = .ok (.istore_n 3, 1) := by decide +kernel
abbrev y_Machine_go : MethodName := ⟨"FilterGuard$Machine", "go", "(I)J"⟩
def f_Machine_go_b54 (k9 : me_M → Int32 → Int32 → Option (me_M × Int64)) (j0 : Nat) (M : me_M) (y3 : Int32) : Option (me_M × Int64) := st (wI M 5 j0 14 ((mI M 5 j0 14) + 1)) (fun (M1 : me_M) => b2 (f_Machine_step M1 j0 (mI M1 5 j0 17)) (fun (M2 : me_M) (r3 : Int32) => (if (mI M2 5 j0 13) = 0 then bd (mR M2 5 j0 16) (fun (j5 : Nat) => (if (mI M2 2 j5 10) = 9 then (if (mI M2 2 j5 9) = 1 then bd (mR M2 5 j0 3) (fun (j9 : Nat) => bd (mR M2 5 j0 6) (fun (j11 : Nat) => gd (0 < mZ M 16 j11) ((if (mL M2 16 j11 0) = 0 then bd (f_Checks_find M2 j9 (0 : Int32)) (fun (M15 : me_M) => k9 M15 r3 (y3 + 1)) else bd (f_Checks_find M2 j9 (1 : Int32)) (fun (M16 : me_M) => k9 M16 r3 (y3 + 1)))))) else k9 M2 r3 (y3 + 1)) else k9 M2 r3 (y3 + 1))) else k9 M2 r3 (y3 + 1))))
def f_Machine_go_l9 (j0 : Nat) : Nat → me_M → Int32 → Int32 → Option (me_M × Int64)
  | 0, _, _, _ => none
  | fu + 1, M, y2, y3 => (if 1000000 ≤ y3 then bd (mR M 5 j0 6) (fun (j18 : Nat) => gd (0 < mZ M 16 j18) (some (M, (mL M 16 j18 0)))) else (if y2 = 0 then bd (mR M 5 j0 6) (fun (j22 : Nat) => gd (0 < mZ M 16 j22) (some (M, (mL M 16 j22 0)))) else bd (mR M 5 j0 16) (fun (j25 : Nat) => bd (f_Code_look M j25 (mI M 5 j0 17)) (fun (M27 : me_M) => (if (mI M27 5 j0 13) = 0 then bd (mR M27 5 j0 3) (fun (j29 : Nat) => bd (mR M27 5 j0 6) (fun (j31 : Nat) => b2 (f_Checks_allows M27 j29 j31) (fun (M33 : me_M) (r34 : Int32) => (if r34 = 0 then bd (mR M33 5 j0 6) (fun (j36 : Nat) => gd (0 < mZ M 16 j36) (some (M33, (mL M33 16 j36 0)))) else f_Machine_go_b54 (f_Machine_go_l9 j0 fu) j0 M33 y3)))) else f_Machine_go_b54 (f_Machine_go_l9 j0 fu) j0 M27 y3)))))
def f_Machine_go (M0 : me_M) (j0 : Nat) (x1 : Int32) : Option (me_M × Int64) := bd (f_Machine_begin M0 j0 x1) (fun (M39 : me_M) => f_Machine_go_l9 j0 fuel M39 (1 : Int32) (0 : Int32))
def rm_Machine_go : Room := { frames := 7, cells := 0, slots := 0, locals := 180 }
abbrev q_Machine_go (D : va_G) (ad : Nat → Nat → Nat) (ca : Nat → ClassId) (N : Nat → Nat) (M0 MZ : me_M) (RZ : Int64) (A : Nat → Prop) : Array Value → Jvm.State → Outcome → Jvm.State → Prop := va_Ql (fun r (_ : Unit) => r = RZ ∧ me_wf N MZ ∧ me_kz M0 MZ) (fg_B D A (fun _ => me_W ad ca MZ) (fun _ => [])) A
set_option maxHeartbeats 4000000 in
set_option maxRecDepth 100000 in
theorem c_Machine_go (l : Launch) (D : va_G) (ad : Nat → Nat → Nat) (ca : Nat → ClassId) (N : Nat → Nat) (M0 MZ : me_M) (RZ : Int64) (j0 : Nat) (x1 : Int32) (h : f_Machine_go M0 j0 x1 = (some (MZ, RZ))) (hwf : me_wf N M0) (hj0 : j0 < N 5) (sz : Nat) : Met l y_Machine_go (fg_w y_Machine_go prog_7_method_4_code 4 (some .long)) rm_Machine_go (va_Pc [.ref (ad 5 j0), .int x1] (fz_P D (me_T ca) (me_W ad ca M0) sz)) (q_Machine_go D ad ca N M0 MZ RZ (va_A (me_W ad ca M0) sz)) rm_Machine_go.cells rm_Machine_go.slots (va_A (me_W ad ca M0) sz) := by
  refine fz_enter (fun A => q_Machine_go D ad ca N M0 MZ RZ A) (by decide +kernel) (Nat.le_of_ble_eq_true rfl) ?_
  intro p e s m below meth c ls A hx hb hml hown hts hr hlocks hin hP hK hD hS hA hX hl hz
  have hl : lv_has ls 4 [(0, .ref (ad 5 j0)), (1, .int x1)] := hl
  unfold f_Machine_go at h
  have hkp : me_kz M0 M0 := me_kz.rf
  have hkb := hkp
  have b_54 : ∀ (k9 : me_M → Int32 → Int32 → Option (me_M × Int64)) (hk9 : ∀ (M : me_M) (y2 : Int32) (y3 : Int32) (H : Heap) (locs : List Loc) (ls : Array Slot), k9 M y2 y3 = (some (MZ, RZ)) → (y2 = 1 ∨ y2 = 0) → me_wf N M → me_kz M0 M → va_P D classes (me_W ad ca M) H → va_D A (me_W ad ca M) → va_S A s.heap H locs → lv_has ls 4 [(0, .ref (ad 5 j0)), (2, .int y2), (3, .int y3)] → W p l e rm_Machine_go s m [.ref (ad 5 j0), .int x1].toArray below meth c H locs 0 0 (MQ below (q_Machine_go D ad ca N M0 MZ RZ A) [.ref (ad 5 j0), .int x1].toArray s rm_Machine_go.cells rm_Machine_go.slots A) (F0 m 9 ls [])), ∀ (M : me_M) (y3 : Int32) (H : Heap) (locs : List Loc) (ls : Array Slot), f_Machine_go_b54 k9 j0 M y3 = (some (MZ, RZ)) → me_wf N M → me_kz M0 M → va_P D classes (me_W ad ca M) H → va_D A (me_W ad ca M) → va_S A s.heap H locs → lv_has ls 4 [(0, .ref (ad 5 j0)), (3, .int y3)] → W p l e rm_Machine_go s m [.ref (ad 5 j0), .int x1].toArray below meth c H locs 0 0 (MQ below (q_Machine_go D ad ca N M0 MZ RZ A) [.ref (ad 5 j0), .int x1].toArray s rm_Machine_go.cells rm_Machine_go.slots A) (F0 m 54 ls []) := by
    intro k9 hk9 M y3 H locs ls h hwf hkp hP hD hS hl
    unfold f_Machine_go_b54 at h
    have hkb := hkp
    refine lv_aload_n hx hb d_Machine_go_54 rfl (lv_at hl 0 rfl) ?_
    refine lv_dup hx hb d_Machine_go_55 rfl ?_
    refine g_Machine_14 hx hb hts hown hK hP hwf hj0 (hts _ u_644) d_Machine_go_56 ?_
    refine lv_iconst (v := 1) hx hb d_Machine_go_59 (by decide) ?_
    refine lv_iadd hx hb d_Machine_go_60 ?_
    obtain ⟨M1, eM1, h⟩ := st_ob h
    refine p_Machine_14 eM1 hx hb hts hown hK hP hD hwf hS hj0 (hts _ u_644) d_Machine_go_61 (fun H locs hP hD hwf hS => ?_)
    have hkp := kz_I eM1 hkp
    refine lv_aload_n hx hb d_Machine_go_64 rfl (lv_at hl 0 rfl) ?_
    refine lv_aload_n hx hb d_Machine_go_65 rfl (lv_at hl 0 rfl) ?_
    refine g_Machine_17 hx hb hts hown hK hP hwf hj0 (hts _ u_649) d_Machine_go_66 ?_
    obtain ⟨M2, r3, eM2, h⟩ := b2_ob h
    refine me_theni0 (M1 := M2) (me_runV (C := "FilterGuard$Machine") (As := [.int (mI M1 5 j0 17)]) (rest := []) ⟨hx, hb, hml, hown, hts⟩ (c_Machine_step l D ad ca N M1 M2 r3 j0 (mI M1 5 j0 17) eM2 hwf hj0 _) rfl (by show fg_nm y_Machine_step 1; decide +kernel) u_1649 u_1651 u_73 u_190 u_1652 ⟨Nat.le_of_ble_eq_true rfl, Nat.le_of_ble_eq_true rfl⟩ hX hz hK hP hD hwf hS hA hj0 (by decide) rfl rfl rfl hl.1 (Nat.le_of_ble_eq_true rfl) d_Machine_go_69 ⟨Nat.le_of_ble_eq_true rfl, Nat.le_of_ble_eq_true rfl⟩) hP hD hK hS hA rfl rfl (fun H locs hw hP hD hS => ?_)
    obtain ⟨hwf, hkq, zr3⟩ := hw
    have hkp := hkp.tr hkq
    refine lv_istore_n (lv' := [(2, .int r3), (0, .ref (ad 5 j0)), (3, .int y3)]) hx hb d_Machine_go_72 rfl hl (by decide) rfl (fun ls hl => ?_)
    refine lv_aload_n hx hb d_Machine_go_73 rfl (lv_at hl 1 rfl) ?_
    refine g_Machine_13 hx hb hts hown hK hP hwf hj0 (hts _ u_642) d_Machine_go_74 ?_
    refine lv_if_ne (tgt := 126) hx hb d_Machine_go_77 (by decide) (fun c4 => ?_) (fun c4 => ?_)
    · have h := if_f c4 h
      refine lv_iinc (v := y3 + 1) (lv' := [(3, .int (y3 + 1)), (2, .int r3), (0, .ref (ad 5 j0))]) hx hb d_Machine_go_126 hl (k := 2) rfl (by rfl) (by decide) rfl (fun ls hl => ?_)
      refine lv_goto (tgt := 9) hx hb d_Machine_go_129 (by decide) ?_
      exact hk9 M2 r3 (y3 + 1) _ _ _ h zr3 hwf hkp hP hD hS (lv_sub hl [2, 1, 0] rfl)
    have h := if_t c4 h
    refine lv_aload_n hx hb d_Machine_go_80 rfl (lv_at hl 1 rfl) ?_
    refine g_Machine_16 hx hb hts hown hK hP hwf hj0 (hts _ u_648) d_Machine_go_81 ?_
    obtain ⟨j5, e6, h⟩ := bd_ob h
    have hj5 : j5 < N 2 := (hwf.2.1 5 j0 16 _ e6 (by decide) hj0)
    refine me_opt (j := j5) e6 ?_
    refine g_Code_10 hx hb hts hown hK hP hwf hj5 (hts _ u_254) d_Machine_go_84 ?_
    refine lv_bipush (v := 9) hx hb d_Machine_go_87 (by decide) ?_
    refine lv_icmp_ne (tgt := 126) hx hb d_Machine_go_89 (by decide) (fun c7 => ?_) (fun c7 => ?_)
    · have h := if_f c7 h
      refine lv_iinc (v := y3 + 1) (lv' := [(3, .int (y3 + 1)), (2, .int r3), (0, .ref (ad 5 j0))]) hx hb d_Machine_go_126 hl (k := 2) rfl (by rfl) (by decide) rfl (fun ls hl => ?_)
      refine lv_goto (tgt := 9) hx hb d_Machine_go_129 (by decide) ?_
      exact hk9 M2 r3 (y3 + 1) _ _ _ h zr3 hwf hkp hP hD hS (lv_sub hl [2, 1, 0] rfl)
    have h := if_t c7 h
    refine lv_aload_n hx hb d_Machine_go_92 rfl (lv_at hl 1 rfl) ?_
    refine g_Machine_16 hx hb hts hown hK hP hwf hj0 (hts _ u_648) d_Machine_go_93 ?_
    refine me_opt (j := j5) e6 ?_
    refine g_Code_9 hx hb hts hown hK hP hwf hj5 (hts _ u_249) d_Machine_go_96 ?_
    refine lv_iconst (v := 1) hx hb d_Machine_go_99 (by decide) ?_
    refine lv_icmp_ne (tgt := 126) hx hb d_Machine_go_100 (by decide) (fun c8 => ?_) (fun c8 => ?_)
    · have h := if_f c8 h
      refine lv_iinc (v := y3 + 1) (lv' := [(3, .int (y3 + 1)), (2, .int r3), (0, .ref (ad 5 j0))]) hx hb d_Machine_go_126 hl (k := 2) rfl (by rfl) (by decide) rfl (fun ls hl => ?_)
      refine lv_goto (tgt := 9) hx hb d_Machine_go_129 (by decide) ?_
      exact hk9 M2 r3 (y3 + 1) _ _ _ h zr3 hwf hkp hP hD hS (lv_sub hl [2, 1, 0] rfl)
    have h := if_t c8 h
    refine lv_aload_n hx hb d_Machine_go_103 rfl (lv_at hl 1 rfl) ?_
    refine g_Machine_3 hx hb hts hown hK hP hwf hj0 (hts _ u_626) d_Machine_go_104 ?_
    obtain ⟨j9, e10, h⟩ := bd_ob h
    have hj9 : j9 < N 6 := (hwf.2.1 5 j0 3 _ e10 (by decide) hj0)
    refine me_opt (j := j9) e10 ?_
    refine lv_aload_n hx hb d_Machine_go_107 rfl (lv_at hl 1 rfl) ?_
    refine g_Machine_6 hx hb hts hown hK hP hwf hj0 (hts _ u_629) d_Machine_go_108 ?_
    obtain ⟨j11, e12, h⟩ := bd_ob h
    have hj11 : j11 < N 16 := (hwf.2.1 5 j0 6 _ e12 (by decide) hj0)
    refine me_opt (j := j11) e12 ?_
    refine lv_iconst (v := 0) hx hb d_Machine_go_111 (by decide) ?_
    obtain ⟨g13, h⟩ := gd_ob h
    refine me_lald hx hb hK hP hwf hj11 (me_in (i := (0 : Int32)) (k := 0) (by decide) (by decide) (kp_c hkb hkp g13)) d_Machine_go_112 ?_
    refine fg_topl (y := mL M2 16 j11 0) (congrArg _ (by decide)) ?_
    refine lv_lconst (v := 0) hx hb d_Machine_go_113 (by decide) ?_
    refine W.lcmp hx hb d_Machine_go_114 ?_
    refine lv_if_eq (tgt := 122) hx hb d_Machine_go_115 (by decide) (fun c14 => ?_) (fun c14 => ?_)
    · have h := if_t ((lg_cmp_eq _ _).mp c14) h
      refine lv_iconst (v := 0) hx hb d_Machine_go_122 (by decide) ?_
      obtain ⟨M15, eM15, h⟩ := bd_ob h
      refine me_thenv0 (M1 := M15) (me_runV (C := "FilterGuard$Checks") (As := [.int 0]) (rest := []) ⟨hx, hb, hml, hown, hts⟩ (c_Checks_find l D ad ca N M2 M15 j9 (0 : Int32) eM15 hwf hj9 (by decide) _) rfl (by show fg_nm y_Checks_find 1; decide +kernel) u_1722 u_1723 u_1724 u_191 u_1725 ⟨Nat.le_of_ble_eq_true rfl, Nat.le_of_ble_eq_true rfl⟩ hX hz hK hP hD hwf hS hA hj9 (by decide) rfl rfl rfl hl.1 (Nat.le_of_ble_eq_true rfl) d_Machine_go_123 ⟨Nat.le_of_ble_eq_true rfl, Nat.le_of_ble_eq_true rfl⟩) hP hD hK hS hA rfl rfl (fun H locs hw hP hD hS => ?_)
      obtain ⟨hwf, hkq⟩ := hw
      have hkp := hkp.tr hkq.z
      refine lv_iinc (v := y3 + 1) (lv' := [(3, .int (y3 + 1)), (2, .int r3), (0, .ref (ad 5 j0))]) hx hb d_Machine_go_126 hl (k := 2) rfl (by rfl) (by decide) rfl (fun ls hl => ?_)
      refine lv_goto (tgt := 9) hx hb d_Machine_go_129 (by decide) ?_
      exact hk9 M15 r3 (y3 + 1) _ _ _ h zr3 hwf hkp hP hD hS (lv_sub hl [2, 1, 0] rfl)
    have h := if_f (fun z => c14 ((lg_cmp_eq _ _).mpr z)) h
    refine lv_iconst (v := 1) hx hb d_Machine_go_118 (by decide) ?_
    refine lv_goto (tgt := 123) hx hb d_Machine_go_119 (by decide) ?_
    obtain ⟨M16, eM16, h⟩ := bd_ob h
    refine me_thenv0 (M1 := M16) (me_runV (C := "FilterGuard$Checks") (As := [.int 1]) (rest := []) ⟨hx, hb, hml, hown, hts⟩ (c_Checks_find l D ad ca N M2 M16 j9 (1 : Int32) eM16 hwf hj9 (by decide) _) rfl (by show fg_nm y_Checks_find 1; decide +kernel) u_1722 u_1723 u_1724 u_191 u_1725 ⟨Nat.le_of_ble_eq_true rfl, Nat.le_of_ble_eq_true rfl⟩ hX hz hK hP hD hwf hS hA hj9 (by decide) rfl rfl rfl hl.1 (Nat.le_of_ble_eq_true rfl) d_Machine_go_123 ⟨Nat.le_of_ble_eq_true rfl, Nat.le_of_ble_eq_true rfl⟩) hP hD hK hS hA rfl rfl (fun H locs hw hP hD hS => ?_)
    obtain ⟨hwf, hkq⟩ := hw
    have hkp := hkp.tr hkq.z
    refine lv_iinc (v := y3 + 1) (lv' := [(3, .int (y3 + 1)), (2, .int r3), (0, .ref (ad 5 j0))]) hx hb d_Machine_go_126 hl (k := 2) rfl (by rfl) (by decide) rfl (fun ls hl => ?_)
    refine lv_goto (tgt := 9) hx hb d_Machine_go_129 (by decide) ?_
    exact hk9 M16 r3 (y3 + 1) _ _ _ h zr3 hwf hkp hP hD hS (lv_sub hl [2, 1, 0] rfl)
  have b_9 : ∀ (fu : Nat), ∀ (M : me_M) (y2 : Int32) (y3 : Int32) (H : Heap) (locs : List Loc) (ls : Array Slot), f_Machine_go_l9 j0 fu M y2 y3 = (some (MZ, RZ)) → (y2 = 1 ∨ y2 = 0) → me_wf N M → me_kz M0 M → va_P D classes (me_W ad ca M) H → va_D A (me_W ad ca M) → va_S A s.heap H locs → lv_has ls 4 [(0, .ref (ad 5 j0)), (2, .int y2), (3, .int y3)] → W p l e rm_Machine_go s m [.ref (ad 5 j0), .int x1].toArray below meth c H locs 0 0 (MQ below (q_Machine_go D ad ca N M0 MZ RZ A) [.ref (ad 5 j0), .int x1].toArray s rm_Machine_go.cells rm_Machine_go.slots A) (F0 m 9 ls []) := by
    intro fu
    induction fu with
    | zero =>
      intro M y2 y3 H locs ls h zy2 hwf hkp hP hD hS hl
      cases h
    | succ fu ih =>
      intro M y2 y3 H locs ls h zy2 hwf hkp hP hD hS hl
      unfold f_Machine_go_l9 at h
      have hkb := hkp
      refine lv_iload_n hx hb d_Machine_go_9 rfl (lv_at hl 2 rfl) ?_
      refine lv_ldc hx hb hown (hts _ u_1595) d_Machine_go_10 ?_
      refine lv_icmp_ge (tgt := 132) hx hb d_Machine_go_12 (by decide) (fun c17 => ?_) (fun c17 => ?_)
      · have h := if_t c17 h
        refine lv_aload_n hx hb d_Machine_go_132 rfl (lv_at hl 0 rfl) ?_
        refine g_Machine_6 hx hb hts hown hK hP hwf hj0 (hts _ u_629) d_Machine_go_133 ?_
        obtain ⟨j18, e19, h⟩ := bd_ob h
        have hj18 : j18 < N 16 := (hwf.2.1 5 j0 6 _ e19 (by decide) hj0)
        refine me_opt (j := j18) e19 ?_
        refine lv_iconst (v := 0) hx hb d_Machine_go_136 (by decide) ?_
        obtain ⟨g20, h⟩ := gd_ob h
        refine me_lald hx hb hK hP hwf hj18 (me_in (i := (0 : Int32)) (k := 0) (by decide) (by decide) g20) d_Machine_go_137 ?_
        refine fg_topl (y := mL M 16 j18 0) (congrArg _ (by decide)) ?_
        exact me_retl (me_kz M0) h hx hb hr hlocks hwf hkp hP hK hD hS d_Machine_go_138
      have h := if_f c17 h
      refine lv_iload_n hx hb d_Machine_go_15 rfl (lv_at hl 1 rfl) ?_
      refine lv_if_eq (tgt := 132) hx hb d_Machine_go_16 (by decide) (fun c21 => ?_) (fun c21 => ?_)
      · have h := if_t c21 h
        refine lv_aload_n hx hb d_Machine_go_132 rfl (lv_at hl 0 rfl) ?_
        refine g_Machine_6 hx hb hts hown hK hP hwf hj0 (hts _ u_629) d_Machine_go_133 ?_
        obtain ⟨j22, e23, h⟩ := bd_ob h
        have hj22 : j22 < N 16 := (hwf.2.1 5 j0 6 _ e23 (by decide) hj0)
        refine me_opt (j := j22) e23 ?_
        refine lv_iconst (v := 0) hx hb d_Machine_go_136 (by decide) ?_
        obtain ⟨g24, h⟩ := gd_ob h
        refine me_lald hx hb hK hP hwf hj22 (me_in (i := (0 : Int32)) (k := 0) (by decide) (by decide) g24) d_Machine_go_137 ?_
        refine fg_topl (y := mL M 16 j22 0) (congrArg _ (by decide)) ?_
        exact me_retl (me_kz M0) h hx hb hr hlocks hwf hkp hP hK hD hS d_Machine_go_138
      have h := if_f c21 h
      refine lv_aload_n hx hb d_Machine_go_19 rfl (lv_at hl 0 rfl) ?_
      refine g_Machine_16 hx hb hts hown hK hP hwf hj0 (hts _ u_648) d_Machine_go_20 ?_
      obtain ⟨j25, e26, h⟩ := bd_ob h
      have hj25 : j25 < N 2 := (hwf.2.1 5 j0 16 _ e26 (by decide) hj0)
      refine me_opt (j := j25) e26 ?_
      refine lv_aload_n hx hb d_Machine_go_23 rfl (lv_at hl 0 rfl) ?_
      refine g_Machine_17 hx hb hts hown hK hP hwf hj0 (hts _ u_649) d_Machine_go_24 ?_
      obtain ⟨M27, eM27, h⟩ := bd_ob h
      refine me_thenv0 (M1 := M27) (me_runV (C := "FilterGuard$Code") (As := [.int (mI M 5 j0 17)]) (rest := []) ⟨hx, hb, hml, hown, hts⟩ (c_Code_look l D ad ca N M M27 j25 (mI M 5 j0 17) eM27 hwf hj25 _) rfl (by show fg_nm y_Code_look 1; decide +kernel) u_1596 u_958 u_959 u_182 u_960 ⟨Nat.le_of_ble_eq_true rfl, Nat.le_of_ble_eq_true rfl⟩ hX hz hK hP hD hwf hS hA hj25 (by decide) rfl rfl rfl hl.1 (Nat.le_of_ble_eq_true rfl) d_Machine_go_27 ⟨Nat.le_of_ble_eq_true rfl, Nat.le_of_ble_eq_true rfl⟩) hP hD hK hS hA rfl rfl (fun H locs hw hP hD hS => ?_)
      obtain ⟨hwf, hkq⟩ := hw
      have hkp := hkp.tr hkq.z
      refine lv_aload_n hx hb d_Machine_go_30 rfl (lv_at hl 0 rfl) ?_
      refine g_Machine_13 hx hb hts hown hK hP hwf hj0 (hts _ u_642) d_Machine_go_31 ?_
      refine lv_if_ne (tgt := 54) hx hb d_Machine_go_34 (by decide) (fun c28 => ?_) (fun c28 => ?_)
      · have h := if_f c28 h
        exact b_54 _ ih M27 y3 _ _ _ h hwf hkp hP hD hS (lv_sub hl [0, 2] rfl)
      have h := if_t c28 h
      refine lv_aload_n hx hb d_Machine_go_37 rfl (lv_at hl 0 rfl) ?_
      refine g_Machine_3 hx hb hts hown hK hP hwf hj0 (hts _ u_626) d_Machine_go_38 ?_
      obtain ⟨j29, e30, h⟩ := bd_ob h
      have hj29 : j29 < N 6 := (hwf.2.1 5 j0 3 _ e30 (by decide) hj0)
      refine me_opt (j := j29) e30 ?_
      refine lv_aload_n hx hb d_Machine_go_41 rfl (lv_at hl 0 rfl) ?_
      refine g_Machine_6 hx hb hts hown hK hP hwf hj0 (hts _ u_629) d_Machine_go_42 ?_
      obtain ⟨j31, e32, h⟩ := bd_ob h
      have hj31 : j31 < N 16 := (hwf.2.1 5 j0 6 _ e32 (by decide) hj0)
      refine me_opt (j := j31) e32 ?_
      obtain ⟨M33, r34, eM33, h⟩ := b2_ob h
      refine me_theni0 (M1 := M33) (me_runV (C := "FilterGuard$Checks") (As := [.ref (ad 16 j31)]) (rest := []) ⟨hx, hb, hml, hown, hts⟩ (c_Checks_allows l D ad ca N M27 M33 r34 j29 j31 eM33 hwf hj29 hj31 _) rfl (by show fg_nm y_Checks_allows 1; decide +kernel) u_1597 u_1598 u_1599 u_191 u_1600 ⟨Nat.le_of_ble_eq_true rfl, Nat.le_of_ble_eq_true rfl⟩ hX hz hK hP hD hwf hS hA hj29 (by decide) rfl rfl rfl hl.1 (Nat.le_of_ble_eq_true rfl) d_Machine_go_45 ⟨Nat.le_of_ble_eq_true rfl, Nat.le_of_ble_eq_true rfl⟩) hP hD hK hS hA rfl rfl (fun H locs hw hP hD hS => ?_)
      obtain ⟨hwf, hkq, zr34⟩ := hw
      have hkp := hkp.tr hkq.z
      refine lv_if_ne (tgt := 54) hx hb d_Machine_go_48 (by decide) (fun c35 => ?_) (fun c35 => ?_)
      · have h := if_f c35 h
        exact b_54 _ ih M33 y3 _ _ _ h hwf hkp hP hD hS (lv_sub hl [0, 2] rfl)
      have h := if_t c35 h
      refine lv_goto (tgt := 132) hx hb d_Machine_go_51 (by decide) ?_
      refine lv_aload_n hx hb d_Machine_go_132 rfl (lv_at hl 0 rfl) ?_
      refine g_Machine_6 hx hb hts hown hK hP hwf hj0 (hts _ u_629) d_Machine_go_133 ?_
      obtain ⟨j36, e37, h⟩ := bd_ob h
      have hj36 : j36 < N 16 := (hwf.2.1 5 j0 6 _ e37 (by decide) hj0)
      refine me_opt (j := j36) e37 ?_
      refine lv_iconst (v := 0) hx hb d_Machine_go_136 (by decide) ?_
      obtain ⟨g38, h⟩ := gd_ob h
      refine me_lald hx hb hK hP hwf hj36 (me_in (i := (0 : Int32)) (k := 0) (by decide) (by decide) (kp_c hkb hkp g38)) d_Machine_go_137 ?_
      refine fg_topl (y := mL M33 16 j36 0) (congrArg _ (by decide)) ?_
      exact me_retl (me_kz M0) h hx hb hr hlocks hwf hkp hP hK hD hS d_Machine_go_138
  refine lv_aload_n hx hb d_Machine_go_0 rfl (lv_at hl 0 rfl) ?_
  refine lv_iload_n hx hb d_Machine_go_1 rfl (lv_at hl 1 rfl) ?_
  obtain ⟨M39, eM39, h⟩ := bd_ob h
  refine me_thenv0 (M1 := M39) (me_runV (C := "FilterGuard$Machine") (As := [.int x1]) (rest := []) ⟨hx, hb, hml, hown, hts⟩ (c_Machine_begin l D ad ca N M0 M39 j0 x1 eM39 hwf hj0 _) rfl (by show fg_nm y_Machine_begin 1; decide +kernel) u_1576 u_1578 u_63 u_190 u_1579 ⟨Nat.le_of_ble_eq_true rfl, Nat.le_of_ble_eq_true rfl⟩ hX hz hK hP hD hwf hS hA hj0 (by decide) rfl rfl rfl hl.1 (Nat.le_of_ble_eq_true rfl) d_Machine_go_2 ⟨Nat.le_of_ble_eq_true rfl, Nat.le_of_ble_eq_true rfl⟩) hP hD hK hS hA rfl rfl (fun H locs hw hP hD hS => ?_)
  obtain ⟨hwf, hkq⟩ := hw
  have hkp := hkp.tr hkq
  refine lv_iconst (v := 1) hx hb d_Machine_go_5 (by decide) ?_
  refine lv_istore_n (lv' := [(2, .int 1), (0, .ref (ad 5 j0)), (1, .int x1)]) hx hb d_Machine_go_6 rfl hl (by decide) rfl (fun ls hl => ?_)
  refine lv_iconst (v := 0) hx hb d_Machine_go_7 (by decide) ?_
  refine lv_istore_n (lv' := [(3, .int 0), (2, .int 1), (0, .ref (ad 5 j0)), (1, .int x1)]) hx hb d_Machine_go_8 rfl hl (by decide) rfl (fun ls hl => ?_)
  exact b_9 _ M39 (1 : Int32) (0 : Int32) _ _ _ h (by decide) hwf hkp hP hD hS (lv_sub hl [2, 1, 0] rfl)
