theorem d_Checks_allowsArithmetic_179 : decode prog_3_method_6_code 179 = .ok (.istore 5, 2) := by decide +kernel
theorem d_Checks_allowsArithmetic_181 : decode prog_3_method_6_code 181 = .ok (.aload_n 1, 1) := by decide +kernel
theorem d_Checks_allowsArithmetic_182 : decode prog_3_method_6_code 182 = .ok (.iload 4, 2) := by decide +kernel
theorem d_Checks_allowsArithmetic_184 : decode prog_3_method_6_code 184 = .ok (.ifCond .eq 7, 3) := by decide +kernel
theorem d_Checks_allowsArithmetic_191 : decode prog_3_method_6_code 191 = .ok (.iconst 1, 1) := by decide +kernel
theorem d_Checks_allowsArithmetic_192 : decode prog_3_method_6_code 192 = .ok (.putfield 34, 3) := by decide +kernel
theorem d_Checks_allowsArithmetic_195 : decode prog_3_method_6_code 195 = .ok (.iload 4, 2) := by decide +kernel
theorem d_Checks_allowsArithmetic_197 : decode prog_3_method_6_code 197 = .ok (.ifCond .ne 8, 3) := by decide +kernel
theorem d_Checks_allowsArithmetic_205 : decode prog_3_method_6_code 205 = .ok (.iconst 1, 1) := by decide +kernel
theorem d_Checks_allowsArithmetic_206 : decode prog_3_method_6_code 206 = .ok (.goto 4, 3) := by decide +kernel
theorem d_Checks_allowsArithmetic_210 : decode prog_3_method_6_code 210 = .ok (.ireturn, 1) := by decide +kernel
theorem d_Checks_allowsArithmetic_200 : decode prog_3_method_6_code 200 = .ok (.iload 5, 2) := by decide +kernel
theorem d_Checks_allowsArithmetic_202 : decode prog_3_method_6_code 202 = .ok (.ifCond .eq 7, 3) := by decide +kernel
theorem d_Checks_allowsArithmetic_209 : decode prog_3_method_6_code 209 = .ok (.iconst 0, 1) := by decide +kernel
theorem d_Checks_allowsArithmetic_187 : decode prog_3_method_6_code 187 = .ok (.iload_n 2, 1) := by decide +kernel
theorem d_Checks_allowsArithmetic_188 : decode prog_3_method_6_code 188 = .ok (.goto 4, 3) := by decide +kernel
theorem d_Checks_allowsArithmetic_178 : decode prog_3_method_6_code 178 = .ok (.iconst 0, 1) := by decide +kernel
theorem d_Checks_allowsArithmetic_147 : decode prog_3_method_6_code 147 = .ok (.istore 4, 2) := by decide +kernel
theorem d_Checks_allowsArithmetic_149 : decode prog_3_method_6_code 149 = .ok (.aload_n 0, 1) := by decide +kernel
theorem d_Checks_allowsArithmetic_150 : decode prog_3_method_6_code 150 = .ok (.getfield 23, 3) := by decide +kernel
theorem d_Checks_allowsArithmetic_153 : decode prog_3_method_6_code 153 = .ok (.getfield 76, 3) := by decide +kernel
theorem u_263 : Cond.fieldLink "FilterGuard$Checks" 76 "FilterGuard$Code" "operation" "I" ∈ fg_g := fg_in (List.mem_of_getElem? (i := 263) (by decide +kernel)) rfl
theorem d_Checks_allowsArithmetic_156 : decode prog_3_method_6_code 156 = .ok (.iconst 1, 1) := by decide +kernel
theorem d_Checks_allowsArithmetic_157 : decode prog_3_method_6_code 157 = .ok (.if_icmp .ne 21, 3) := by decide +kernel
theorem d_Checks_allowsArithmetic_160 : decode prog_3_method_6_code 160 = .ok (.aload_n 1, 1) := by decide +kernel
theorem d_Checks_allowsArithmetic_161 : decode prog_3_method_6_code 161 = .ok (.invokevirtual 85, 3) := by decide +kernel
theorem u_1610 : Cond.methodLink "FilterGuard$Checks" 85 ⟨"FilterGuard$Cell", "isOfPacket", "()Z"⟩ ∈ fg_g := fg_in (List.mem_of_getElem? (i := 1610) (by decide +kernel)) rfl
theorem d_Checks_allowsArithmetic_164 : decode prog_3_method_6_code 164 = .ok (.ifCond .eq 14, 3) := by decide +kernel
theorem d_Checks_allowsArithmetic_167 : decode prog_3_method_6_code 167 = .ok (.aload_n 3, 1) := by decide +kernel
theorem d_Checks_allowsArithmetic_168 : decode prog_3_method_6_code 168 = .ok (.invokevirtual 85, 3) := by decide +kernel
theorem d_Checks_allowsArithmetic_171 : decode prog_3_method_6_code 171 = .ok (.ifCond .eq 7, 3) := by decide +kernel
theorem d_Checks_allowsArithmetic_174 : decode prog_3_method_6_code 174 = .ok (.iconst 1, 1) := by decide +kernel
theorem d_Checks_allowsArithmetic_175 : decode prog_3_method_6_code 175 = .ok (.goto 4, 3) := by decide +kernel
theorem d_Checks_allowsArithmetic_146 : decode prog_3_method_6_code 146 = .ok (.iconst 0, 1) := by decide +kernel
theorem d_Checks_allowsArithmetic_71 : decode prog_3_method_6_code 71 = .ok (.aload_n 0, 1) := by decide +kernel
theorem d_Checks_allowsArithmetic_72 : decode prog_3_method_6_code 72 = .ok (.getfield 23, 3) := by decide +kernel
theorem d_Checks_allowsArithmetic_75 : decode prog_3_method_6_code 75 = .ok (.getfield 79, 3) := by decide +kernel
theorem u_267 : Cond.fieldLink "FilterGuard$Checks" 79 "FilterGuard$Code" "isNarrow" "Z" ∈ fg_g := fg_in (List.mem_of_getElem? (i := 267) (by decide +kernel)) rfl
theorem d_Checks_allowsArithmetic_78 : decode prog_3_method_6_code 78 = .ok (.ifCond .ne 14, 3) := by decide +kernel
theorem d_Checks_allowsArithmetic_92 : decode prog_3_method_6_code 92 = .ok (.iconst 0, 1) := by decide +kernel
theorem d_Checks_allowsArithmetic_93 : decode prog_3_method_6_code 93 = .ok (.ireturn, 1) := by decide +kernel
theorem d_Checks_allowsArithmetic_81 : decode prog_3_method_6_code 81 = .ok (.aload_n 0, 1) := by decide +kernel
theorem d_Checks_allowsArithmetic_82 : decode prog_3_method_6_code 82 = .ok (.getfield 23, 3) := by decide +kernel
theorem d_Checks_allowsArithmetic_85 : decode prog_3_method_6_code 85 = .ok (.getfield 76, 3) := by decide +kernel
theorem d_Checks_allowsArithmetic_88 : decode prog_3_method_6_code 88 = .ok (.iconst 1, 1) := by decide +kernel
theorem d_Checks_allowsArithmetic_89 : decode prog_3_method_6_code 89 = .ok (.if_icmp .le 5, 3) := by decide +kernel
theorem d_Checks_allowsArithmetic_94 : decode prog_3_method_6_code 94 = .ok (.iload_n 2, 1) := by decide +kernel
theorem d_Checks_allowsArithmetic_95 : decode prog_3_method_6_code 95 = .ok (.iconst 1, 1) := by decide +kernel
theorem d_Checks_allowsArithmetic_96 : decode prog_3_method_6_code 96 = .ok (.if_icmp .ne 8, 3) := by decide +kernel
theorem d_Checks_allowsArithmetic_104 : decode prog_3_method_6_code 104 = .ok (.aload_n 0, 1) := by decide +kernel
theorem d_Checks_allowsArithmetic_105 : decode prog_3_method_6_code 105 = .ok (.getfield 22, 3) := by decide +kernel
theorem d_Checks_allowsArithmetic_108 : decode prog_3_method_6_code 108 = .ok (.aload_n 0, 1) := by decide +kernel
theorem d_Checks_allowsArithmetic_109 : decode prog_3_method_6_code 109 = .ok (.getfield 23, 3) := by decide +kernel
theorem d_Checks_allowsArithmetic_112 : decode prog_3_method_6_code 112 = .ok (.getfield 52, 3) := by decide +kernel
theorem d_Checks_allowsArithmetic_115 : decode prog_3_method_6_code 115 = .ok (.aaload, 1) := by decide +kernel
theorem d_Checks_allowsArithmetic_116 : decode prog_3_method_6_code 116 = .ok (.astore_n 3, 1) := by decide +kernel
theorem d_Checks_allowsArithmetic_117 : decode prog_3_method_6_code 117 = .ok (.aload_n 0, 1) := by decide +kernel
theorem d_Checks_allowsArithmetic_118 : decode prog_3_method_6_code 118 = .ok (.getfield 23, 3) := by decide +kernel
theorem d_Checks_allowsArithmetic_121 : decode prog_3_method_6_code 121 = .ok (.getfield 76, 3) := by decide +kernel
theorem d_Checks_allowsArithmetic_124 : decode prog_3_method_6_code 124 = .ok (.ifCond .ne 22, 3) := by decide +kernel
theorem d_Checks_allowsArithmetic_127 : decode prog_3_method_6_code 127 = .ok (.aload_n 1, 1) := by decide +kernel
theorem d_Checks_allowsArithmetic_128 : decode prog_3_method_6_code 128 = .ok (.getfield 34, 3) := by decide +kernel
theorem d_Checks_allowsArithmetic_131 : decode prog_3_method_6_code 131 = .ok (.iconst 1, 1) := by decide +kernel
theorem d_Checks_allowsArithmetic_132 : decode prog_3_method_6_code 132 = .ok (.if_icmp .ne 14, 3) := by decide +kernel
theorem d_Checks_allowsArithmetic_135 : decode prog_3_method_6_code 135 = .ok (.aload_n 3, 1) := by decide +kernel
theorem d_Checks_allowsArithmetic_136 : decode prog_3_method_6_code 136 = .ok (.invokevirtual 82, 3) := by decide +kernel
theorem u_1609 : Cond.methodLink "FilterGuard$Checks" 82 ⟨"FilterGuard$Cell", "isPointer", "()Z"⟩ ∈ fg_g := fg_in (List.mem_of_getElem? (i := 1609) (by decide +kernel)) rfl
theorem d_Checks_allowsArithmetic_139 : decode prog_3_method_6_code 139 = .ok (.ifCond .eq 7, 3) := by decide +kernel
theorem d_Checks_allowsArithmetic_142 : decode prog_3_method_6_code 142 = .ok (.iconst 1, 1) := by decide +kernel
theorem d_Checks_allowsArithmetic_143 : decode prog_3_method_6_code 143 = .ok (.goto 4, 3) := by decide +kernel
theorem d_Checks_allowsArithmetic_99 : decode prog_3_method_6_code 99 = .ok (.aload_n 1, 1) := by decide +kernel
theorem d_Checks_allowsArithmetic_100 : decode prog_3_method_6_code 100 = .ok (.invokevirtual 82, 3) := by decide +kernel
theorem d_Checks_allowsArithmetic_103 : decode prog_3_method_6_code 103 = .ok (.ireturn, 1) := by decide +kernel
theorem d_Checks_allowsArithmetic_0 : decode prog_3_method_6_code 0 = .ok (.aload_n 0, 1) := by decide +kernel
theorem d_Checks_allowsArithmetic_1 : decode prog_3_method_6_code 1 = .ok (.getfield 22, 3) := by decide +kernel
theorem d_Checks_allowsArithmetic_4 : decode prog_3_method_6_code 4 = .ok (.aload_n 0, 1) := by decide +kernel
theorem d_Checks_allowsArithmetic_5 : decode prog_3_method_6_code 5 = .ok (.getfield 23, 3) := by decide +kernel
theorem d_Checks_allowsArithmetic_8 : decode prog_3_method_6_code 8 = .ok (.getfield 46, 3) := by decide +kernel
theorem u_234 : Cond.fieldLink "FilterGuard$Checks" 46 "FilterGuard$Code" "to" "I" ∈ fg_g := fg_in (List.mem_of_getElem? (i := 234) (by decide +kernel)) rfl
theorem d_Checks_allowsArithmetic_11 : decode prog_3_method_6_code 11 = .ok (.aaload, 1) := by decide +kernel
theorem d_Checks_allowsArithmetic_12 : decode prog_3_method_6_code 12 = .ok (.astore_n 1, 1) := by decide +kernel
theorem d_Checks_allowsArithmetic_13 : decode prog_3_method_6_code 13 = .ok (.aload_n 0, 1) := by decide +kernel
theorem d_Checks_allowsArithmetic_14 : decode prog_3_method_6_code 14 = .ok (.invokevirtual 72, 3) := by decide +kernel
theorem u_1605 : Cond.methodLink "FilterGuard$Checks" 72 ⟨"FilterGuard$Checks", "operandKind", "()I"⟩ ∈ fg_g := fg_in (List.mem_of_getElem? (i := 1605) (by decide +kernel)) rfl
theorem u_1608 : Cond.code ⟨"FilterGuard$Checks", "operandKind", "()I"⟩ prog_3_method_5_code 1 (some .int) ∈ fg_g := fg_in (List.mem_of_getElem? (i := 1608) (by decide +kernel)) rfl
theorem u_1607 : Cond.instanceMethod ⟨"FilterGuard$Checks", "operandKind", "()I"⟩ ∈ fg_g := fg_in (List.mem_of_getElem? (i := 1607) (by decide +kernel)) rfl
theorem u_65 : Cond.selects "FilterGuard$Checks" ⟨"FilterGuard$Checks", "operandKind", "()I"⟩ ⟨"FilterGuard$Checks", "operandKind", "()I"⟩ ∈ fg_g := fg_in (List.mem_of_getElem? (i := 65) (by decide +kernel)) rfl
theorem d_Checks_allowsArithmetic_17 : decode prog_3_method_6_code 17 = .ok (.istore_n 2, 1) := by decide +kernel
theorem d_Checks_allowsArithmetic_18 : decode prog_3_method_6_code 18 = .ok (.aload_n 0, 1) := by decide +kernel
theorem d_Checks_allowsArithmetic_19 : decode prog_3_method_6_code 19 = .ok (.getfield 23, 3) := by decide +kernel
theorem d_Checks_allowsArithmetic_22 : decode prog_3_method_6_code 22 = .ok (.getfield 76, 3) := by decide +kernel
theorem d_Checks_allowsArithmetic_25 : decode prog_3_method_6_code 25 = .ok (.bipush 12, 2) := by decide +kernel
theorem d_Checks_allowsArithmetic_27 : decode prog_3_method_6_code 27 = .ok (.if_icmp .ne 29, 3) := by decide +kernel
theorem d_Checks_allowsArithmetic_56 : decode prog_3_method_6_code 56 = .ok (.aload_n 1, 1) := by decide +kernel
theorem d_Checks_allowsArithmetic_57 : decode prog_3_method_6_code 57 = .ok (.getfield 34, 3) := by decide +kernel
theorem d_Checks_allowsArithmetic_60 : decode prog_3_method_6_code 60 = .ok (.iconst 1, 1) := by decide +kernel
theorem d_Checks_allowsArithmetic_61 : decode prog_3_method_6_code 61 = .ok (.if_icmp .ne 10, 3) := by decide +kernel
theorem d_Checks_allowsArithmetic_64 : decode prog_3_method_6_code 64 = .ok (.iload_n 2, 1) := by decide +kernel
theorem d_Checks_allowsArithmetic_65 : decode prog_3_method_6_code 65 = .ok (.iconst 1, 1) := by decide +kernel
theorem d_Checks_allowsArithmetic_66 : decode prog_3_method_6_code 66 = .ok (.if_icmp .ne 5, 3) := by decide +kernel
theorem d_Checks_allowsArithmetic_69 : decode prog_3_method_6_code 69 = .ok (.iconst 1, 1) := by decide +kernel
theorem d_Checks_allowsArithmetic_70 : decode prog_3_method_6_code 70 = .ok (.ireturn, 1) := by decide +kernel
theorem d_Checks_allowsArithmetic_30 : decode prog_3_method_6_code 30 = .ok (.aload_n 1, 1) := by decide +kernel
theorem d_Checks_allowsArithmetic_31 : decode prog_3_method_6_code 31 = .ok (.iload_n 2, 1) := by decide +kernel
theorem d_Checks_allowsArithmetic_32 : decode prog_3_method_6_code 32 = .ok (.putfield 34, 3) := by decide +kernel
theorem d_Checks_allowsArithmetic_35 : decode prog_3_method_6_code 35 = .ok (.iload_n 2, 1) := by decide +kernel
theorem d_Checks_allowsArithmetic_36 : decode prog_3_method_6_code 36 = .ok (.iconst 1, 1) := by decide +kernel
theorem d_Checks_allowsArithmetic_37 : decode prog_3_method_6_code 37 = .ok (.if_icmp .eq 13, 3) := by decide +kernel
theorem d_Checks_allowsArithmetic_50 : decode prog_3_method_6_code 50 = .ok (.iconst 1, 1) := by decide +kernel
theorem d_Checks_allowsArithmetic_51 : decode prog_3_method_6_code 51 = .ok (.goto 4, 3) := by decide +kernel
theorem d_Checks_allowsArithmetic_55 : decode prog_3_method_6_code 55 = .ok (.ireturn, 1) := by decide +kernel
theorem d_Checks_allowsArithmetic_40 : decode prog_3_method_6_code 40 = .ok (.aload_n 0, 1) := by decide +kernel
theorem d_Checks_allowsArithmetic_41 : decode prog_3_method_6_code 41 = .ok (.getfield 23, 3) := by decide +kernel
theorem d_Checks_allowsArithmetic_44 : decode prog_3_method_6_code 44 = .ok (.getfield 79, 3) := by decide +kernel
theorem d_Checks_allowsArithmetic_47 : decode prog_3_method_6_code 47 = .ok (.ifCond .ne 7, 3) := by decide +kernel
theorem d_Checks_allowsArithmetic_54 : decode prog_3_method_6_code 54 = .ok (.iconst 0, 1) := by decide +kernel
abbrev y_Checks_allowsArithmetic : MethodName := ⟨"FilterGuard$Checks", "allowsArithmetic", "()Z"⟩
def f_Checks_allowsArithmetic_b179 (M : me_M) (y1 : Nat) (y2 : Int32) (y4 : Int32) (s0 : Int32) : Option (me_M × Int32) := (if y4 = 0 then st (wI M 10 y1 0 1) (fun (M2 : me_M) => (if y4 = 0 then (if s0 = 0 then some (M2, (0 : Int32)) else some (M2, (1 : Int32))) else some (M2, (1 : Int32)))) else st (wI M 10 y1 0 y2) (fun (M5 : me_M) => (if y4 = 0 then (if s0 = 0 then some (M5, (0 : Int32)) else some (M5, (1 : Int32))) else some (M5, (1 : Int32)))))
def f_Checks_allowsArithmetic_b178 (M : me_M) (y1 : Nat) (y2 : Int32) (y4 : Int32) : Option (me_M × Int32) := f_Checks_allowsArithmetic_b179 M y1 y2 y4 (0 : Int32)
def f_Checks_allowsArithmetic_b147 (j0 : Nat) (M : me_M) (y1 : Nat) (y2 : Int32) (y3 : Nat) (s0 : Int32) : Option (me_M × Int32) := bd (mR M 6 j0 0) (fun (j8 : Nat) => (if (mI M 2 j8 12) = 1 then b2 (f_Cell_isOfPacket M y1) (fun (M11 : me_M) (r12 : Int32) => (if r12 = 0 then f_Checks_allowsArithmetic_b178 M11 y1 y2 s0 else b2 (f_Cell_isOfPacket M11 y3) (fun (M14 : me_M) (r15 : Int32) => (if r15 = 0 then f_Checks_allowsArithmetic_b178 M14 y1 y2 s0 else f_Checks_allowsArithmetic_b179 M14 y1 y2 s0 (1 : Int32))))) else f_Checks_allowsArithmetic_b178 M y1 y2 s0))
def f_Checks_allowsArithmetic_b146 (j0 : Nat) (M : me_M) (y1 : Nat) (y2 : Int32) (y3 : Nat) : Option (me_M × Int32) := f_Checks_allowsArithmetic_b147 j0 M y1 y2 y3 (0 : Int32)
def f_Checks_allowsArithmetic_b71 (j0 : Nat) (M : me_M) (y1 : Nat) (y2 : Int32) : Option (me_M × Int32) := bd (mR M 6 j0 0) (fun (j17 : Nat) => (if (mI M 2 j17 13) = 0 then (if (mI M 2 j17 12) ≤ 1 then (if y2 = 1 then b2 (f_Cell_isPointer M y1) (fun (M33 : me_M) (r34 : Int32) => some (M33, r34)) else bd (mR M 6 j0 3) (fun (j23 : Nat) => gd (¬ ((mI M 2 j17 7) < 0 ∨ mZ M 18 j23 ≤ (mI M 2 j17 7).toNatClampNeg)) (bd (mR M 18 j23 ((mI M 2 j17 7).toNatClampNeg)) (fun (j26 : Nat) => (if (mI M 2 j17 12) = 0 then (if (mI M 10 y1 0) = 1 then b2 (f_Cell_isPointer M j26) (fun (M30 : me_M) (r31 : Int32) => (if r31 = 0 then f_Checks_allowsArithmetic_b146 j0 M30 y1 y2 j26 else f_Checks_allowsArithmetic_b147 j0 M30 y1 y2 j26 (1 : Int32))) else f_Checks_allowsArithmetic_b146 j0 M y1 y2 j26) else f_Checks_allowsArithmetic_b146 j0 M y1 y2 j26))))) else some (M, (0 : Int32))) else some (M, (0 : Int32))))
def f_Checks_allowsArithmetic (M0 : me_M) (j0 : Nat) : Option (me_M × Int32) := bd (mR M0 6 j0 3) (fun (j35 : Nat) => bd (mR M0 6 j0 0) (fun (j37 : Nat) => gd (¬ ((mI M0 2 j37 6) < 0 ∨ mZ M0 18 j35 ≤ (mI M0 2 j37 6).toNatClampNeg)) (bd (mR M0 18 j35 ((mI M0 2 j37 6).toNatClampNeg)) (fun (j40 : Nat) => b2 (f_Checks_operandKind M0 j0) (fun (M42 : me_M) (r43 : Int32) => (if (mI M42 2 j37 12) = 12 then st (wI M42 10 j40 0 r43) (fun (M47 : me_M) => (if r43 = 1 then some (M47, (1 : Int32)) else (if (mI M47 2 j37 13) = 0 then some (M47, (1 : Int32)) else some (M47, (0 : Int32))))) else (if (mI M42 10 j40 0) = 1 then (if r43 = 1 then some (M42, (1 : Int32)) else f_Checks_allowsArithmetic_b71 j0 M42 j40 r43) else f_Checks_allowsArithmetic_b71 j0 M42 j40 r43)))))))
def rm_Checks_allowsArithmetic : Room := { frames := 2, cells := 0, slots := 0, locals := 40 }
abbrev q_Checks_allowsArithmetic (D : va_G) (ad : Nat → Nat → Nat) (ca : Nat → ClassId) (N : Nat → Nat) (M0 MZ : me_M) (RZ : Int32) (A : Nat → Prop) : Array Value → Jvm.State → Outcome → Jvm.State → Prop := va_Qi (fun r (_ : Unit) => r = RZ ∧ me_wf N MZ ∧ me_kp M0 MZ ∧ (RZ = 1 ∨ RZ = 0)) (fg_B D A (fun _ => me_W ad ca MZ) (fun _ => [])) A
set_option maxHeartbeats 4000000 in
set_option maxRecDepth 100000 in
theorem c_Checks_allowsArithmetic (l : Launch) (D : va_G) (ad : Nat → Nat → Nat) (ca : Nat → ClassId) (N : Nat → Nat) (M0 MZ : me_M) (RZ : Int32) (j0 : Nat) (h : f_Checks_allowsArithmetic M0 j0 = (some (MZ, RZ))) (hwf : me_wf N M0) (hj0 : j0 < N 6) (sz : Nat) : Met l y_Checks_allowsArithmetic (fg_w y_Checks_allowsArithmetic prog_3_method_6_code 6 (some .boolean)) rm_Checks_allowsArithmetic (va_Pc [.ref (ad 6 j0)] (fz_P D (me_T ca) (me_W ad ca M0) sz)) (q_Checks_allowsArithmetic D ad ca N M0 MZ RZ (va_A (me_W ad ca M0) sz)) rm_Checks_allowsArithmetic.cells rm_Checks_allowsArithmetic.slots (va_A (me_W ad ca M0) sz) := by
  refine fz_enter (fun A => q_Checks_allowsArithmetic D ad ca N M0 MZ RZ A) (by decide +kernel) (Nat.le_of_ble_eq_true rfl) ?_
  intro p e s m below meth c ls A hx hb hml hown hts hr hlocks hin hP hK hD hS hA hX hl hz
  have hl : lv_has ls 6 [(0, .ref (ad 6 j0))] := hl
  unfold f_Checks_allowsArithmetic at h
  have hkp : me_kp M0 M0 := me_kp.rf
  have hkb := hkp
  have b_179 : ∀ (M : me_M) (y1 : Nat) (y2 : Int32) (y4 : Int32) (s0 : Int32) (H : Heap) (locs : List Loc) (ls : Array Slot), f_Checks_allowsArithmetic_b179 M y1 y2 y4 s0 = (some (MZ, RZ)) → (y1 < N 10) → (y4 = 1 ∨ y4 = 0) → (s0 = 1 ∨ s0 = 0) → me_wf N M → me_kp M0 M → va_P D classes (me_W ad ca M) H → va_D A (me_W ad ca M) → va_S A s.heap H locs → lv_has ls 6 [(1, .ref (ad 10 y1)), (2, .int y2), (4, .int y4)] → W p l e rm_Checks_allowsArithmetic s m [.ref (ad 6 j0)].toArray below meth c H locs 0 0 (MQ below (q_Checks_allowsArithmetic D ad ca N M0 MZ RZ A) [.ref (ad 6 j0)].toArray s rm_Checks_allowsArithmetic.cells rm_Checks_allowsArithmetic.slots A) (F0 m 179 ls [.int s0]) := by
    intro M y1 y2 y4 s0 H locs ls h hy1 zy4 zs0 hwf hkp hP hD hS hl
    unfold f_Checks_allowsArithmetic_b179 at h
    have hkb := hkp
    refine lv_istore (lv' := [(5, .int s0), (1, .ref (ad 10 y1)), (2, .int y2), (4, .int y4)]) hx hb d_Checks_allowsArithmetic_179 hl (by decide) rfl (fun ls hl => ?_)
    refine lv_aload_n hx hb d_Checks_allowsArithmetic_181 rfl (lv_at hl 1 rfl) ?_
    refine lv_iload hx hb d_Checks_allowsArithmetic_182 (lv_at hl 3 rfl) ?_
    refine lv_if_eq (tgt := 191) hx hb d_Checks_allowsArithmetic_184 (by decide) (fun c1 => ?_) (fun c1 => ?_)
    · have h := if_t c1 h
      refine lv_iconst (v := 1) hx hb d_Checks_allowsArithmetic_191 (by decide) ?_
      obtain ⟨M2, eM2, h⟩ := st_ob h
      refine p_Cell_0 eM2 hx hb hts hown hK hP hD hwf hS hy1 (hts _ u_421) d_Checks_allowsArithmetic_192 (fun H locs hP hD hwf hS => ?_)
      have hkp := kp_I eM2 hkp
      refine lv_iload hx hb d_Checks_allowsArithmetic_195 (lv_at hl 3 rfl) ?_
      refine lv_if_ne (tgt := 205) hx hb d_Checks_allowsArithmetic_197 (by decide) (fun c3 => ?_) (fun c3 => ?_)
      · have h := if_f c3 h
        refine lv_iconst (v := 1) hx hb d_Checks_allowsArithmetic_205 (by decide) ?_
        refine lv_goto (tgt := 210) hx hb d_Checks_allowsArithmetic_206 (by decide) ?_
        exact me_retz (me_kp M0) h (by decide) hx hb hr hlocks hwf hkp hP hK hD hS d_Checks_allowsArithmetic_210
      have h := if_t c3 h
      refine lv_iload hx hb d_Checks_allowsArithmetic_200 (lv_at hl 0 rfl) ?_
      refine lv_if_eq (tgt := 209) hx hb d_Checks_allowsArithmetic_202 (by decide) (fun c4 => ?_) (fun c4 => ?_)
      · have h := if_t c4 h
        refine lv_iconst (v := 0) hx hb d_Checks_allowsArithmetic_209 (by decide) ?_
        exact me_retz (me_kp M0) h (by decide) hx hb hr hlocks hwf hkp hP hK hD hS d_Checks_allowsArithmetic_210
      have h := if_f c4 h
      refine lv_iconst (v := 1) hx hb d_Checks_allowsArithmetic_205 (by decide) ?_
      refine lv_goto (tgt := 210) hx hb d_Checks_allowsArithmetic_206 (by decide) ?_
      exact me_retz (me_kp M0) h (by decide) hx hb hr hlocks hwf hkp hP hK hD hS d_Checks_allowsArithmetic_210
    have h := if_f c1 h
    refine lv_iload_n hx hb d_Checks_allowsArithmetic_187 rfl (lv_at hl 2 rfl) ?_
    refine lv_goto (tgt := 192) hx hb d_Checks_allowsArithmetic_188 (by decide) ?_
    obtain ⟨M5, eM5, h⟩ := st_ob h
    refine p_Cell_0 eM5 hx hb hts hown hK hP hD hwf hS hy1 (hts _ u_421) d_Checks_allowsArithmetic_192 (fun H locs hP hD hwf hS => ?_)
    have hkp := kp_I eM5 hkp
    refine lv_iload hx hb d_Checks_allowsArithmetic_195 (lv_at hl 3 rfl) ?_
    refine lv_if_ne (tgt := 205) hx hb d_Checks_allowsArithmetic_197 (by decide) (fun c6 => ?_) (fun c6 => ?_)
    · have h := if_f c6 h
      refine lv_iconst (v := 1) hx hb d_Checks_allowsArithmetic_205 (by decide) ?_
      refine lv_goto (tgt := 210) hx hb d_Checks_allowsArithmetic_206 (by decide) ?_
      exact me_retz (me_kp M0) h (by decide) hx hb hr hlocks hwf hkp hP hK hD hS d_Checks_allowsArithmetic_210
    have h := if_t c6 h
    refine lv_iload hx hb d_Checks_allowsArithmetic_200 (lv_at hl 0 rfl) ?_
    refine lv_if_eq (tgt := 209) hx hb d_Checks_allowsArithmetic_202 (by decide) (fun c7 => ?_) (fun c7 => ?_)
    · have h := if_t c7 h
      refine lv_iconst (v := 0) hx hb d_Checks_allowsArithmetic_209 (by decide) ?_
      exact me_retz (me_kp M0) h (by decide) hx hb hr hlocks hwf hkp hP hK hD hS d_Checks_allowsArithmetic_210
    have h := if_f c7 h
    refine lv_iconst (v := 1) hx hb d_Checks_allowsArithmetic_205 (by decide) ?_
    refine lv_goto (tgt := 210) hx hb d_Checks_allowsArithmetic_206 (by decide) ?_
    exact me_retz (me_kp M0) h (by decide) hx hb hr hlocks hwf hkp hP hK hD hS d_Checks_allowsArithmetic_210
  have b_178 : ∀ (M : me_M) (y1 : Nat) (y2 : Int32) (y4 : Int32) (H : Heap) (locs : List Loc) (ls : Array Slot), f_Checks_allowsArithmetic_b178 M y1 y2 y4 = (some (MZ, RZ)) → (y1 < N 10) → (y4 = 1 ∨ y4 = 0) → me_wf N M → me_kp M0 M → va_P D classes (me_W ad ca M) H → va_D A (me_W ad ca M) → va_S A s.heap H locs → lv_has ls 6 [(1, .ref (ad 10 y1)), (2, .int y2), (4, .int y4)] → W p l e rm_Checks_allowsArithmetic s m [.ref (ad 6 j0)].toArray below meth c H locs 0 0 (MQ below (q_Checks_allowsArithmetic D ad ca N M0 MZ RZ A) [.ref (ad 6 j0)].toArray s rm_Checks_allowsArithmetic.cells rm_Checks_allowsArithmetic.slots A) (F0 m 178 ls []) := by
    intro M y1 y2 y4 H locs ls h hy1 zy4 hwf hkp hP hD hS hl
    unfold f_Checks_allowsArithmetic_b178 at h
    have hkb := hkp
    refine lv_iconst (v := 0) hx hb d_Checks_allowsArithmetic_178 (by decide) ?_
    exact b_179 M y1 y2 y4 (0 : Int32) _ _ _ h hy1 zy4 (by decide) hwf hkp hP hD hS (lv_sub hl [0, 1, 2] rfl)
  have b_147 : ∀ (M : me_M) (y1 : Nat) (y2 : Int32) (y3 : Nat) (s0 : Int32) (H : Heap) (locs : List Loc) (ls : Array Slot), f_Checks_allowsArithmetic_b147 j0 M y1 y2 y3 s0 = (some (MZ, RZ)) → (y1 < N 10) → (y3 < N 10) → (s0 = 1 ∨ s0 = 0) → me_wf N M → me_kp M0 M → va_P D classes (me_W ad ca M) H → va_D A (me_W ad ca M) → va_S A s.heap H locs → lv_has ls 6 [(0, .ref (ad 6 j0)), (1, .ref (ad 10 y1)), (2, .int y2), (3, .ref (ad 10 y3))] → W p l e rm_Checks_allowsArithmetic s m [.ref (ad 6 j0)].toArray below meth c H locs 0 0 (MQ below (q_Checks_allowsArithmetic D ad ca N M0 MZ RZ A) [.ref (ad 6 j0)].toArray s rm_Checks_allowsArithmetic.cells rm_Checks_allowsArithmetic.slots A) (F0 m 147 ls [.int s0]) := by
    intro M y1 y2 y3 s0 H locs ls h hy1 hy3 zs0 hwf hkp hP hD hS hl
    unfold f_Checks_allowsArithmetic_b147 at h
    have hkb := hkp
    refine lv_istore (lv' := [(4, .int s0), (0, .ref (ad 6 j0)), (1, .ref (ad 10 y1)), (2, .int y2), (3, .ref (ad 10 y3))]) hx hb d_Checks_allowsArithmetic_147 hl (by decide) rfl (fun ls hl => ?_)
    refine lv_aload_n hx hb d_Checks_allowsArithmetic_149 rfl (lv_at hl 1 rfl) ?_
    refine g_Checks_0 hx hb hts hown hK hP hwf hj0 (hts _ u_610) d_Checks_allowsArithmetic_150 ?_
    obtain ⟨j8, e9, h⟩ := bd_ob h
    have hj8 : j8 < N 2 := (hwf.2.1 6 j0 0 _ e9 (by decide) hj0)
    refine me_opt (j := j8) e9 ?_
    refine g_Code_12 hx hb hts hown hK hP hwf hj8 (hts _ u_263) d_Checks_allowsArithmetic_153 ?_
    refine lv_iconst (v := 1) hx hb d_Checks_allowsArithmetic_156 (by decide) ?_
    refine lv_icmp_ne (tgt := 178) hx hb d_Checks_allowsArithmetic_157 (by decide) (fun c10 => ?_) (fun c10 => ?_)
    · have h := if_f c10 h
      exact b_178 M y1 y2 s0 _ _ _ h hy1 zs0 hwf hkp hP hD hS (lv_sub hl [2, 3, 0] rfl)
    have h := if_t c10 h
    refine lv_aload_n hx hb d_Checks_allowsArithmetic_160 rfl (lv_at hl 2 rfl) ?_
    obtain ⟨M11, r12, eM11, h⟩ := b2_ob h
    refine me_theni0 (M1 := M11) (me_runV (C := "FilterGuard$Cell") (As := []) (rest := []) ⟨hx, hb, hml, hown, hts⟩ (c_Cell_isOfPacket l D ad ca N M M11 r12 y1 eM11 hwf hy1 _) rfl (by show fg_nm y_Cell_isOfPacket 0; decide +kernel) u_1610 u_1263 u_1264 u_188 u_1265 ⟨Nat.le_of_ble_eq_true rfl, Nat.le_of_ble_eq_true rfl⟩ hX hz hK hP hD hwf hS hA hy1 (by decide) rfl rfl rfl hl.1 (Nat.le_of_ble_eq_true rfl) d_Checks_allowsArithmetic_161 ⟨Nat.le_of_ble_eq_true rfl, Nat.le_of_ble_eq_true rfl⟩) hP hD hK hS hA rfl rfl (fun H locs hw hP hD hS => ?_)
    obtain ⟨hwf, hk9, zr12⟩ := hw
    have hkp := hkp.tr hk9
    refine lv_if_eq (tgt := 178) hx hb d_Checks_allowsArithmetic_164 (by decide) (fun c13 => ?_) (fun c13 => ?_)
    · have h := if_t c13 h
      exact b_178 M11 y1 y2 s0 _ _ _ h hy1 zs0 hwf hkp hP hD hS (lv_sub hl [2, 3, 0] rfl)
    have h := if_f c13 h
    refine lv_aload_n hx hb d_Checks_allowsArithmetic_167 rfl (lv_at hl 4 rfl) ?_
    obtain ⟨M14, r15, eM14, h⟩ := b2_ob h
    refine me_theni0 (M1 := M14) (me_runV (C := "FilterGuard$Cell") (As := []) (rest := []) ⟨hx, hb, hml, hown, hts⟩ (c_Cell_isOfPacket l D ad ca N M11 M14 r15 y3 eM14 hwf hy3 _) rfl (by show fg_nm y_Cell_isOfPacket 0; decide +kernel) u_1610 u_1263 u_1264 u_188 u_1265 ⟨Nat.le_of_ble_eq_true rfl, Nat.le_of_ble_eq_true rfl⟩ hX hz hK hP hD hwf hS hA hy3 (by decide) rfl rfl rfl hl.1 (Nat.le_of_ble_eq_true rfl) d_Checks_allowsArithmetic_168 ⟨Nat.le_of_ble_eq_true rfl, Nat.le_of_ble_eq_true rfl⟩) hP hD hK hS hA rfl rfl (fun H locs hw hP hD hS => ?_)
    obtain ⟨hwf, hk9, zr15⟩ := hw
    have hkp := hkp.tr hk9
    refine lv_if_eq (tgt := 178) hx hb d_Checks_allowsArithmetic_171 (by decide) (fun c16 => ?_) (fun c16 => ?_)
    · have h := if_t c16 h
      exact b_178 M14 y1 y2 s0 _ _ _ h hy1 zs0 hwf hkp hP hD hS (lv_sub hl [2, 3, 0] rfl)
    have h := if_f c16 h
    refine lv_iconst (v := 1) hx hb d_Checks_allowsArithmetic_174 (by decide) ?_
    refine lv_goto (tgt := 179) hx hb d_Checks_allowsArithmetic_175 (by decide) ?_
    exact b_179 M14 y1 y2 s0 (1 : Int32) _ _ _ h hy1 zs0 (by decide) hwf hkp hP hD hS (lv_sub hl [2, 3, 0] rfl)
  have b_146 : ∀ (M : me_M) (y1 : Nat) (y2 : Int32) (y3 : Nat) (H : Heap) (locs : List Loc) (ls : Array Slot), f_Checks_allowsArithmetic_b146 j0 M y1 y2 y3 = (some (MZ, RZ)) → (y1 < N 10) → (y3 < N 10) → me_wf N M → me_kp M0 M → va_P D classes (me_W ad ca M) H → va_D A (me_W ad ca M) → va_S A s.heap H locs → lv_has ls 6 [(0, .ref (ad 6 j0)), (1, .ref (ad 10 y1)), (2, .int y2), (3, .ref (ad 10 y3))] → W p l e rm_Checks_allowsArithmetic s m [.ref (ad 6 j0)].toArray below meth c H locs 0 0 (MQ below (q_Checks_allowsArithmetic D ad ca N M0 MZ RZ A) [.ref (ad 6 j0)].toArray s rm_Checks_allowsArithmetic.cells rm_Checks_allowsArithmetic.slots A) (F0 m 146 ls []) := by
    intro M y1 y2 y3 H locs ls h hy1 hy3 hwf hkp hP hD hS hl
    unfold f_Checks_allowsArithmetic_b146 at h
    have hkb := hkp
    refine lv_iconst (v := 0) hx hb d_Checks_allowsArithmetic_146 (by decide) ?_
    exact b_147 M y1 y2 y3 (0 : Int32) _ _ _ h hy1 hy3 (by decide) hwf hkp hP hD hS (lv_sub hl [0, 1, 2, 3] rfl)
  have b_71 : ∀ (M : me_M) (y1 : Nat) (y2 : Int32) (H : Heap) (locs : List Loc) (ls : Array Slot), f_Checks_allowsArithmetic_b71 j0 M y1 y2 = (some (MZ, RZ)) → (y1 < N 10) → me_wf N M → me_kp M0 M → va_P D classes (me_W ad ca M) H → va_D A (me_W ad ca M) → va_S A s.heap H locs → lv_has ls 6 [(0, .ref (ad 6 j0)), (1, .ref (ad 10 y1)), (2, .int y2)] → W p l e rm_Checks_allowsArithmetic s m [.ref (ad 6 j0)].toArray below meth c H locs 0 0 (MQ below (q_Checks_allowsArithmetic D ad ca N M0 MZ RZ A) [.ref (ad 6 j0)].toArray s rm_Checks_allowsArithmetic.cells rm_Checks_allowsArithmetic.slots A) (F0 m 71 ls []) := by
    intro M y1 y2 H locs ls h hy1 hwf hkp hP hD hS hl
    unfold f_Checks_allowsArithmetic_b71 at h
    have hkb := hkp
    refine lv_aload_n hx hb d_Checks_allowsArithmetic_71 rfl (lv_at hl 0 rfl) ?_
    refine g_Checks_0 hx hb hts hown hK hP hwf hj0 (hts _ u_610) d_Checks_allowsArithmetic_72 ?_
    obtain ⟨j17, e18, h⟩ := bd_ob h
    have hj17 : j17 < N 2 := (hwf.2.1 6 j0 0 _ e18 (by decide) hj0)
    refine me_opt (j := j17) e18 ?_
    refine g_Code_13 hx hb hts hown hK hP hwf hj17 (hts _ u_267) d_Checks_allowsArithmetic_75 ?_
    have z19 := (hwf.2.2.2 2 j17 13 rfl)
    refine lv_if_ne (tgt := 92) hx hb d_Checks_allowsArithmetic_78 (by decide) (fun c20 => ?_) (fun c20 => ?_)
    · have h := if_f c20 h
      refine lv_iconst (v := 0) hx hb d_Checks_allowsArithmetic_92 (by decide) ?_
      exact me_retz (me_kp M0) h (by decide) hx hb hr hlocks hwf hkp hP hK hD hS d_Checks_allowsArithmetic_93
    have h := if_t c20 h
    refine lv_aload_n hx hb d_Checks_allowsArithmetic_81 rfl (lv_at hl 0 rfl) ?_
    refine g_Checks_0 hx hb hts hown hK hP hwf hj0 (hts _ u_610) d_Checks_allowsArithmetic_82 ?_
    refine me_opt (j := j17) e18 ?_
    refine g_Code_12 hx hb hts hown hK hP hwf hj17 (hts _ u_263) d_Checks_allowsArithmetic_85 ?_
    refine lv_iconst (v := 1) hx hb d_Checks_allowsArithmetic_88 (by decide) ?_
    refine lv_icmp_le (tgt := 94) hx hb d_Checks_allowsArithmetic_89 (by decide) (fun c21 => ?_) (fun c21 => ?_)
    · have h := if_t c21 h
      refine lv_iload_n hx hb d_Checks_allowsArithmetic_94 rfl (lv_at hl 2 rfl) ?_
      refine lv_iconst (v := 1) hx hb d_Checks_allowsArithmetic_95 (by decide) ?_
      refine lv_icmp_ne (tgt := 104) hx hb d_Checks_allowsArithmetic_96 (by decide) (fun c22 => ?_) (fun c22 => ?_)
      · have h := if_f c22 h
        refine lv_aload_n hx hb d_Checks_allowsArithmetic_104 rfl (lv_at hl 0 rfl) ?_
        refine g_Checks_3 hx hb hts hown hK hP hwf hj0 (hts _ u_613) d_Checks_allowsArithmetic_105 ?_
        obtain ⟨j23, e24, h⟩ := bd_ob h
        have hj23 : j23 < N 18 := (hwf.2.1 6 j0 3 _ e24 (by decide) hj0)
        refine me_opt (j := j23) e24 ?_
        refine lv_aload_n hx hb d_Checks_allowsArithmetic_108 rfl (lv_at hl 0 rfl) ?_
        refine g_Checks_0 hx hb hts hown hK hP hwf hj0 (hts _ u_610) d_Checks_allowsArithmetic_109 ?_
        refine me_opt (j := j17) e18 ?_
        refine g_Code_7 hx hb hts hown hK hP hwf hj17 (hts _ u_240) d_Checks_allowsArithmetic_112 ?_
        obtain ⟨g25, h⟩ := gd_ob h
        refine me_aald (k := 18) (t := 10) hx hb hK hP hwf hj23 (by decide) (by decide) rfl (fun _ => rfl) g25 d_Checks_allowsArithmetic_115 ?_
        obtain ⟨j26, e27, h⟩ := bd_ob h
        have hj26 : j26 < N 10 := (hwf.2.1 18 j23 ((mI M 2 j17 7).toNatClampNeg) _ e27 (by decide) hj23)
        refine me_opt (j := j26) e27 ?_
        refine lv_astore_n (lv' := [(3, .ref (ad 10 j26)), (0, .ref (ad 6 j0)), (1, .ref (ad 10 y1)), (2, .int y2)]) hx hb d_Checks_allowsArithmetic_116 rfl hl (by decide) rfl (fun ls hl => ?_)
        refine lv_aload_n hx hb d_Checks_allowsArithmetic_117 rfl (lv_at hl 1 rfl) ?_
        refine g_Checks_0 hx hb hts hown hK hP hwf hj0 (hts _ u_610) d_Checks_allowsArithmetic_118 ?_
        refine me_opt (j := j17) e18 ?_
        refine g_Code_12 hx hb hts hown hK hP hwf hj17 (hts _ u_263) d_Checks_allowsArithmetic_121 ?_
        refine lv_if_ne (tgt := 146) hx hb d_Checks_allowsArithmetic_124 (by decide) (fun c28 => ?_) (fun c28 => ?_)
        · have h := if_f c28 h
          exact b_146 M y1 y2 j26 _ _ _ h hy1 hj26 hwf hkp hP hD hS (lv_sub hl [1, 2, 3, 0] rfl)
        have h := if_t c28 h
        refine lv_aload_n hx hb d_Checks_allowsArithmetic_127 rfl (lv_at hl 2 rfl) ?_
        refine g_Cell_0 hx hb hts hown hK hP hwf hy1 (hts _ u_421) d_Checks_allowsArithmetic_128 ?_
        refine lv_iconst (v := 1) hx hb d_Checks_allowsArithmetic_131 (by decide) ?_
        refine lv_icmp_ne (tgt := 146) hx hb d_Checks_allowsArithmetic_132 (by decide) (fun c29 => ?_) (fun c29 => ?_)
        · have h := if_f c29 h
          exact b_146 M y1 y2 j26 _ _ _ h hy1 hj26 hwf hkp hP hD hS (lv_sub hl [1, 2, 3, 0] rfl)
        have h := if_t c29 h
        refine lv_aload_n hx hb d_Checks_allowsArithmetic_135 rfl (lv_at hl 0 rfl) ?_
        obtain ⟨M30, r31, eM30, h⟩ := b2_ob h
        refine me_theni0 (M1 := M30) (me_runV (C := "FilterGuard$Cell") (As := []) (rest := []) ⟨hx, hb, hml, hown, hts⟩ (c_Cell_isPointer l D ad ca N M M30 r31 j26 eM30 hwf hj26 _) rfl (by show fg_nm y_Cell_isPointer 0; decide +kernel) u_1609 u_1243 u_1244 u_188 u_1245 ⟨Nat.le_of_ble_eq_true rfl, Nat.le_of_ble_eq_true rfl⟩ hX hz hK hP hD hwf hS hA hj26 (by decide) rfl rfl rfl hl.1 (Nat.le_of_ble_eq_true rfl) d_Checks_allowsArithmetic_136 ⟨Nat.le_of_ble_eq_true rfl, Nat.le_of_ble_eq_true rfl⟩) hP hD hK hS hA rfl rfl (fun H locs hw hP hD hS => ?_)
        obtain ⟨hwf, hk9, zr31⟩ := hw
        have hkp := hkp.tr hk9
        refine lv_if_eq (tgt := 146) hx hb d_Checks_allowsArithmetic_139 (by decide) (fun c32 => ?_) (fun c32 => ?_)
        · have h := if_t c32 h
          exact b_146 M30 y1 y2 j26 _ _ _ h hy1 hj26 hwf hkp hP hD hS (lv_sub hl [1, 2, 3, 0] rfl)
        have h := if_f c32 h
        refine lv_iconst (v := 1) hx hb d_Checks_allowsArithmetic_142 (by decide) ?_
        refine lv_goto (tgt := 147) hx hb d_Checks_allowsArithmetic_143 (by decide) ?_
        exact b_147 M30 y1 y2 j26 (1 : Int32) _ _ _ h hy1 hj26 (by decide) hwf hkp hP hD hS (lv_sub hl [1, 2, 3, 0] rfl)
      have h := if_t c22 h
      refine lv_aload_n hx hb d_Checks_allowsArithmetic_99 rfl (lv_at hl 1 rfl) ?_
      obtain ⟨M33, r34, eM33, h⟩ := b2_ob h
      refine me_theni0 (M1 := M33) (me_runV (C := "FilterGuard$Cell") (As := []) (rest := []) ⟨hx, hb, hml, hown, hts⟩ (c_Cell_isPointer l D ad ca N M M33 r34 y1 eM33 hwf hy1 _) rfl (by show fg_nm y_Cell_isPointer 0; decide +kernel) u_1609 u_1243 u_1244 u_188 u_1245 ⟨Nat.le_of_ble_eq_true rfl, Nat.le_of_ble_eq_true rfl⟩ hX hz hK hP hD hwf hS hA hy1 (by decide) rfl rfl rfl hl.1 (Nat.le_of_ble_eq_true rfl) d_Checks_allowsArithmetic_100 ⟨Nat.le_of_ble_eq_true rfl, Nat.le_of_ble_eq_true rfl⟩) hP hD hK hS hA rfl rfl (fun H locs hw hP hD hS => ?_)
      obtain ⟨hwf, hk9, zr34⟩ := hw
      have hkp := hkp.tr hk9
      exact me_retz (me_kp M0) h zr34 hx hb hr hlocks hwf hkp hP hK hD hS d_Checks_allowsArithmetic_103
    have h := if_f c21 h
    refine lv_iconst (v := 0) hx hb d_Checks_allowsArithmetic_92 (by decide) ?_
    exact me_retz (me_kp M0) h (by decide) hx hb hr hlocks hwf hkp hP hK hD hS d_Checks_allowsArithmetic_93
  refine lv_aload_n hx hb d_Checks_allowsArithmetic_0 rfl (lv_at hl 0 rfl) ?_
  refine g_Checks_3 hx hb hts hown hK hP hwf hj0 (hts _ u_613) d_Checks_allowsArithmetic_1 ?_
  obtain ⟨j35, e36, h⟩ := bd_ob h
  have hj35 : j35 < N 18 := (hwf.2.1 6 j0 3 _ e36 (by decide) hj0)
  refine me_opt (j := j35) e36 ?_
  refine lv_aload_n hx hb d_Checks_allowsArithmetic_4 rfl (lv_at hl 0 rfl) ?_
  refine g_Checks_0 hx hb hts hown hK hP hwf hj0 (hts _ u_610) d_Checks_allowsArithmetic_5 ?_
  obtain ⟨j37, e38, h⟩ := bd_ob h
  have hj37 : j37 < N 2 := (hwf.2.1 6 j0 0 _ e38 (by decide) hj0)
  refine me_opt (j := j37) e38 ?_
  refine g_Code_6 hx hb hts hown hK hP hwf hj37 (hts _ u_234) d_Checks_allowsArithmetic_8 ?_
  obtain ⟨g39, h⟩ := gd_ob h
  refine me_aald (k := 18) (t := 10) hx hb hK hP hwf hj35 (by decide) (by decide) rfl (fun _ => rfl) g39 d_Checks_allowsArithmetic_11 ?_
  obtain ⟨j40, e41, h⟩ := bd_ob h
  have hj40 : j40 < N 10 := (hwf.2.1 18 j35 ((mI M0 2 j37 6).toNatClampNeg) _ e41 (by decide) hj35)
  refine me_opt (j := j40) e41 ?_
  refine lv_astore_n (lv' := [(1, .ref (ad 10 j40)), (0, .ref (ad 6 j0))]) hx hb d_Checks_allowsArithmetic_12 rfl hl (by decide) rfl (fun ls hl => ?_)
  refine lv_aload_n hx hb d_Checks_allowsArithmetic_13 rfl (lv_at hl 1 rfl) ?_
  obtain ⟨M42, r43, eM42, h⟩ := b2_ob h
  refine me_theni0 (M1 := M42) (me_runV (C := "FilterGuard$Checks") (As := []) (rest := []) ⟨hx, hb, hml, hown, hts⟩ (c_Checks_operandKind l D ad ca N M0 M42 r43 j0 eM42 hwf hj0 _) rfl (by show fg_nm y_Checks_operandKind 0; decide +kernel) u_1605 u_1607 u_65 u_191 u_1608 ⟨Nat.le_of_ble_eq_true rfl, Nat.le_of_ble_eq_true rfl⟩ hX hz hK hP hD hwf hS hA hj0 (by decide) rfl rfl rfl hl.1 (Nat.le_of_ble_eq_true rfl) d_Checks_allowsArithmetic_14 ⟨Nat.le_of_ble_eq_true rfl, Nat.le_of_ble_eq_true rfl⟩) hP hD hK hS hA rfl rfl (fun H locs hw hP hD hS => ?_)
  obtain ⟨hwf, hk9⟩ := hw
  have hkp := hkp.tr hk9
  refine lv_istore_n (lv' := [(2, .int r43), (1, .ref (ad 10 j40)), (0, .ref (ad 6 j0))]) hx hb d_Checks_allowsArithmetic_17 rfl hl (by decide) rfl (fun ls hl => ?_)
  refine lv_aload_n hx hb d_Checks_allowsArithmetic_18 rfl (lv_at hl 2 rfl) ?_
  refine g_Checks_0 hx hb hts hown hK hP hwf hj0 (hts _ u_610) d_Checks_allowsArithmetic_19 ?_
  refine me_opt (j := j37) (kp_r hkb hkp e38) ?_
  refine g_Code_12 hx hb hts hown hK hP hwf hj37 (hts _ u_263) d_Checks_allowsArithmetic_22 ?_
  refine lv_bipush (v := 12) hx hb d_Checks_allowsArithmetic_25 (by decide) ?_
  refine lv_icmp_ne (tgt := 56) hx hb d_Checks_allowsArithmetic_27 (by decide) (fun c44 => ?_) (fun c44 => ?_)
  · have h := if_f c44 h
    refine lv_aload_n hx hb d_Checks_allowsArithmetic_56 rfl (lv_at hl 1 rfl) ?_
    refine g_Cell_0 hx hb hts hown hK hP hwf hj40 (hts _ u_421) d_Checks_allowsArithmetic_57 ?_
    refine lv_iconst (v := 1) hx hb d_Checks_allowsArithmetic_60 (by decide) ?_
    refine lv_icmp_ne (tgt := 71) hx hb d_Checks_allowsArithmetic_61 (by decide) (fun c45 => ?_) (fun c45 => ?_)
    · have h := if_f c45 h
      exact b_71 M42 j40 r43 _ _ _ h hj40 hwf hkp hP hD hS (lv_sub hl [2, 1, 0] rfl)
    have h := if_t c45 h
    refine lv_iload_n hx hb d_Checks_allowsArithmetic_64 rfl (lv_at hl 0 rfl) ?_
    refine lv_iconst (v := 1) hx hb d_Checks_allowsArithmetic_65 (by decide) ?_
    refine lv_icmp_ne (tgt := 71) hx hb d_Checks_allowsArithmetic_66 (by decide) (fun c46 => ?_) (fun c46 => ?_)
    · have h := if_f c46 h
      exact b_71 M42 j40 r43 _ _ _ h hj40 hwf hkp hP hD hS (lv_sub hl [2, 1, 0] rfl)
    have h := if_t c46 h
    refine lv_iconst (v := 1) hx hb d_Checks_allowsArithmetic_69 (by decide) ?_
    exact me_retz (me_kp M0) h (by decide) hx hb hr hlocks hwf hkp hP hK hD hS d_Checks_allowsArithmetic_70
  have h := if_t c44 h
  refine lv_aload_n hx hb d_Checks_allowsArithmetic_30 rfl (lv_at hl 1 rfl) ?_
  refine lv_iload_n hx hb d_Checks_allowsArithmetic_31 rfl (lv_at hl 0 rfl) ?_
  obtain ⟨M47, eM47, h⟩ := st_ob h
  refine p_Cell_0 eM47 hx hb hts hown hK hP hD hwf hS hj40 (hts _ u_421) d_Checks_allowsArithmetic_32 (fun H locs hP hD hwf hS => ?_)
  have hkp := kp_I eM47 hkp
  refine lv_iload_n hx hb d_Checks_allowsArithmetic_35 rfl (lv_at hl 0 rfl) ?_
  refine lv_iconst (v := 1) hx hb d_Checks_allowsArithmetic_36 (by decide) ?_
  refine lv_icmp_eq (tgt := 50) hx hb d_Checks_allowsArithmetic_37 (by decide) (fun c48 => ?_) (fun c48 => ?_)
  · have h := if_t c48 h
    refine lv_iconst (v := 1) hx hb d_Checks_allowsArithmetic_50 (by decide) ?_
    refine lv_goto (tgt := 55) hx hb d_Checks_allowsArithmetic_51 (by decide) ?_
    exact me_retz (me_kp M0) h (by decide) hx hb hr hlocks hwf hkp hP hK hD hS d_Checks_allowsArithmetic_55
  have h := if_f c48 h
  refine lv_aload_n hx hb d_Checks_allowsArithmetic_40 rfl (lv_at hl 2 rfl) ?_
  refine g_Checks_0 hx hb hts hown hK hP hwf hj0 (hts _ u_610) d_Checks_allowsArithmetic_41 ?_
  refine me_opt (j := j37) (kp_r hkb hkp e38) ?_
  refine g_Code_13 hx hb hts hown hK hP hwf hj37 (hts _ u_267) d_Checks_allowsArithmetic_44 ?_
  have z49 := (hwf.2.2.2 2 j37 13 rfl)
  refine lv_if_ne (tgt := 54) hx hb d_Checks_allowsArithmetic_47 (by decide) (fun c50 => ?_) (fun c50 => ?_)
  · have h := if_f c50 h
    refine lv_iconst (v := 0) hx hb d_Checks_allowsArithmetic_54 (by decide) ?_
    exact me_retz (me_kp M0) h (by decide) hx hb hr hlocks hwf hkp hP hK hD hS d_Checks_allowsArithmetic_55
  have h := if_t c50 h
  refine lv_iconst (v := 1) hx hb d_Checks_allowsArithmetic_50 (by decide) ?_
  refine lv_goto (tgt := 55) hx hb d_Checks_allowsArithmetic_51 (by decide) ?_
  exact me_retz (me_kp M0) h (by decide) hx hb hr hlocks hwf hkp hP hK hD hS d_Checks_allowsArithmetic_55
theorem d_Checks_allowsRelation_198 : decode prog_3_method_7_code 198 = .ok (.istore 4, 2) := by decide +kernel
theorem d_Checks_allowsRelation_200 : decode prog_3_method_7_code 200 = .ok (.iload 4, 2) := by decide +kernel
theorem d_Checks_allowsRelation_202 : decode prog_3_method_7_code 202 = .ok (.ifCond .eq 27, 3) := by decide +kernel
theorem d_Checks_allowsRelation_229 : decode prog_3_method_7_code 229 = .ok (.iconst 0, 1) := by decide +kernel
theorem d_Checks_allowsRelation_230 : decode prog_3_method_7_code 230 = .ok (.ireturn, 1) := by decide +kernel
theorem d_Checks_allowsRelation_205 : decode prog_3_method_7_code 205 = .ok (.iload_n 2, 1) := by decide +kernel
theorem d_Checks_allowsRelation_206 : decode prog_3_method_7_code 206 = .ok (.iconst 4, 1) := by decide +kernel
theorem d_Checks_allowsRelation_207 : decode prog_3_method_7_code 207 = .ok (.if_icmp .ne 8, 3) := by decide +kernel
theorem d_Checks_allowsRelation_215 : decode prog_3_method_7_code 215 = .ok (.iload_n 2, 1) := by decide +kernel
theorem d_Checks_allowsRelation_216 : decode prog_3_method_7_code 216 = .ok (.iconst 5, 1) := by decide +kernel
theorem d_Checks_allowsRelation_217 : decode prog_3_method_7_code 217 = .ok (.if_icmp .ne 12, 3) := by decide +kernel
theorem d_Checks_allowsRelation_220 : decode prog_3_method_7_code 220 = .ok (.iload_n 3, 1) := by decide +kernel
theorem d_Checks_allowsRelation_221 : decode prog_3_method_7_code 221 = .ok (.iconst 4, 1) := by decide +kernel
theorem d_Checks_allowsRelation_222 : decode prog_3_method_7_code 222 = .ok (.if_icmp .ne 7, 3) := by decide +kernel
theorem d_Checks_allowsRelation_225 : decode prog_3_method_7_code 225 = .ok (.iconst 1, 1) := by decide +kernel
theorem d_Checks_allowsRelation_226 : decode prog_3_method_7_code 226 = .ok (.goto 4, 3) := by decide +kernel
theorem d_Checks_allowsRelation_210 : decode prog_3_method_7_code 210 = .ok (.iload_n 3, 1) := by decide +kernel
theorem d_Checks_allowsRelation_211 : decode prog_3_method_7_code 211 = .ok (.iconst 5, 1) := by decide +kernel
theorem d_Checks_allowsRelation_212 : decode prog_3_method_7_code 212 = .ok (.if_icmp .eq 13, 3) := by decide +kernel
theorem d_Checks_allowsRelation_193 : decode prog_3_method_7_code 193 = .ok (.iconst 1, 1) := by decide +kernel
theorem d_Checks_allowsRelation_194 : decode prog_3_method_7_code 194 = .ok (.goto 4, 3) := by decide +kernel
theorem d_Checks_allowsRelation_116 : decode prog_3_method_7_code 116 = .ok (.iload_n 2, 1) := by decide +kernel
theorem d_Checks_allowsRelation_117 : decode prog_3_method_7_code 117 = .ok (.iconst 1, 1) := by decide +kernel
theorem d_Checks_allowsRelation_118 : decode prog_3_method_7_code 118 = .ok (.if_icmp .ne 27, 3) := by decide +kernel
theorem d_Checks_allowsRelation_145 : decode prog_3_method_7_code 145 = .ok (.iconst 0, 1) := by decide +kernel
theorem d_Checks_allowsRelation_146 : decode prog_3_method_7_code 146 = .ok (.ireturn, 1) := by decide +kernel
theorem d_Checks_allowsRelation_121 : decode prog_3_method_7_code 121 = .ok (.iload_n 3, 1) := by decide +kernel
theorem d_Checks_allowsRelation_122 : decode prog_3_method_7_code 122 = .ok (.bipush 7, 2) := by decide +kernel
theorem d_Checks_allowsRelation_124 : decode prog_3_method_7_code 124 = .ok (.if_icmp .ne 21, 3) := by decide +kernel
theorem d_Checks_allowsRelation_127 : decode prog_3_method_7_code 127 = .ok (.aload_n 1, 1) := by decide +kernel
theorem d_Checks_allowsRelation_128 : decode prog_3_method_7_code 128 = .ok (.aload_n 0, 1) := by decide +kernel
theorem d_Checks_allowsRelation_129 : decode prog_3_method_7_code 129 = .ok (.getfield 23, 3) := by decide +kernel
theorem d_Checks_allowsRelation_132 : decode prog_3_method_7_code 132 = .ok (.getfield 46, 3) := by decide +kernel
theorem d_Checks_allowsRelation_135 : decode prog_3_method_7_code 135 = .ok (.laload, 1) := by decide +kernel
theorem d_Checks_allowsRelation_136 : decode prog_3_method_7_code 136 = .ok (.lconst 0, 1) := by decide +kernel
theorem d_Checks_allowsRelation_137 : decode prog_3_method_7_code 137 = .ok (.lcmp, 1) := by decide +kernel
theorem d_Checks_allowsRelation_138 : decode prog_3_method_7_code 138 = .ok (.ifCond .ne 7, 3) := by decide +kernel
theorem d_Checks_allowsRelation_141 : decode prog_3_method_7_code 141 = .ok (.iconst 1, 1) := by decide +kernel
theorem d_Checks_allowsRelation_142 : decode prog_3_method_7_code 142 = .ok (.goto 4, 3) := by decide +kernel
theorem d_Checks_allowsRelation_96 : decode prog_3_method_7_code 96 = .ok (.lstore 4, 2) := by decide +kernel
theorem d_Checks_allowsRelation_98 : decode prog_3_method_7_code 98 = .ok (.iload_n 2, 1) := by decide +kernel
theorem d_Checks_allowsRelation_99 : decode prog_3_method_7_code 99 = .ok (.bipush 7, 2) := by decide +kernel
theorem d_Checks_allowsRelation_101 : decode prog_3_method_7_code 101 = .ok (.if_icmp .ne 15, 3) := by decide +kernel
theorem d_Checks_allowsRelation_104 : decode prog_3_method_7_code 104 = .ok (.iload_n 3, 1) := by decide +kernel
theorem d_Checks_allowsRelation_105 : decode prog_3_method_7_code 105 = .ok (.iconst 1, 1) := by decide +kernel
theorem d_Checks_allowsRelation_106 : decode prog_3_method_7_code 106 = .ok (.if_icmp .ne 10, 3) := by decide +kernel
theorem d_Checks_allowsRelation_109 : decode prog_3_method_7_code 109 = .ok (.lload 4, 2) := by decide +kernel
theorem d_Checks_allowsRelation_111 : decode prog_3_method_7_code 111 = .ok (.lconst 0, 1) := by decide +kernel
theorem d_Checks_allowsRelation_112 : decode prog_3_method_7_code 112 = .ok (.lcmp, 1) := by decide +kernel
theorem d_Checks_allowsRelation_113 : decode prog_3_method_7_code 113 = .ok (.ifCond .eq 28, 3) := by decide +kernel
theorem d_Checks_allowsRelation_66 : decode prog_3_method_7_code 66 = .ok (.aload_n 0, 1) := by decide +kernel
theorem d_Checks_allowsRelation_67 : decode prog_3_method_7_code 67 = .ok (.getfield 23, 3) := by decide +kernel
theorem d_Checks_allowsRelation_70 : decode prog_3_method_7_code 70 = .ok (.getfield 49, 3) := by decide +kernel
theorem d_Checks_allowsRelation_73 : decode prog_3_method_7_code 73 = .ok (.ifCond .eq 15, 3) := by decide +kernel
theorem d_Checks_allowsRelation_88 : decode prog_3_method_7_code 88 = .ok (.aload_n 0, 1) := by decide +kernel
theorem d_Checks_allowsRelation_89 : decode prog_3_method_7_code 89 = .ok (.getfield 23, 3) := by decide +kernel
theorem d_Checks_allowsRelation_92 : decode prog_3_method_7_code 92 = .ok (.getfield 88, 3) := by decide +kernel
theorem u_250 : Cond.fieldLink "FilterGuard$Checks" 88 "FilterGuard$Code" "field" "I" ∈ fg_g := fg_in (List.mem_of_getElem? (i := 250) (by decide +kernel)) rfl
theorem d_Checks_allowsRelation_95 : decode prog_3_method_7_code 95 = .ok (.i2l, 1) := by decide +kernel
theorem d_Checks_allowsRelation_76 : decode prog_3_method_7_code 76 = .ok (.aload_n 1, 1) := by decide +kernel
theorem d_Checks_allowsRelation_77 : decode prog_3_method_7_code 77 = .ok (.aload_n 0, 1) := by decide +kernel
theorem d_Checks_allowsRelation_78 : decode prog_3_method_7_code 78 = .ok (.getfield 23, 3) := by decide +kernel
theorem d_Checks_allowsRelation_81 : decode prog_3_method_7_code 81 = .ok (.getfield 52, 3) := by decide +kernel
theorem d_Checks_allowsRelation_84 : decode prog_3_method_7_code 84 = .ok (.laload, 1) := by decide +kernel
theorem d_Checks_allowsRelation_85 : decode prog_3_method_7_code 85 = .ok (.goto 11, 3) := by decide +kernel
theorem d_Checks_allowsRelation_33 : decode prog_3_method_7_code 33 = .ok (.aload_n 0, 1) := by decide +kernel
theorem d_Checks_allowsRelation_34 : decode prog_3_method_7_code 34 = .ok (.getfield 23, 3) := by decide +kernel
theorem d_Checks_allowsRelation_37 : decode prog_3_method_7_code 37 = .ok (.getfield 79, 3) := by decide +kernel
theorem d_Checks_allowsRelation_40 : decode prog_3_method_7_code 40 = .ok (.ifCond .eq 5, 3) := by decide +kernel
theorem d_Checks_allowsRelation_45 : decode prog_3_method_7_code 45 = .ok (.aload_n 0, 1) := by decide +kernel
theorem d_Checks_allowsRelation_46 : decode prog_3_method_7_code 46 = .ok (.getfield 23, 3) := by decide +kernel
theorem d_Checks_allowsRelation_49 : decode prog_3_method_7_code 49 = .ok (.getfield 76, 3) := by decide +kernel
theorem d_Checks_allowsRelation_52 : decode prog_3_method_7_code 52 = .ok (.ifCond .eq 14, 3) := by decide +kernel
theorem d_Checks_allowsRelation_55 : decode prog_3_method_7_code 55 = .ok (.aload_n 0, 1) := by decide +kernel
theorem d_Checks_allowsRelation_56 : decode prog_3_method_7_code 56 = .ok (.getfield 23, 3) := by decide +kernel
theorem d_Checks_allowsRelation_59 : decode prog_3_method_7_code 59 = .ok (.getfield 76, 3) := by decide +kernel
theorem d_Checks_allowsRelation_62 : decode prog_3_method_7_code 62 = .ok (.iconst 4, 1) := by decide +kernel
theorem d_Checks_allowsRelation_63 : decode prog_3_method_7_code 63 = .ok (.if_icmp .ne 84, 3) := by decide +kernel
theorem d_Checks_allowsRelation_147 : decode prog_3_method_7_code 147 = .ok (.aload_n 0, 1) := by decide +kernel
theorem d_Checks_allowsRelation_148 : decode prog_3_method_7_code 148 = .ok (.getfield 23, 3) := by decide +kernel
theorem d_Checks_allowsRelation_151 : decode prog_3_method_7_code 151 = .ok (.getfield 76, 3) := by decide +kernel
theorem d_Checks_allowsRelation_154 : decode prog_3_method_7_code 154 = .ok (.iconst 1, 1) := by decide +kernel
theorem d_Checks_allowsRelation_155 : decode prog_3_method_7_code 155 = .ok (.if_icmp .eq 38, 3) := by decide +kernel
theorem d_Checks_allowsRelation_158 : decode prog_3_method_7_code 158 = .ok (.aload_n 0, 1) := by decide +kernel
theorem d_Checks_allowsRelation_159 : decode prog_3_method_7_code 159 = .ok (.getfield 23, 3) := by decide +kernel
theorem d_Checks_allowsRelation_162 : decode prog_3_method_7_code 162 = .ok (.getfield 76, 3) := by decide +kernel
theorem d_Checks_allowsRelation_165 : decode prog_3_method_7_code 165 = .ok (.iconst 2, 1) := by decide +kernel
theorem d_Checks_allowsRelation_166 : decode prog_3_method_7_code 166 = .ok (.if_icmp .eq 27, 3) := by decide +kernel
theorem d_Checks_allowsRelation_169 : decode prog_3_method_7_code 169 = .ok (.aload_n 0, 1) := by decide +kernel
theorem d_Checks_allowsRelation_170 : decode prog_3_method_7_code 170 = .ok (.getfield 23, 3) := by decide +kernel
theorem d_Checks_allowsRelation_173 : decode prog_3_method_7_code 173 = .ok (.getfield 76, 3) := by decide +kernel
theorem d_Checks_allowsRelation_176 : decode prog_3_method_7_code 176 = .ok (.bipush 7, 2) := by decide +kernel
theorem d_Checks_allowsRelation_178 : decode prog_3_method_7_code 178 = .ok (.if_icmp .eq 15, 3) := by decide +kernel
theorem d_Checks_allowsRelation_181 : decode prog_3_method_7_code 181 = .ok (.aload_n 0, 1) := by decide +kernel
theorem d_Checks_allowsRelation_182 : decode prog_3_method_7_code 182 = .ok (.getfield 23, 3) := by decide +kernel
theorem d_Checks_allowsRelation_185 : decode prog_3_method_7_code 185 = .ok (.getfield 76, 3) := by decide +kernel
theorem d_Checks_allowsRelation_188 : decode prog_3_method_7_code 188 = .ok (.bipush 8, 2) := by decide +kernel
theorem d_Checks_allowsRelation_190 : decode prog_3_method_7_code 190 = .ok (.if_icmp .ne 7, 3) := by decide +kernel
theorem d_Checks_allowsRelation_197 : decode prog_3_method_7_code 197 = .ok (.iconst 0, 1) := by decide +kernel
theorem d_Checks_allowsRelation_43 : decode prog_3_method_7_code 43 = .ok (.iconst 0, 1) := by decide +kernel
theorem d_Checks_allowsRelation_44 : decode prog_3_method_7_code 44 = .ok (.ireturn, 1) := by decide +kernel
theorem d_Checks_allowsRelation_0 : decode prog_3_method_7_code 0 = .ok (.aload_n 0, 1) := by decide +kernel
theorem d_Checks_allowsRelation_1 : decode prog_3_method_7_code 1 = .ok (.getfield 22, 3) := by decide +kernel
theorem d_Checks_allowsRelation_4 : decode prog_3_method_7_code 4 = .ok (.aload_n 0, 1) := by decide +kernel
theorem d_Checks_allowsRelation_5 : decode prog_3_method_7_code 5 = .ok (.getfield 23, 3) := by decide +kernel
theorem d_Checks_allowsRelation_8 : decode prog_3_method_7_code 8 = .ok (.getfield 46, 3) := by decide +kernel
theorem d_Checks_allowsRelation_11 : decode prog_3_method_7_code 11 = .ok (.aaload, 1) := by decide +kernel
theorem d_Checks_allowsRelation_12 : decode prog_3_method_7_code 12 = .ok (.getfield 34, 3) := by decide +kernel
theorem d_Checks_allowsRelation_15 : decode prog_3_method_7_code 15 = .ok (.istore_n 2, 1) := by decide +kernel
theorem d_Checks_allowsRelation_16 : decode prog_3_method_7_code 16 = .ok (.aload_n 0, 1) := by decide +kernel
theorem d_Checks_allowsRelation_17 : decode prog_3_method_7_code 17 = .ok (.invokevirtual 72, 3) := by decide +kernel
theorem d_Checks_allowsRelation_20 : decode prog_3_method_7_code 20 = .ok (.istore_n 3, 1) := by decide +kernel
theorem d_Checks_allowsRelation_21 : decode prog_3_method_7_code 21 = .ok (.iload_n 2, 1) := by decide +kernel
theorem d_Checks_allowsRelation_22 : decode prog_3_method_7_code 22 = .ok (.iconst 1, 1) := by decide +kernel
theorem d_Checks_allowsRelation_23 : decode prog_3_method_7_code 23 = .ok (.if_icmp .ne 10, 3) := by decide +kernel
theorem d_Checks_allowsRelation_26 : decode prog_3_method_7_code 26 = .ok (.iload_n 3, 1) := by decide +kernel
theorem d_Checks_allowsRelation_27 : decode prog_3_method_7_code 27 = .ok (.iconst 1, 1) := by decide +kernel
theorem d_Checks_allowsRelation_28 : decode prog_3_method_7_code 28 = .ok (.if_icmp .ne 5, 3) := by decide +kernel
theorem d_Checks_allowsRelation_31 : decode prog_3_method_7_code 31 = .ok (.iconst 1, 1) := by decide +kernel
theorem d_Checks_allowsRelation_32 : decode prog_3_method_7_code 32 = .ok (.ireturn, 1) := by decide +kernel
abbrev y_Checks_allowsRelation : MethodName := ⟨"FilterGuard$Checks", "allowsRelation", "([J)Z"⟩
def f_Checks_allowsRelation_b198 (M : me_M) (y2 : Int32) (y3 : Int32) (s0 : Int32) : Option (me_M × Int32) := (if s0 = 0 then some (M, (0 : Int32)) else (if y2 = 4 then (if y3 = 5 then some (M, (1 : Int32)) else (if y2 = 5 then (if y3 = 4 then some (M, (1 : Int32)) else some (M, (0 : Int32))) else some (M, (0 : Int32)))) else (if y2 = 5 then (if y3 = 4 then some (M, (1 : Int32)) else some (M, (0 : Int32))) else some (M, (0 : Int32)))))
def f_Checks_allowsRelation_b193 (M : me_M) (y2 : Int32) (y3 : Int32) : Option (me_M × Int32) := f_Checks_allowsRelation_b198 M y2 y3 (1 : Int32)
def f_Checks_allowsRelation_b116 (j0 : Nat) (j1 : Nat) (M : me_M) (y2 : Int32) (y3 : Int32) : Option (me_M × Int32) := (if y2 = 1 then (if y3 = 7 then bd (mR M 6 j0 0) (fun (j10 : Nat) => gd (¬ ((mI M 2 j10 6) < 0 ∨ mZ M 16 j1 ≤ (mI M 2 j10 6).toNatClampNeg)) ((if (mL M 16 j1 (mI M 2 j10 6).toNatClampNeg) = 0 then some (M, (1 : Int32)) else some (M, (0 : Int32))))) else some (M, (0 : Int32))) else some (M, (0 : Int32)))
def f_Checks_allowsRelation_b96 (j0 : Nat) (j1 : Nat) (M : me_M) (y2 : Int32) (y3 : Int32) (s0 : Int64) : Option (me_M × Int32) := (if y2 = 7 then (if y3 = 1 then (if s0 = 0 then some (M, (1 : Int32)) else f_Checks_allowsRelation_b116 j0 j1 M y2 y3) else f_Checks_allowsRelation_b116 j0 j1 M y2 y3) else f_Checks_allowsRelation_b116 j0 j1 M y2 y3)
def f_Checks_allowsRelation_b66 (j0 : Nat) (j1 : Nat) (M : me_M) (y2 : Int32) (y3 : Int32) : Option (me_M × Int32) := bd (mR M 6 j0 0) (fun (j17 : Nat) => (if (mI M 2 j17 15) = 0 then f_Checks_allowsRelation_b96 j0 j1 M y2 y3 ((mI M 2 j17 9).toInt64) else gd (¬ ((mI M 2 j17 7) < 0 ∨ mZ M 16 j1 ≤ (mI M 2 j17 7).toNatClampNeg)) (f_Checks_allowsRelation_b96 j0 j1 M y2 y3 (mL M 16 j1 (mI M 2 j17 7).toNatClampNeg))))
def f_Checks_allowsRelation_b33 (j0 : Nat) (j1 : Nat) (M : me_M) (y2 : Int32) (y3 : Int32) : Option (me_M × Int32) := bd (mR M 6 j0 0) (fun (j22 : Nat) => (if (mI M 2 j22 13) = 0 then (if (mI M 2 j22 12) = 0 then f_Checks_allowsRelation_b66 j0 j1 M y2 y3 else (if (mI M 2 j22 12) = 4 then f_Checks_allowsRelation_b66 j0 j1 M y2 y3 else (if (mI M 2 j22 12) = 1 then f_Checks_allowsRelation_b193 M y2 y3 else (if (mI M 2 j22 12) = 2 then f_Checks_allowsRelation_b193 M y2 y3 else (if (mI M 2 j22 12) = 7 then f_Checks_allowsRelation_b193 M y2 y3 else (if (mI M 2 j22 12) = 8 then f_Checks_allowsRelation_b193 M y2 y3 else f_Checks_allowsRelation_b198 M y2 y3 (0 : Int32))))))) else some (M, (0 : Int32))))
def f_Checks_allowsRelation (M0 : me_M) (j0 : Nat) (j1 : Nat) : Option (me_M × Int32) := bd (mR M0 6 j0 3) (fun (j32 : Nat) => bd (mR M0 6 j0 0) (fun (j34 : Nat) => gd (¬ ((mI M0 2 j34 6) < 0 ∨ mZ M0 18 j32 ≤ (mI M0 2 j34 6).toNatClampNeg)) (bd (mR M0 18 j32 ((mI M0 2 j34 6).toNatClampNeg)) (fun (j37 : Nat) => st (mI M0 10 j37 0) (fun (v39 : Int32) => b2 (f_Checks_operandKind M0 j0) (fun (M40 : me_M) (r41 : Int32) => (if v39 = 1 then (if r41 = 1 then some (M40, (1 : Int32)) else f_Checks_allowsRelation_b33 j0 j1 M40 v39 r41) else f_Checks_allowsRelation_b33 j0 j1 M40 v39 r41)))))))
def rm_Checks_allowsRelation : Room := { frames := 2, cells := 0, slots := 0, locals := 40 }
abbrev q_Checks_allowsRelation (D : va_G) (ad : Nat → Nat → Nat) (ca : Nat → ClassId) (N : Nat → Nat) (M0 MZ : me_M) (RZ : Int32) (A : Nat → Prop) : Array Value → Jvm.State → Outcome → Jvm.State → Prop := va_Qi (fun r (_ : Unit) => r = RZ ∧ me_wf N MZ ∧ me_kp M0 MZ ∧ (RZ = 1 ∨ RZ = 0)) (fg_B D A (fun _ => me_W ad ca MZ) (fun _ => [])) A
set_option maxHeartbeats 4000000 in
set_option maxRecDepth 100000 in
theorem c_Checks_allowsRelation (l : Launch) (D : va_G) (ad : Nat → Nat → Nat) (ca : Nat → ClassId) (N : Nat → Nat) (M0 MZ : me_M) (RZ : Int32) (j0 : Nat) (j1 : Nat) (h : f_Checks_allowsRelation M0 j0 j1 = (some (MZ, RZ))) (hwf : me_wf N M0) (hj0 : j0 < N 6) (hj1 : j1 < N 16) (sz : Nat) : Met l y_Checks_allowsRelation (fg_w y_Checks_allowsRelation prog_3_method_7_code 6 (some .boolean)) rm_Checks_allowsRelation (va_Pc [.ref (ad 6 j0), .ref (ad 16 j1)] (fz_P D (me_T ca) (me_W ad ca M0) sz)) (q_Checks_allowsRelation D ad ca N M0 MZ RZ (va_A (me_W ad ca M0) sz)) rm_Checks_allowsRelation.cells rm_Checks_allowsRelation.slots (va_A (me_W ad ca M0) sz) := by
  refine fz_enter (fun A => q_Checks_allowsRelation D ad ca N M0 MZ RZ A) (by decide +kernel) (Nat.le_of_ble_eq_true rfl) ?_
  intro p e s m below meth c ls A hx hb hml hown hts hr hlocks hin hP hK hD hS hA hX hl hz
  have hl : lv_has ls 6 [(0, .ref (ad 6 j0)), (1, .ref (ad 16 j1))] := hl
  unfold f_Checks_allowsRelation at h
  have hkp : me_kp M0 M0 := me_kp.rf
  have hkb := hkp
  have b_198 : ∀ (M : me_M) (y2 : Int32) (y3 : Int32) (s0 : Int32) (H : Heap) (locs : List Loc) (ls : Array Slot), f_Checks_allowsRelation_b198 M y2 y3 s0 = (some (MZ, RZ)) → (s0 = 1 ∨ s0 = 0) → me_wf N M → me_kp M0 M → va_P D classes (me_W ad ca M) H → va_D A (me_W ad ca M) → va_S A s.heap H locs → lv_has ls 6 [(2, .int y2), (3, .int y3)] → W p l e rm_Checks_allowsRelation s m [.ref (ad 6 j0), .ref (ad 16 j1)].toArray below meth c H locs 0 0 (MQ below (q_Checks_allowsRelation D ad ca N M0 MZ RZ A) [.ref (ad 6 j0), .ref (ad 16 j1)].toArray s rm_Checks_allowsRelation.cells rm_Checks_allowsRelation.slots A) (F0 m 198 ls [.int s0]) := by
    intro M y2 y3 s0 H locs ls h zs0 hwf hkp hP hD hS hl
    unfold f_Checks_allowsRelation_b198 at h
    have hkb := hkp
    refine lv_istore (lv' := [(4, .int s0), (2, .int y2), (3, .int y3)]) hx hb d_Checks_allowsRelation_198 hl (by decide) rfl (fun ls hl => ?_)
    refine lv_iload hx hb d_Checks_allowsRelation_200 (lv_at hl 0 rfl) ?_
    refine lv_if_eq (tgt := 229) hx hb d_Checks_allowsRelation_202 (by decide) (fun c1 => ?_) (fun c1 => ?_)
    · have h := if_t c1 h
      refine lv_iconst (v := 0) hx hb d_Checks_allowsRelation_229 (by decide) ?_
      exact me_retz (me_kp M0) h (by decide) hx hb hr hlocks hwf hkp hP hK hD hS d_Checks_allowsRelation_230
    have h := if_f c1 h
    refine lv_iload_n hx hb d_Checks_allowsRelation_205 rfl (lv_at hl 1 rfl) ?_
    refine lv_iconst (v := 4) hx hb d_Checks_allowsRelation_206 (by decide) ?_
    refine lv_icmp_ne (tgt := 215) hx hb d_Checks_allowsRelation_207 (by decide) (fun c2 => ?_) (fun c2 => ?_)
    · have h := if_f c2 h
      refine lv_iload_n hx hb d_Checks_allowsRelation_215 rfl (lv_at hl 1 rfl) ?_
      refine lv_iconst (v := 5) hx hb d_Checks_allowsRelation_216 (by decide) ?_
      refine lv_icmp_ne (tgt := 229) hx hb d_Checks_allowsRelation_217 (by decide) (fun c3 => ?_) (fun c3 => ?_)
      · have h := if_f c3 h
        refine lv_iconst (v := 0) hx hb d_Checks_allowsRelation_229 (by decide) ?_
        exact me_retz (me_kp M0) h (by decide) hx hb hr hlocks hwf hkp hP hK hD hS d_Checks_allowsRelation_230
      have h := if_t c3 h
      refine lv_iload_n hx hb d_Checks_allowsRelation_220 rfl (lv_at hl 2 rfl) ?_
      refine lv_iconst (v := 4) hx hb d_Checks_allowsRelation_221 (by decide) ?_
      refine lv_icmp_ne (tgt := 229) hx hb d_Checks_allowsRelation_222 (by decide) (fun c4 => ?_) (fun c4 => ?_)
      · have h := if_f c4 h
        refine lv_iconst (v := 0) hx hb d_Checks_allowsRelation_229 (by decide) ?_
        exact me_retz (me_kp M0) h (by decide) hx hb hr hlocks hwf hkp hP hK hD hS d_Checks_allowsRelation_230
      have h := if_t c4 h
      refine lv_iconst (v := 1) hx hb d_Checks_allowsRelation_225 (by decide) ?_
      refine lv_goto (tgt := 230) hx hb d_Checks_allowsRelation_226 (by decide) ?_
      exact me_retz (me_kp M0) h (by decide) hx hb hr hlocks hwf hkp hP hK hD hS d_Checks_allowsRelation_230
    have h := if_t c2 h
    refine lv_iload_n hx hb d_Checks_allowsRelation_210 rfl (lv_at hl 2 rfl) ?_
    refine lv_iconst (v := 5) hx hb d_Checks_allowsRelation_211 (by decide) ?_
    refine lv_icmp_eq (tgt := 225) hx hb d_Checks_allowsRelation_212 (by decide) (fun c5 => ?_) (fun c5 => ?_)
    · have h := if_t c5 h
      refine lv_iconst (v := 1) hx hb d_Checks_allowsRelation_225 (by decide) ?_
      refine lv_goto (tgt := 230) hx hb d_Checks_allowsRelation_226 (by decide) ?_
      exact me_retz (me_kp M0) h (by decide) hx hb hr hlocks hwf hkp hP hK hD hS d_Checks_allowsRelation_230
    have h := if_f c5 h
    refine lv_iload_n hx hb d_Checks_allowsRelation_215 rfl (lv_at hl 1 rfl) ?_
    refine lv_iconst (v := 5) hx hb d_Checks_allowsRelation_216 (by decide) ?_
    refine lv_icmp_ne (tgt := 229) hx hb d_Checks_allowsRelation_217 (by decide) (fun c6 => ?_) (fun c6 => ?_)
    · have h := if_f c6 h
      refine lv_iconst (v := 0) hx hb d_Checks_allowsRelation_229 (by decide) ?_
      exact me_retz (me_kp M0) h (by decide) hx hb hr hlocks hwf hkp hP hK hD hS d_Checks_allowsRelation_230
    have h := if_t c6 h
    refine lv_iload_n hx hb d_Checks_allowsRelation_220 rfl (lv_at hl 2 rfl) ?_
    refine lv_iconst (v := 4) hx hb d_Checks_allowsRelation_221 (by decide) ?_
    refine lv_icmp_ne (tgt := 229) hx hb d_Checks_allowsRelation_222 (by decide) (fun c7 => ?_) (fun c7 => ?_)
    · have h := if_f c7 h
      refine lv_iconst (v := 0) hx hb d_Checks_allowsRelation_229 (by decide) ?_
      exact me_retz (me_kp M0) h (by decide) hx hb hr hlocks hwf hkp hP hK hD hS d_Checks_allowsRelation_230
    have h := if_t c7 h
    refine lv_iconst (v := 1) hx hb d_Checks_allowsRelation_225 (by decide) ?_
    refine lv_goto (tgt := 230) hx hb d_Checks_allowsRelation_226 (by decide) ?_
    exact me_retz (me_kp M0) h (by decide) hx hb hr hlocks hwf hkp hP hK hD hS d_Checks_allowsRelation_230
  have b_193 : ∀ (M : me_M) (y2 : Int32) (y3 : Int32) (H : Heap) (locs : List Loc) (ls : Array Slot), f_Checks_allowsRelation_b193 M y2 y3 = (some (MZ, RZ)) → me_wf N M → me_kp M0 M → va_P D classes (me_W ad ca M) H → va_D A (me_W ad ca M) → va_S A s.heap H locs → lv_has ls 6 [(2, .int y2), (3, .int y3)] → W p l e rm_Checks_allowsRelation s m [.ref (ad 6 j0), .ref (ad 16 j1)].toArray below meth c H locs 0 0 (MQ below (q_Checks_allowsRelation D ad ca N M0 MZ RZ A) [.ref (ad 6 j0), .ref (ad 16 j1)].toArray s rm_Checks_allowsRelation.cells rm_Checks_allowsRelation.slots A) (F0 m 193 ls []) := by
    intro M y2 y3 H locs ls h hwf hkp hP hD hS hl
    unfold f_Checks_allowsRelation_b193 at h
    have hkb := hkp
    refine lv_iconst (v := 1) hx hb d_Checks_allowsRelation_193 (by decide) ?_
    refine lv_goto (tgt := 198) hx hb d_Checks_allowsRelation_194 (by decide) ?_
    exact b_198 M y2 y3 (1 : Int32) _ _ _ h (by decide) hwf hkp hP hD hS (lv_sub hl [0, 1] rfl)
  have b_116 : ∀ (M : me_M) (y2 : Int32) (y3 : Int32) (H : Heap) (locs : List Loc) (ls : Array Slot), f_Checks_allowsRelation_b116 j0 j1 M y2 y3 = (some (MZ, RZ)) → me_wf N M → me_kp M0 M → va_P D classes (me_W ad ca M) H → va_D A (me_W ad ca M) → va_S A s.heap H locs → lv_has ls 6 [(0, .ref (ad 6 j0)), (1, .ref (ad 16 j1)), (2, .int y2), (3, .int y3)] → W p l e rm_Checks_allowsRelation s m [.ref (ad 6 j0), .ref (ad 16 j1)].toArray below meth c H locs 0 0 (MQ below (q_Checks_allowsRelation D ad ca N M0 MZ RZ A) [.ref (ad 6 j0), .ref (ad 16 j1)].toArray s rm_Checks_allowsRelation.cells rm_Checks_allowsRelation.slots A) (F0 m 116 ls []) := by
    intro M y2 y3 H locs ls h hwf hkp hP hD hS hl
    unfold f_Checks_allowsRelation_b116 at h
    have hkb := hkp
    refine lv_iload_n hx hb d_Checks_allowsRelation_116 rfl (lv_at hl 2 rfl) ?_
    refine lv_iconst (v := 1) hx hb d_Checks_allowsRelation_117 (by decide) ?_
    refine lv_icmp_ne (tgt := 145) hx hb d_Checks_allowsRelation_118 (by decide) (fun c8 => ?_) (fun c8 => ?_)
    · have h := if_f c8 h
      refine lv_iconst (v := 0) hx hb d_Checks_allowsRelation_145 (by decide) ?_
      exact me_retz (me_kp M0) h (by decide) hx hb hr hlocks hwf hkp hP hK hD hS d_Checks_allowsRelation_146
    have h := if_t c8 h
    refine lv_iload_n hx hb d_Checks_allowsRelation_121 rfl (lv_at hl 3 rfl) ?_
    refine lv_bipush (v := 7) hx hb d_Checks_allowsRelation_122 (by decide) ?_
    refine lv_icmp_ne (tgt := 145) hx hb d_Checks_allowsRelation_124 (by decide) (fun c9 => ?_) (fun c9 => ?_)
    · have h := if_f c9 h
      refine lv_iconst (v := 0) hx hb d_Checks_allowsRelation_145 (by decide) ?_
      exact me_retz (me_kp M0) h (by decide) hx hb hr hlocks hwf hkp hP hK hD hS d_Checks_allowsRelation_146
    have h := if_t c9 h
    refine lv_aload_n hx hb d_Checks_allowsRelation_127 rfl (lv_at hl 1 rfl) ?_
    refine lv_aload_n hx hb d_Checks_allowsRelation_128 rfl (lv_at hl 0 rfl) ?_
    refine g_Checks_0 hx hb hts hown hK hP hwf hj0 (hts _ u_610) d_Checks_allowsRelation_129 ?_
    obtain ⟨j10, e11, h⟩ := bd_ob h
    have hj10 : j10 < N 2 := (hwf.2.1 6 j0 0 _ e11 (by decide) hj0)
    refine me_opt (j := j10) e11 ?_
    refine g_Code_6 hx hb hts hown hK hP hwf hj10 (hts _ u_234) d_Checks_allowsRelation_132 ?_
    obtain ⟨g12, h⟩ := gd_ob h
    refine me_lald hx hb hK hP hwf hj1 g12 d_Checks_allowsRelation_135 ?_
    refine lv_lconst (v := 0) hx hb d_Checks_allowsRelation_136 (by decide) ?_
    refine W.lcmp hx hb d_Checks_allowsRelation_137 ?_
    refine lv_if_ne (tgt := 145) hx hb d_Checks_allowsRelation_138 (by decide) (fun c13 => ?_) (fun c13 => ?_)
    · have h := if_f (fun z => c13 ((lg_cmp_eq _ _).mpr z)) h
      refine lv_iconst (v := 0) hx hb d_Checks_allowsRelation_145 (by decide) ?_
      exact me_retz (me_kp M0) h (by decide) hx hb hr hlocks hwf hkp hP hK hD hS d_Checks_allowsRelation_146
    have h := if_t ((lg_cmp_eq _ _).mp c13) h
    refine lv_iconst (v := 1) hx hb d_Checks_allowsRelation_141 (by decide) ?_
    refine lv_goto (tgt := 146) hx hb d_Checks_allowsRelation_142 (by decide) ?_
    exact me_retz (me_kp M0) h (by decide) hx hb hr hlocks hwf hkp hP hK hD hS d_Checks_allowsRelation_146
  have b_96 : ∀ (M : me_M) (y2 : Int32) (y3 : Int32) (s0 : Int64) (H : Heap) (locs : List Loc) (ls : Array Slot), f_Checks_allowsRelation_b96 j0 j1 M y2 y3 s0 = (some (MZ, RZ)) → me_wf N M → me_kp M0 M → va_P D classes (me_W ad ca M) H → va_D A (me_W ad ca M) → va_S A s.heap H locs → lv_has ls 6 [(0, .ref (ad 6 j0)), (1, .ref (ad 16 j1)), (2, .int y2), (3, .int y3)] → W p l e rm_Checks_allowsRelation s m [.ref (ad 6 j0), .ref (ad 16 j1)].toArray below meth c H locs 0 0 (MQ below (q_Checks_allowsRelation D ad ca N M0 MZ RZ A) [.ref (ad 6 j0), .ref (ad 16 j1)].toArray s rm_Checks_allowsRelation.cells rm_Checks_allowsRelation.slots A) (F0 m 96 ls [.long s0]) := by
    intro M y2 y3 s0 H locs ls h hwf hkp hP hD hS hl
    unfold f_Checks_allowsRelation_b96 at h
    have hkb := hkp
    refine lv_lstore (lv' := [(4, .long s0), (0, .ref (ad 6 j0)), (1, .ref (ad 16 j1)), (2, .int y2), (3, .int y3)]) hx hb d_Checks_allowsRelation_96 hl (by decide) rfl (fun ls hl => ?_)
    refine lv_iload_n hx hb d_Checks_allowsRelation_98 rfl (lv_at hl 3 rfl) ?_
    refine lv_bipush (v := 7) hx hb d_Checks_allowsRelation_99 (by decide) ?_
    refine lv_icmp_ne (tgt := 116) hx hb d_Checks_allowsRelation_101 (by decide) (fun c14 => ?_) (fun c14 => ?_)
    · have h := if_f c14 h
      exact b_116 M y2 y3 _ _ _ h hwf hkp hP hD hS (lv_sub hl [1, 2, 3, 4] rfl)
    have h := if_t c14 h
    refine lv_iload_n hx hb d_Checks_allowsRelation_104 rfl (lv_at hl 4 rfl) ?_
    refine lv_iconst (v := 1) hx hb d_Checks_allowsRelation_105 (by decide) ?_
    refine lv_icmp_ne (tgt := 116) hx hb d_Checks_allowsRelation_106 (by decide) (fun c15 => ?_) (fun c15 => ?_)
    · have h := if_f c15 h
      exact b_116 M y2 y3 _ _ _ h hwf hkp hP hD hS (lv_sub hl [1, 2, 3, 4] rfl)
    have h := if_t c15 h
    refine lv_lload hx hb d_Checks_allowsRelation_109 (lv_at hl 0 rfl) ?_
    refine lv_lconst (v := 0) hx hb d_Checks_allowsRelation_111 (by decide) ?_
    refine W.lcmp hx hb d_Checks_allowsRelation_112 ?_
    refine lv_if_eq (tgt := 141) hx hb d_Checks_allowsRelation_113 (by decide) (fun c16 => ?_) (fun c16 => ?_)
    · have h := if_t ((lg_cmp_eq _ _).mp c16) h
      refine lv_iconst (v := 1) hx hb d_Checks_allowsRelation_141 (by decide) ?_
      refine lv_goto (tgt := 146) hx hb d_Checks_allowsRelation_142 (by decide) ?_
      exact me_retz (me_kp M0) h (by decide) hx hb hr hlocks hwf hkp hP hK hD hS d_Checks_allowsRelation_146
    have h := if_f (fun z => c16 ((lg_cmp_eq _ _).mpr z)) h
    exact b_116 M y2 y3 _ _ _ h hwf hkp hP hD hS (lv_sub hl [1, 2, 3, 4] rfl)
  have b_66 : ∀ (M : me_M) (y2 : Int32) (y3 : Int32) (H : Heap) (locs : List Loc) (ls : Array Slot), f_Checks_allowsRelation_b66 j0 j1 M y2 y3 = (some (MZ, RZ)) → me_wf N M → me_kp M0 M → va_P D classes (me_W ad ca M) H → va_D A (me_W ad ca M) → va_S A s.heap H locs → lv_has ls 6 [(0, .ref (ad 6 j0)), (1, .ref (ad 16 j1)), (2, .int y2), (3, .int y3)] → W p l e rm_Checks_allowsRelation s m [.ref (ad 6 j0), .ref (ad 16 j1)].toArray below meth c H locs 0 0 (MQ below (q_Checks_allowsRelation D ad ca N M0 MZ RZ A) [.ref (ad 6 j0), .ref (ad 16 j1)].toArray s rm_Checks_allowsRelation.cells rm_Checks_allowsRelation.slots A) (F0 m 66 ls []) := by
    intro M y2 y3 H locs ls h hwf hkp hP hD hS hl
    unfold f_Checks_allowsRelation_b66 at h
    have hkb := hkp
    refine lv_aload_n hx hb d_Checks_allowsRelation_66 rfl (lv_at hl 0 rfl) ?_
    refine g_Checks_0 hx hb hts hown hK hP hwf hj0 (hts _ u_610) d_Checks_allowsRelation_67 ?_
    obtain ⟨j17, e18, h⟩ := bd_ob h
    have hj17 : j17 < N 2 := (hwf.2.1 6 j0 0 _ e18 (by decide) hj0)
    refine me_opt (j := j17) e18 ?_
    refine g_Code_15 hx hb hts hown hK hP hwf hj17 (hts _ u_274) d_Checks_allowsRelation_70 ?_
    have z19 := (hwf.2.2.2 2 j17 15 rfl)
    refine lv_if_eq (tgt := 88) hx hb d_Checks_allowsRelation_73 (by decide) (fun c20 => ?_) (fun c20 => ?_)
    · have h := if_t c20 h
      refine lv_aload_n hx hb d_Checks_allowsRelation_88 rfl (lv_at hl 0 rfl) ?_
      refine g_Checks_0 hx hb hts hown hK hP hwf hj0 (hts _ u_610) d_Checks_allowsRelation_89 ?_
      refine me_opt (j := j17) e18 ?_
      refine g_Code_9 hx hb hts hown hK hP hwf hj17 (hts _ u_250) d_Checks_allowsRelation_92 ?_
      refine lv_i2l (v := (mI M 2 j17 9).toInt64) hx hb d_Checks_allowsRelation_95 rfl ?_
      exact b_96 M y2 y3 ((mI M 2 j17 9).toInt64) _ _ _ h hwf hkp hP hD hS (lv_sub hl [0, 1, 2, 3] rfl)
    have h := if_f c20 h
    refine lv_aload_n hx hb d_Checks_allowsRelation_76 rfl (lv_at hl 1 rfl) ?_
    refine lv_aload_n hx hb d_Checks_allowsRelation_77 rfl (lv_at hl 0 rfl) ?_
    refine g_Checks_0 hx hb hts hown hK hP hwf hj0 (hts _ u_610) d_Checks_allowsRelation_78 ?_
    refine me_opt (j := j17) e18 ?_
    refine g_Code_7 hx hb hts hown hK hP hwf hj17 (hts _ u_240) d_Checks_allowsRelation_81 ?_
    obtain ⟨g21, h⟩ := gd_ob h
    refine me_lald hx hb hK hP hwf hj1 g21 d_Checks_allowsRelation_84 ?_
    refine lv_goto (tgt := 96) hx hb d_Checks_allowsRelation_85 (by decide) ?_
    exact b_96 M y2 y3 (mL M 16 j1 (mI M 2 j17 7).toNatClampNeg) _ _ _ h hwf hkp hP hD hS (lv_sub hl [0, 1, 2, 3] rfl)
  have b_33 : ∀ (M : me_M) (y2 : Int32) (y3 : Int32) (H : Heap) (locs : List Loc) (ls : Array Slot), f_Checks_allowsRelation_b33 j0 j1 M y2 y3 = (some (MZ, RZ)) → me_wf N M → me_kp M0 M → va_P D classes (me_W ad ca M) H → va_D A (me_W ad ca M) → va_S A s.heap H locs → lv_has ls 6 [(0, .ref (ad 6 j0)), (1, .ref (ad 16 j1)), (2, .int y2), (3, .int y3)] → W p l e rm_Checks_allowsRelation s m [.ref (ad 6 j0), .ref (ad 16 j1)].toArray below meth c H locs 0 0 (MQ below (q_Checks_allowsRelation D ad ca N M0 MZ RZ A) [.ref (ad 6 j0), .ref (ad 16 j1)].toArray s rm_Checks_allowsRelation.cells rm_Checks_allowsRelation.slots A) (F0 m 33 ls []) := by
    intro M y2 y3 H locs ls h hwf hkp hP hD hS hl
    unfold f_Checks_allowsRelation_b33 at h
    have hkb := hkp
    refine lv_aload_n hx hb d_Checks_allowsRelation_33 rfl (lv_at hl 0 rfl) ?_
    refine g_Checks_0 hx hb hts hown hK hP hwf hj0 (hts _ u_610) d_Checks_allowsRelation_34 ?_
    obtain ⟨j22, e23, h⟩ := bd_ob h
    have hj22 : j22 < N 2 := (hwf.2.1 6 j0 0 _ e23 (by decide) hj0)
    refine me_opt (j := j22) e23 ?_
    refine g_Code_13 hx hb hts hown hK hP hwf hj22 (hts _ u_267) d_Checks_allowsRelation_37 ?_
    have z24 := (hwf.2.2.2 2 j22 13 rfl)
    refine lv_if_eq (tgt := 45) hx hb d_Checks_allowsRelation_40 (by decide) (fun c25 => ?_) (fun c25 => ?_)
    · have h := if_t c25 h
      refine lv_aload_n hx hb d_Checks_allowsRelation_45 rfl (lv_at hl 0 rfl) ?_
      refine g_Checks_0 hx hb hts hown hK hP hwf hj0 (hts _ u_610) d_Checks_allowsRelation_46 ?_
      refine me_opt (j := j22) e23 ?_
      refine g_Code_12 hx hb hts hown hK hP hwf hj22 (hts _ u_263) d_Checks_allowsRelation_49 ?_
      refine lv_if_eq (tgt := 66) hx hb d_Checks_allowsRelation_52 (by decide) (fun c26 => ?_) (fun c26 => ?_)
      · have h := if_t c26 h
        exact b_66 M y2 y3 _ _ _ h hwf hkp hP hD hS (lv_sub hl [0, 1, 2, 3] rfl)
      have h := if_f c26 h
      refine lv_aload_n hx hb d_Checks_allowsRelation_55 rfl (lv_at hl 0 rfl) ?_
      refine g_Checks_0 hx hb hts hown hK hP hwf hj0 (hts _ u_610) d_Checks_allowsRelation_56 ?_
      refine me_opt (j := j22) e23 ?_
      refine g_Code_12 hx hb hts hown hK hP hwf hj22 (hts _ u_263) d_Checks_allowsRelation_59 ?_
      refine lv_iconst (v := 4) hx hb d_Checks_allowsRelation_62 (by decide) ?_
      refine lv_icmp_ne (tgt := 147) hx hb d_Checks_allowsRelation_63 (by decide) (fun c27 => ?_) (fun c27 => ?_)
      · have h := if_f c27 h
        refine lv_aload_n hx hb d_Checks_allowsRelation_147 rfl (lv_at hl 0 rfl) ?_
        refine g_Checks_0 hx hb hts hown hK hP hwf hj0 (hts _ u_610) d_Checks_allowsRelation_148 ?_
        refine me_opt (j := j22) e23 ?_
        refine g_Code_12 hx hb hts hown hK hP hwf hj22 (hts _ u_263) d_Checks_allowsRelation_151 ?_
        refine lv_iconst (v := 1) hx hb d_Checks_allowsRelation_154 (by decide) ?_
        refine lv_icmp_eq (tgt := 193) hx hb d_Checks_allowsRelation_155 (by decide) (fun c28 => ?_) (fun c28 => ?_)
        · have h := if_t c28 h
          exact b_193 M y2 y3 _ _ _ h hwf hkp hP hD hS (lv_sub hl [2, 3] rfl)
        have h := if_f c28 h
        refine lv_aload_n hx hb d_Checks_allowsRelation_158 rfl (lv_at hl 0 rfl) ?_
        refine g_Checks_0 hx hb hts hown hK hP hwf hj0 (hts _ u_610) d_Checks_allowsRelation_159 ?_
        refine me_opt (j := j22) e23 ?_
        refine g_Code_12 hx hb hts hown hK hP hwf hj22 (hts _ u_263) d_Checks_allowsRelation_162 ?_
        refine lv_iconst (v := 2) hx hb d_Checks_allowsRelation_165 (by decide) ?_
        refine lv_icmp_eq (tgt := 193) hx hb d_Checks_allowsRelation_166 (by decide) (fun c29 => ?_) (fun c29 => ?_)
        · have h := if_t c29 h
          exact b_193 M y2 y3 _ _ _ h hwf hkp hP hD hS (lv_sub hl [2, 3] rfl)
        have h := if_f c29 h
        refine lv_aload_n hx hb d_Checks_allowsRelation_169 rfl (lv_at hl 0 rfl) ?_
        refine g_Checks_0 hx hb hts hown hK hP hwf hj0 (hts _ u_610) d_Checks_allowsRelation_170 ?_
        refine me_opt (j := j22) e23 ?_
        refine g_Code_12 hx hb hts hown hK hP hwf hj22 (hts _ u_263) d_Checks_allowsRelation_173 ?_
        refine lv_bipush (v := 7) hx hb d_Checks_allowsRelation_176 (by decide) ?_
        refine lv_icmp_eq (tgt := 193) hx hb d_Checks_allowsRelation_178 (by decide) (fun c30 => ?_) (fun c30 => ?_)
        · have h := if_t c30 h
          exact b_193 M y2 y3 _ _ _ h hwf hkp hP hD hS (lv_sub hl [2, 3] rfl)
        have h := if_f c30 h
        refine lv_aload_n hx hb d_Checks_allowsRelation_181 rfl (lv_at hl 0 rfl) ?_
        refine g_Checks_0 hx hb hts hown hK hP hwf hj0 (hts _ u_610) d_Checks_allowsRelation_182 ?_
        refine me_opt (j := j22) e23 ?_
        refine g_Code_12 hx hb hts hown hK hP hwf hj22 (hts _ u_263) d_Checks_allowsRelation_185 ?_
        refine lv_bipush (v := 8) hx hb d_Checks_allowsRelation_188 (by decide) ?_
        refine lv_icmp_ne (tgt := 197) hx hb d_Checks_allowsRelation_190 (by decide) (fun c31 => ?_) (fun c31 => ?_)
        · have h := if_f c31 h
          refine lv_iconst (v := 0) hx hb d_Checks_allowsRelation_197 (by decide) ?_
          exact b_198 M y2 y3 (0 : Int32) _ _ _ h (by decide) hwf hkp hP hD hS (lv_sub hl [2, 3] rfl)
        have h := if_t c31 h
        exact b_193 M y2 y3 _ _ _ h hwf hkp hP hD hS (lv_sub hl [2, 3] rfl)
      have h := if_t c27 h
      exact b_66 M y2 y3 _ _ _ h hwf hkp hP hD hS (lv_sub hl [0, 1, 2, 3] rfl)
    have h := if_f c25 h
    refine lv_iconst (v := 0) hx hb d_Checks_allowsRelation_43 (by decide) ?_
    exact me_retz (me_kp M0) h (by decide) hx hb hr hlocks hwf hkp hP hK hD hS d_Checks_allowsRelation_44
  refine lv_aload_n hx hb d_Checks_allowsRelation_0 rfl (lv_at hl 0 rfl) ?_
  refine g_Checks_3 hx hb hts hown hK hP hwf hj0 (hts _ u_613) d_Checks_allowsRelation_1 ?_
  obtain ⟨j32, e33, h⟩ := bd_ob h
  have hj32 : j32 < N 18 := (hwf.2.1 6 j0 3 _ e33 (by decide) hj0)
  refine me_opt (j := j32) e33 ?_
  refine lv_aload_n hx hb d_Checks_allowsRelation_4 rfl (lv_at hl 0 rfl) ?_
  refine g_Checks_0 hx hb hts hown hK hP hwf hj0 (hts _ u_610) d_Checks_allowsRelation_5 ?_
  obtain ⟨j34, e35, h⟩ := bd_ob h
  have hj34 : j34 < N 2 := (hwf.2.1 6 j0 0 _ e35 (by decide) hj0)
  refine me_opt (j := j34) e35 ?_
  refine g_Code_6 hx hb hts hown hK hP hwf hj34 (hts _ u_234) d_Checks_allowsRelation_8 ?_
  obtain ⟨g36, h⟩ := gd_ob h
  refine me_aald (k := 18) (t := 10) hx hb hK hP hwf hj32 (by decide) (by decide) rfl (fun _ => rfl) g36 d_Checks_allowsRelation_11 ?_
  obtain ⟨j37, e38, h⟩ := bd_ob h
  have hj37 : j37 < N 10 := (hwf.2.1 18 j32 ((mI M0 2 j34 6).toNatClampNeg) _ e38 (by decide) hj32)
  refine me_opt (j := j37) e38 ?_
  refine g_Cell_0 hx hb hts hown hK hP hwf hj37 (hts _ u_421) d_Checks_allowsRelation_12 ?_
  obtain ⟨v39, ev39, h⟩ := st_ob h
  refine fg_topi (y := v39) ev39.symm ?_
  refine lv_istore_n (lv' := [(2, .int v39), (0, .ref (ad 6 j0)), (1, .ref (ad 16 j1))]) hx hb d_Checks_allowsRelation_15 rfl hl (by decide) rfl (fun ls hl => ?_)
  refine lv_aload_n hx hb d_Checks_allowsRelation_16 rfl (lv_at hl 1 rfl) ?_
  obtain ⟨M40, r41, eM40, h⟩ := b2_ob h
  refine me_theni0 (M1 := M40) (me_runV (C := "FilterGuard$Checks") (As := []) (rest := []) ⟨hx, hb, hml, hown, hts⟩ (c_Checks_operandKind l D ad ca N M0 M40 r41 j0 eM40 hwf hj0 _) rfl (by show fg_nm y_Checks_operandKind 0; decide +kernel) u_1605 u_1607 u_65 u_191 u_1608 ⟨Nat.le_of_ble_eq_true rfl, Nat.le_of_ble_eq_true rfl⟩ hX hz hK hP hD hwf hS hA hj0 (by decide) rfl rfl rfl hl.1 (Nat.le_of_ble_eq_true rfl) d_Checks_allowsRelation_17 ⟨Nat.le_of_ble_eq_true rfl, Nat.le_of_ble_eq_true rfl⟩) hP hD hK hS hA rfl rfl (fun H locs hw hP hD hS => ?_)
  obtain ⟨hwf, hk9⟩ := hw
  have hkp := hkp.tr hk9
  refine lv_istore_n (lv' := [(3, .int r41), (2, .int v39), (0, .ref (ad 6 j0)), (1, .ref (ad 16 j1))]) hx hb d_Checks_allowsRelation_20 rfl hl (by decide) rfl (fun ls hl => ?_)
  refine lv_iload_n hx hb d_Checks_allowsRelation_21 rfl (lv_at hl 1 rfl) ?_
  refine lv_iconst (v := 1) hx hb d_Checks_allowsRelation_22 (by decide) ?_
  refine lv_icmp_ne (tgt := 33) hx hb d_Checks_allowsRelation_23 (by decide) (fun c42 => ?_) (fun c42 => ?_)
  · have h := if_f c42 h
    exact b_33 M40 v39 r41 _ _ _ h hwf hkp hP hD hS (lv_sub hl [2, 3, 1, 0] rfl)
  have h := if_t c42 h
  refine lv_iload_n hx hb d_Checks_allowsRelation_26 rfl (lv_at hl 0 rfl) ?_
  refine lv_iconst (v := 1) hx hb d_Checks_allowsRelation_27 (by decide) ?_
  refine lv_icmp_ne (tgt := 33) hx hb d_Checks_allowsRelation_28 (by decide) (fun c43 => ?_) (fun c43 => ?_)
  · have h := if_f c43 h
    exact b_33 M40 v39 r41 _ _ _ h hwf hkp hP hD hS (lv_sub hl [2, 3, 1, 0] rfl)
  have h := if_t c43 h
  refine lv_iconst (v := 1) hx hb d_Checks_allowsRelation_31 (by decide) ?_
  exact me_retz (me_kp M0) h (by decide) hx hb hr hlocks hwf hkp hP hK hD hS d_Checks_allowsRelation_32
