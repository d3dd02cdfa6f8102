theorem d_M_orders_130 : decode prog_14_method_33_code 130 = .ok (.lastore, 1) := by decide +kernel
theorem d_M_orders_131 : decode prog_14_method_33_code 131 = .ok (.aload_n 0, 1) := by decide +kernel
theorem d_M_orders_132 : decode prog_14_method_33_code 132 = .ok (.getfield 119, 3) := by decide +kernel
theorem d_M_orders_135 : decode prog_14_method_33_code 135 = .ok (.iload_n 2, 1) := by decide +kernel
theorem d_M_orders_136 : decode prog_14_method_33_code 136 = .ok (.aload_n 0, 1) := by decide +kernel
theorem d_M_orders_137 : decode prog_14_method_33_code 137 = .ok (.getfield 119, 3) := by decide +kernel
theorem d_M_orders_140 : decode prog_14_method_33_code 140 = .ok (.iload_n 2, 1) := by decide +kernel
theorem d_M_orders_141 : decode prog_14_method_33_code 141 = .ok (.laload, 1) := by decide +kernel
theorem d_M_orders_142 : decode prog_14_method_33_code 142 = .ok (.lload 9, 2) := by decide +kernel
theorem d_M_orders_144 : decode prog_14_method_33_code 144 = .ok (.lcmp, 1) := by decide +kernel
theorem d_M_orders_145 : decode prog_14_method_33_code 145 = .ok (.ifCond .ge 12, 3) := by decide +kernel
theorem d_M_orders_157 : decode prog_14_method_33_code 157 = .ok (.lload 9, 2) := by decide +kernel
theorem d_M_orders_159 : decode prog_14_method_33_code 159 = .ok (.lastore, 1) := by decide +kernel
theorem d_M_orders_160 : decode prog_14_method_33_code 160 = .ok (.goto 59, 3) := by decide +kernel
theorem d_M_orders_219 : decode prog_14_method_33_code 219 = .ok (.iconst 1, 1) := by decide +kernel
theorem d_M_orders_220 : decode prog_14_method_33_code 220 = .ok (.ireturn, 1) := by decide +kernel
theorem d_M_orders_148 : decode prog_14_method_33_code 148 = .ok (.aload_n 0, 1) := by decide +kernel
theorem d_M_orders_149 : decode prog_14_method_33_code 149 = .ok (.getfield 119, 3) := by decide +kernel
theorem d_M_orders_152 : decode prog_14_method_33_code 152 = .ok (.iload_n 2, 1) := by decide +kernel
theorem d_M_orders_153 : decode prog_14_method_33_code 153 = .ok (.laload, 1) := by decide +kernel
theorem d_M_orders_154 : decode prog_14_method_33_code 154 = .ok (.goto 5, 3) := by decide +kernel
theorem d_M_orders_73 : decode prog_14_method_33_code 73 = .ok (.lstore 5, 2) := by decide +kernel
theorem d_M_orders_75 : decode prog_14_method_33_code 75 = .ok (.iload 4, 2) := by decide +kernel
theorem d_M_orders_77 : decode prog_14_method_33_code 77 = .ok (.ifCond .eq 86, 3) := by decide +kernel
theorem d_M_orders_163 : decode prog_14_method_33_code 163 = .ok (.aload_n 0, 1) := by decide +kernel
theorem d_M_orders_164 : decode prog_14_method_33_code 164 = .ok (.getfield 110, 3) := by decide +kernel
theorem d_M_orders_167 : decode prog_14_method_33_code 167 = .ok (.iload_n 2, 1) := by decide +kernel
theorem d_M_orders_168 : decode prog_14_method_33_code 168 = .ok (.laload, 1) := by decide +kernel
theorem d_M_orders_169 : decode prog_14_method_33_code 169 = .ok (.lload 5, 2) := by decide +kernel
theorem d_M_orders_171 : decode prog_14_method_33_code 171 = .ok (.ladd, 1) := by decide +kernel
theorem d_M_orders_172 : decode prog_14_method_33_code 172 = .ok (.lstore 7, 2) := by decide +kernel
theorem d_M_orders_174 : decode prog_14_method_33_code 174 = .ok (.aload_n 0, 1) := by decide +kernel
theorem d_M_orders_175 : decode prog_14_method_33_code 175 = .ok (.getfield 113, 3) := by decide +kernel
theorem d_M_orders_178 : decode prog_14_method_33_code 178 = .ok (.iload_n 1, 1) := by decide +kernel
theorem d_M_orders_179 : decode prog_14_method_33_code 179 = .ok (.laload, 1) := by decide +kernel
theorem d_M_orders_180 : decode prog_14_method_33_code 180 = .ok (.lload 5, 2) := by decide +kernel
theorem d_M_orders_182 : decode prog_14_method_33_code 182 = .ok (.lsub, 1) := by decide +kernel
theorem d_M_orders_183 : decode prog_14_method_33_code 183 = .ok (.lstore 9, 2) := by decide +kernel
theorem d_M_orders_185 : decode prog_14_method_33_code 185 = .ok (.aload_n 0, 1) := by decide +kernel
theorem d_M_orders_186 : decode prog_14_method_33_code 186 = .ok (.getfield 110, 3) := by decide +kernel
theorem d_M_orders_189 : decode prog_14_method_33_code 189 = .ok (.iload_n 1, 1) := by decide +kernel
theorem d_M_orders_190 : decode prog_14_method_33_code 190 = .ok (.aload_n 0, 1) := by decide +kernel
theorem d_M_orders_191 : decode prog_14_method_33_code 191 = .ok (.getfield 110, 3) := by decide +kernel
theorem d_M_orders_194 : decode prog_14_method_33_code 194 = .ok (.iload_n 1, 1) := by decide +kernel
theorem d_M_orders_195 : decode prog_14_method_33_code 195 = .ok (.laload, 1) := by decide +kernel
theorem d_M_orders_196 : decode prog_14_method_33_code 196 = .ok (.lload 7, 2) := by decide +kernel
theorem d_M_orders_198 : decode prog_14_method_33_code 198 = .ok (.invokestatic 166, 3) := by decide +kernel
theorem d_M_orders_201 : decode prog_14_method_33_code 201 = .ok (.lastore, 1) := by decide +kernel
theorem d_M_orders_202 : decode prog_14_method_33_code 202 = .ok (.aload_n 0, 1) := by decide +kernel
theorem d_M_orders_203 : decode prog_14_method_33_code 203 = .ok (.getfield 113, 3) := by decide +kernel
theorem d_M_orders_206 : decode prog_14_method_33_code 206 = .ok (.iload_n 2, 1) := by decide +kernel
theorem d_M_orders_207 : decode prog_14_method_33_code 207 = .ok (.aload_n 0, 1) := by decide +kernel
theorem d_M_orders_208 : decode prog_14_method_33_code 208 = .ok (.getfield 113, 3) := by decide +kernel
theorem d_M_orders_211 : decode prog_14_method_33_code 211 = .ok (.iload_n 2, 1) := by decide +kernel
theorem d_M_orders_212 : decode prog_14_method_33_code 212 = .ok (.laload, 1) := by decide +kernel
theorem d_M_orders_213 : decode prog_14_method_33_code 213 = .ok (.lload 9, 2) := by decide +kernel
theorem d_M_orders_215 : decode prog_14_method_33_code 215 = .ok (.invokestatic 170, 3) := by decide +kernel
theorem d_M_orders_218 : decode prog_14_method_33_code 218 = .ok (.lastore, 1) := by decide +kernel
theorem d_M_orders_80 : decode prog_14_method_33_code 80 = .ok (.aload_n 0, 1) := by decide +kernel
theorem d_M_orders_81 : decode prog_14_method_33_code 81 = .ok (.getfield 116, 3) := by decide +kernel
theorem d_M_orders_84 : decode prog_14_method_33_code 84 = .ok (.iload_n 2, 1) := by decide +kernel
theorem d_M_orders_85 : decode prog_14_method_33_code 85 = .ok (.laload, 1) := by decide +kernel
theorem d_M_orders_86 : decode prog_14_method_33_code 86 = .ok (.lload 5, 2) := by decide +kernel
theorem d_M_orders_88 : decode prog_14_method_33_code 88 = .ok (.ladd, 1) := by decide +kernel
theorem d_M_orders_89 : decode prog_14_method_33_code 89 = .ok (.lstore 7, 2) := by decide +kernel
theorem d_M_orders_91 : decode prog_14_method_33_code 91 = .ok (.aload_n 0, 1) := by decide +kernel
theorem d_M_orders_92 : decode prog_14_method_33_code 92 = .ok (.getfield 119, 3) := by decide +kernel
theorem d_M_orders_95 : decode prog_14_method_33_code 95 = .ok (.iload_n 1, 1) := by decide +kernel
theorem d_M_orders_96 : decode prog_14_method_33_code 96 = .ok (.laload, 1) := by decide +kernel
theorem d_M_orders_97 : decode prog_14_method_33_code 97 = .ok (.lload 5, 2) := by decide +kernel
theorem d_M_orders_99 : decode prog_14_method_33_code 99 = .ok (.lsub, 1) := by decide +kernel
theorem d_M_orders_100 : decode prog_14_method_33_code 100 = .ok (.lstore 9, 2) := by decide +kernel
theorem d_M_orders_102 : decode prog_14_method_33_code 102 = .ok (.aload_n 0, 1) := by decide +kernel
theorem d_M_orders_103 : decode prog_14_method_33_code 103 = .ok (.getfield 116, 3) := by decide +kernel
theorem d_M_orders_106 : decode prog_14_method_33_code 106 = .ok (.iload_n 1, 1) := by decide +kernel
theorem d_M_orders_107 : decode prog_14_method_33_code 107 = .ok (.aload_n 0, 1) := by decide +kernel
theorem d_M_orders_108 : decode prog_14_method_33_code 108 = .ok (.getfield 116, 3) := by decide +kernel
theorem d_M_orders_111 : decode prog_14_method_33_code 111 = .ok (.iload_n 1, 1) := by decide +kernel
theorem d_M_orders_112 : decode prog_14_method_33_code 112 = .ok (.laload, 1) := by decide +kernel
theorem d_M_orders_113 : decode prog_14_method_33_code 113 = .ok (.lload 7, 2) := by decide +kernel
theorem d_M_orders_115 : decode prog_14_method_33_code 115 = .ok (.lcmp, 1) := by decide +kernel
theorem d_M_orders_116 : decode prog_14_method_33_code 116 = .ok (.ifCond .le 12, 3) := by decide +kernel
theorem d_M_orders_128 : decode prog_14_method_33_code 128 = .ok (.lload 7, 2) := by decide +kernel
theorem d_M_orders_119 : decode prog_14_method_33_code 119 = .ok (.aload_n 0, 1) := by decide +kernel
theorem d_M_orders_120 : decode prog_14_method_33_code 120 = .ok (.getfield 116, 3) := by decide +kernel
theorem d_M_orders_123 : decode prog_14_method_33_code 123 = .ok (.iload_n 1, 1) := by decide +kernel
theorem d_M_orders_124 : decode prog_14_method_33_code 124 = .ok (.laload, 1) := by decide +kernel
theorem d_M_orders_125 : decode prog_14_method_33_code 125 = .ok (.goto 5, 3) := by decide +kernel
theorem d_M_orders_64 : decode prog_14_method_33_code 64 = .ok (.iload_n 3, 1) := by decide +kernel
theorem d_M_orders_65 : decode prog_14_method_33_code 65 = .ok (.ifCond .eq 7, 3) := by decide +kernel
theorem d_M_orders_72 : decode prog_14_method_33_code 72 = .ok (.lconst 0, 1) := by decide +kernel
theorem d_M_orders_68 : decode prog_14_method_33_code 68 = .ok (.lconst 1, 1) := by decide +kernel
theorem d_M_orders_69 : decode prog_14_method_33_code 69 = .ok (.goto 4, 3) := by decide +kernel
theorem d_M_orders_0 : decode prog_14_method_33_code 0 = .ok (.iload_n 3, 1) := by decide +kernel
theorem d_M_orders_1 : decode prog_14_method_33_code 1 = .ok (.ifCond .eq 63, 3) := by decide +kernel
theorem d_M_orders_4 : decode prog_14_method_33_code 4 = .ok (.iload 4, 2) := by decide +kernel
theorem d_M_orders_6 : decode prog_14_method_33_code 6 = .ok (.ifCond .eq 32, 3) := by decide +kernel
theorem d_M_orders_38 : decode prog_14_method_33_code 38 = .ok (.aload_n 0, 1) := by decide +kernel
theorem d_M_orders_39 : decode prog_14_method_33_code 39 = .ok (.getfield 110, 3) := by decide +kernel
theorem d_M_orders_42 : decode prog_14_method_33_code 42 = .ok (.iload_n 2, 1) := by decide +kernel
theorem d_M_orders_43 : decode prog_14_method_33_code 43 = .ok (.laload, 1) := by decide +kernel
theorem d_M_orders_44 : decode prog_14_method_33_code 44 = .ok (.ldc2_w 162, 3) := by decide +kernel
theorem d_M_orders_47 : decode prog_14_method_33_code 47 = .ok (.lcmp, 1) := by decide +kernel
theorem d_M_orders_48 : decode prog_14_method_33_code 48 = .ok (.ifCond .eq 14, 3) := by decide +kernel
theorem d_M_orders_62 : decode prog_14_method_33_code 62 = .ok (.iconst 0, 1) := by decide +kernel
theorem d_M_orders_63 : decode prog_14_method_33_code 63 = .ok (.ireturn, 1) := by decide +kernel
theorem d_M_orders_51 : decode prog_14_method_33_code 51 = .ok (.aload_n 0, 1) := by decide +kernel
theorem d_M_orders_52 : decode prog_14_method_33_code 52 = .ok (.getfield 113, 3) := by decide +kernel
theorem d_M_orders_55 : decode prog_14_method_33_code 55 = .ok (.iload_n 1, 1) := by decide +kernel
theorem d_M_orders_56 : decode prog_14_method_33_code 56 = .ok (.laload, 1) := by decide +kernel
theorem d_M_orders_57 : decode prog_14_method_33_code 57 = .ok (.lconst 0, 1) := by decide +kernel
theorem d_M_orders_58 : decode prog_14_method_33_code 58 = .ok (.lcmp, 1) := by decide +kernel
theorem d_M_orders_59 : decode prog_14_method_33_code 59 = .ok (.ifCond .ne 5, 3) := by decide +kernel
theorem d_M_orders_9 : decode prog_14_method_33_code 9 = .ok (.aload_n 0, 1) := by decide +kernel
theorem d_M_orders_10 : decode prog_14_method_33_code 10 = .ok (.getfield 116, 3) := by decide +kernel
theorem d_M_orders_13 : decode prog_14_method_33_code 13 = .ok (.iload_n 2, 1) := by decide +kernel
theorem d_M_orders_14 : decode prog_14_method_33_code 14 = .ok (.laload, 1) := by decide +kernel
theorem d_M_orders_15 : decode prog_14_method_33_code 15 = .ok (.ldc2_w 164, 3) := by decide +kernel
theorem d_M_orders_18 : decode prog_14_method_33_code 18 = .ok (.lcmp, 1) := by decide +kernel
theorem d_M_orders_19 : decode prog_14_method_33_code 19 = .ok (.ifCond .eq 43, 3) := by decide +kernel
theorem d_M_orders_22 : decode prog_14_method_33_code 22 = .ok (.aload_n 0, 1) := by decide +kernel
theorem d_M_orders_23 : decode prog_14_method_33_code 23 = .ok (.getfield 119, 3) := by decide +kernel
theorem d_M_orders_26 : decode prog_14_method_33_code 26 = .ok (.iload_n 1, 1) := by decide +kernel
theorem d_M_orders_27 : decode prog_14_method_33_code 27 = .ok (.laload, 1) := by decide +kernel
theorem d_M_orders_28 : decode prog_14_method_33_code 28 = .ok (.ldc2_w 156, 3) := by decide +kernel
theorem d_M_orders_31 : decode prog_14_method_33_code 31 = .ok (.lcmp, 1) := by decide +kernel
theorem d_M_orders_32 : decode prog_14_method_33_code 32 = .ok (.ifCond .ne 32, 3) := by decide +kernel
theorem d_M_orders_35 : decode prog_14_method_33_code 35 = .ok (.goto 27, 3) := by decide +kernel
abbrev y_M_orders : MethodName := ⟨"FilterGuardModel", "orders", "(IIZZ)Z"⟩
def f_M_orders_b130 (j0 : Nat) (x2 : Int32) (M : me_M) (y9 : Int64) (s0 : Int64) (s1 : Int32) (s2 : Nat) : Option (me_M × Int32) := gd (¬ (s1 < 0 ∨ mZ M 16 s2 ≤ s1.toNatClampNeg)) (st (wL M 16 s2 s1.toNatClampNeg s0) (fun (M2 : me_M) => bd (mR M 1 j0 57) (fun (j3 : Nat) => gd (¬ (x2 < 0 ∨ mZ M 16 j3 ≤ x2.toNatClampNeg)) ((if (mL M2 16 j3 x2.toNatClampNeg) < y9 then st (wL M2 16 j3 x2.toNatClampNeg (mL M2 16 j3 x2.toNatClampNeg)) (fun (M9 : me_M) => some (M9, (1 : Int32))) else st (wL M2 16 j3 x2.toNatClampNeg y9) (fun (M7 : me_M) => some (M7, (1 : Int32))))))))
def f_M_orders_b73 (j0 : Nat) (x1 : Int32) (x2 : Int32) (x4 : Int32) (M : me_M) (s0 : Int64) : Option (me_M × Int32) := (if x4 = 0 then bd (mR M 1 j0 54) (fun (j12 : Nat) => gd (¬ (x2 < 0 ∨ mZ M 16 j12 ≤ x2.toNatClampNeg)) (st ((mL M 16 j12 x2.toNatClampNeg) + s0) (fun (v15 : Int64) => bd (mR M 1 j0 55) (fun (j16 : Nat) => gd (¬ (x1 < 0 ∨ mZ M 16 j16 ≤ x1.toNatClampNeg)) (st ((mL M 16 j16 x1.toNatClampNeg) - s0) (fun (v19 : Int64) => gd (¬ (x1 < 0 ∨ mZ M 16 j12 ≤ x1.toNatClampNeg)) (bd (f_M_greater (mL M 16 j12 x1.toNatClampNeg) v15) (fun (r21 : Int64) => st (wL M 16 j12 x1.toNatClampNeg r21) (fun (M22 : me_M) => gd (¬ (x2 < 0 ∨ mZ M 16 j16 ≤ x2.toNatClampNeg)) (bd (f_M_lesser (mL M22 16 j16 x2.toNatClampNeg) v19) (fun (r24 : Int64) => st (wL M22 16 j16 x2.toNatClampNeg r24) (fun (M25 : me_M) => some (M25, (1 : Int32)))))))))))))) else bd (mR M 1 j0 56) (fun (j27 : Nat) => gd (¬ (x2 < 0 ∨ mZ M 16 j27 ≤ x2.toNatClampNeg)) (st ((mL M 16 j27 x2.toNatClampNeg) + s0) (fun (v30 : Int64) => bd (mR M 1 j0 57) (fun (j31 : Nat) => gd (¬ (x1 < 0 ∨ mZ M 16 j31 ≤ x1.toNatClampNeg)) (st ((mL M 16 j31 x1.toNatClampNeg) - s0) (fun (v34 : Int64) => gd (¬ (x1 < 0 ∨ mZ M 16 j27 ≤ x1.toNatClampNeg)) ((if v30 < (mL M 16 j27 x1.toNatClampNeg) then f_M_orders_b130 j0 x2 M v34 (mL M 16 j27 x1.toNatClampNeg) x1 j27 else f_M_orders_b130 j0 x2 M v34 v30 x1 j27)))))))))
def f_M_orders_b64 (j0 : Nat) (x1 : Int32) (x2 : Int32) (x3 : Int32) (x4 : Int32) (M : me_M) : Option (me_M × Int32) := (if x3 = 0 then f_M_orders_b73 j0 x1 x2 x4 M (0 : Int64) else f_M_orders_b73 j0 x1 x2 x4 M (1 : Int64))
def f_M_orders (M0 : me_M) (j0 : Nat) (x1 : Int32) (x2 : Int32) (x3 : Int32) (x4 : Int32) : Option (me_M × Int32) := (if x3 = 0 then f_M_orders_b64 j0 x1 x2 x3 x4 M0 else (if x4 = 0 then bd (mR M0 1 j0 54) (fun (j40 : Nat) => gd (¬ (x2 < 0 ∨ mZ M0 16 j40 ≤ x2.toNatClampNeg)) ((if (mL M0 16 j40 x2.toNatClampNeg) = (-1) then some (M0, (0 : Int32)) else bd (mR M0 1 j0 55) (fun (j45 : Nat) => gd (¬ (x1 < 0 ∨ mZ M0 16 j45 ≤ x1.toNatClampNeg)) ((if (mL M0 16 j45 x1.toNatClampNeg) = 0 then some (M0, (0 : Int32)) else f_M_orders_b64 j0 x1 x2 x3 x4 M0)))))) else bd (mR M0 1 j0 56) (fun (j50 : Nat) => gd (¬ (x2 < 0 ∨ mZ M0 16 j50 ≤ x2.toNatClampNeg)) ((if (mL M0 16 j50 x2.toNatClampNeg) = 9223372036854775807 then some (M0, (0 : Int32)) else bd (mR M0 1 j0 57) (fun (j55 : Nat) => gd (¬ (x1 < 0 ∨ mZ M0 16 j55 ≤ x1.toNatClampNeg)) ((if (mL M0 16 j55 x1.toNatClampNeg) = (-9223372036854775808) then some (M0, (0 : Int32)) else f_M_orders_b64 j0 x1 x2 x3 x4 M0))))))))
def rm_M_orders : Room := { frames := 3, cells := 0, slots := 0, locals := 66 }
abbrev q_M_orders (D : va_G) (ad : Nat → Nat → Nat) (ca : Nat → ClassId) (N : Nat → Nat) (M0 MZ : me_M) (RZ : Int32) (A : Nat → Prop) : Array Value → Jvm.State → Outcome → Jvm.State → Prop := va_Qi (fun r (_ : Unit) => r = RZ ∧ me_wf N MZ ∧ me_kp M0 MZ ∧ (RZ = 1 ∨ RZ = 0)) (fg_B D A (fun _ => me_W ad ca MZ) (fun _ => [])) A
set_option maxHeartbeats 4000000 in
set_option maxRecDepth 100000 in
theorem c_M_orders (l : Launch) (D : va_G) (ad : Nat → Nat → Nat) (ca : Nat → ClassId) (N : Nat → Nat) (M0 MZ : me_M) (RZ : Int32) (j0 : Nat) (x1 : Int32) (x2 : Int32) (x3 : Int32) (x4 : Int32) (h : f_M_orders M0 j0 x1 x2 x3 x4 = (some (MZ, RZ))) (hwf : me_wf N M0) (hj0 : j0 < N 1) (zx3 : x3 = 1 ∨ x3 = 0) (zx4 : x4 = 1 ∨ x4 = 0) (sz : Nat) : Met l y_M_orders (fg_w y_M_orders prog_14_method_33_code 11 (some .boolean)) rm_M_orders (va_Pc [.ref (ad 1 j0), .int x1, .int x2, .int x3, .int x4] (fz_P D (me_T ca) (me_W ad ca M0) sz)) (q_M_orders D ad ca N M0 MZ RZ (va_A (me_W ad ca M0) sz)) rm_M_orders.cells rm_M_orders.slots (va_A (me_W ad ca M0) sz) := by
  refine fz_enter (fun A => q_M_orders D ad ca N M0 MZ RZ A) (by decide +kernel) (Nat.le_of_ble_eq_true rfl) ?_
  intro p e s m below meth c ls A hx hb hml hown hts hr hlocks hin hP hK hD hS hA hX hl hz
  have hl : lv_has ls 11 [(0, .ref (ad 1 j0)), (1, .int x1), (2, .int x2), (3, .int x3), (4, .int x4)] := hl
  unfold f_M_orders at h
  have hkp : me_kp M0 M0 := me_kp.rf
  have hkb := hkp
  have b_130 : ∀ (M : me_M) (y9 : Int64) (s0 : Int64) (s1 : Int32) (s2 : Nat) (H : Heap) (locs : List Loc) (ls : Array Slot), f_M_orders_b130 j0 x2 M y9 s0 s1 s2 = (some (MZ, RZ)) → (s2 < N 16) → me_wf N M → me_kp M0 M → va_P D classes (me_W ad ca M) H → va_D A (me_W ad ca M) → va_S A s.heap H locs → lv_has ls 11 [(0, .ref (ad 1 j0)), (2, .int x2), (9, .long y9)] → W p l e rm_M_orders s m [.ref (ad 1 j0), .int x1, .int x2, .int x3, .int x4].toArray below meth c H locs 0 0 (MQ below (q_M_orders D ad ca N M0 MZ RZ A) [.ref (ad 1 j0), .int x1, .int x2, .int x3, .int x4].toArray s rm_M_orders.cells rm_M_orders.slots A) (F0 m 130 ls [.long s0, .int s1, .ref (ad 16 s2)]) := by
    intro M y9 s0 s1 s2 H locs ls h hs2 hwf hkp hP hD hS hl
    unfold f_M_orders_b130 at h
    have hkb := hkp
    obtain ⟨g1, h⟩ := gd_ob h
    obtain ⟨M2, eM2, h⟩ := st_ob h
    refine me_last eM2 hx hb hK hP hD hwf hS hs2 g1 d_M_orders_130 (fun H locs hP hD hwf hS => ?_)
    have hkp := kp_L eM2 hkp
    refine lv_aload_n hx hb d_M_orders_131 rfl (lv_at hl 0 rfl) ?_
    refine g_M_57 hx hb hts hown hK hP hwf hj0 (hts _ u_1798) d_M_orders_132 ?_
    obtain ⟨j3, e4, h⟩ := bd_ob h
    have hj3 : j3 < N 16 := (hwf.2.1 1 j0 57 _ (kp_r hkb hkp e4) (by decide) hj0)
    refine me_opt (j := j3) (kp_r hkb hkp e4) ?_
    refine lv_iload_n hx hb d_M_orders_135 rfl (lv_at hl 1 rfl) ?_
    refine lv_aload_n hx hb d_M_orders_136 rfl (lv_at hl 0 rfl) ?_
    refine g_M_57 hx hb hts hown hK hP hwf hj0 (hts _ u_1798) d_M_orders_137 ?_
    refine me_opt (j := j3) (kp_r hkb hkp e4) ?_
    refine lv_iload_n hx hb d_M_orders_140 rfl (lv_at hl 1 rfl) ?_
    obtain ⟨g5, h⟩ := gd_ob h
    refine me_lald hx hb hK hP hwf hj3 (kp_z hkb.z hkp.z g5) d_M_orders_141 ?_
    refine lv_lload hx hb d_M_orders_142 (lv_at hl 2 rfl) ?_
    refine W.lcmp hx hb d_M_orders_144 ?_
    refine lv_if_ge (tgt := 157) hx hb d_M_orders_145 (by decide) (fun c6 => ?_) (fun c6 => ?_)
    · have h := if_f (Int64.not_lt.mpr ((lg_cmp_ge _ _).mp c6)) h
      refine lv_lload hx hb d_M_orders_157 (lv_at hl 2 rfl) ?_
      obtain ⟨M7, eM7, h⟩ := st_ob h
      refine me_last eM7 hx hb hK hP hD hwf hS hj3 (kp_z hkb.z hkp.z g5) d_M_orders_159 (fun H locs hP hD hwf hS => ?_)
      have hkp := kp_L eM7 hkp
      refine lv_goto (tgt := 219) hx hb d_M_orders_160 (by decide) ?_
      refine lv_iconst (v := 1) hx hb d_M_orders_219 (by decide) ?_
      have z8 : (1 : Int32) = 1 ∨ (1 : Int32) = 0 := (by decide)
      cases h
      exact fg_retz () hx hb hr hlocks (me_nz z8) ⟨rfl, ⟨hwf, hkp, z8⟩⟩ hP (hK.sub (tys' := []) [] rfl) hD hS (Nat.le_of_ble_eq_true rfl) (Nat.le_of_ble_eq_true rfl) d_M_orders_220
    have h := if_t (Int64.not_le.mp (fun z => c6 ((lg_cmp_ge _ _).mpr z))) h
    refine lv_aload_n hx hb d_M_orders_148 rfl (lv_at hl 0 rfl) ?_
    refine g_M_57 hx hb hts hown hK hP hwf hj0 (hts _ u_1798) d_M_orders_149 ?_
    refine me_opt (j := j3) (kp_r hkb hkp e4) ?_
    refine lv_iload_n hx hb d_M_orders_152 rfl (lv_at hl 1 rfl) ?_
    refine me_lald hx hb hK hP hwf hj3 (kp_z hkb.z hkp.z g5) d_M_orders_153 ?_
    refine lv_goto (tgt := 159) hx hb d_M_orders_154 (by decide) ?_
    obtain ⟨M9, eM9, h⟩ := st_ob h
    refine me_last eM9 hx hb hK hP hD hwf hS hj3 (kp_z hkb.z hkp.z g5) d_M_orders_159 (fun H locs hP hD hwf hS => ?_)
    have hkp := kp_L eM9 hkp
    refine lv_goto (tgt := 219) hx hb d_M_orders_160 (by decide) ?_
    refine lv_iconst (v := 1) hx hb d_M_orders_219 (by decide) ?_
    have z10 : (1 : Int32) = 1 ∨ (1 : Int32) = 0 := (by decide)
    cases h
    exact fg_retz () hx hb hr hlocks (me_nz z10) ⟨rfl, ⟨hwf, hkp, z10⟩⟩ hP (hK.sub (tys' := []) [] rfl) hD hS (Nat.le_of_ble_eq_true rfl) (Nat.le_of_ble_eq_true rfl) d_M_orders_220
  have b_73 : ∀ (M : me_M) (s0 : Int64) (H : Heap) (locs : List Loc) (ls : Array Slot), f_M_orders_b73 j0 x1 x2 x4 M s0 = (some (MZ, RZ)) → me_wf N M → me_kp M0 M → va_P D classes (me_W ad ca M) H → va_D A (me_W ad ca M) → va_S A s.heap H locs → lv_has ls 11 [(0, .ref (ad 1 j0)), (1, .int x1), (2, .int x2), (4, .int x4)] → W p l e rm_M_orders s m [.ref (ad 1 j0), .int x1, .int x2, .int x3, .int x4].toArray below meth c H locs 0 0 (MQ below (q_M_orders D ad ca N M0 MZ RZ A) [.ref (ad 1 j0), .int x1, .int x2, .int x3, .int x4].toArray s rm_M_orders.cells rm_M_orders.slots A) (F0 m 73 ls [.long s0]) := by
    intro M s0 H locs ls h hwf hkp hP hD hS hl
    unfold f_M_orders_b73 at h
    have hkb := hkp
    refine lv_lstore (lv' := [(5, .long s0), (0, .ref (ad 1 j0)), (1, .int x1), (2, .int x2), (4, .int x4)]) hx hb d_M_orders_73 hl (by decide) rfl (fun ls hl => ?_)
    refine lv_iload hx hb d_M_orders_75 (lv_at hl 4 rfl) ?_
    refine lv_if_eq (tgt := 163) hx hb d_M_orders_77 (by decide) (fun c11 => ?_) (fun c11 => ?_)
    · have h := if_t c11 h
      refine lv_aload_n hx hb d_M_orders_163 rfl (lv_at hl 1 rfl) ?_
      refine g_M_54 hx hb hts hown hK hP hwf hj0 (hts _ u_1795) d_M_orders_164 ?_
      obtain ⟨j12, e13, h⟩ := bd_ob h
      have hj12 : j12 < N 16 := (hwf.2.1 1 j0 54 _ e13 (by decide) hj0)
      refine me_opt (j := j12) e13 ?_
      refine lv_iload_n hx hb d_M_orders_167 rfl (lv_at hl 3 rfl) ?_
      obtain ⟨g14, h⟩ := gd_ob h
      refine me_lald hx hb hK hP hwf hj12 g14 d_M_orders_168 ?_
      refine lv_lload hx hb d_M_orders_169 (lv_at hl 0 rfl) ?_
      refine lv_ladd hx hb d_M_orders_171 ?_
      obtain ⟨v15, ev15, h⟩ := st_ob h
      refine fg_topl (y := v15) ev15.symm ?_
      refine lv_lstore (lv' := [(7, .long v15), (5, .long s0), (0, .ref (ad 1 j0)), (1, .int x1), (2, .int x2), (4, .int x4)]) hx hb d_M_orders_172 hl (by decide) rfl (fun ls hl => ?_)
      refine lv_aload_n hx hb d_M_orders_174 rfl (lv_at hl 2 rfl) ?_
      refine g_M_55 hx hb hts hown hK hP hwf hj0 (hts _ u_1796) d_M_orders_175 ?_
      obtain ⟨j16, e17, h⟩ := bd_ob h
      have hj16 : j16 < N 16 := (hwf.2.1 1 j0 55 _ e17 (by decide) hj0)
      refine me_opt (j := j16) e17 ?_
      refine lv_iload_n hx hb d_M_orders_178 rfl (lv_at hl 3 rfl) ?_
      obtain ⟨g18, h⟩ := gd_ob h
      refine me_lald hx hb hK hP hwf hj16 g18 d_M_orders_179 ?_
      refine lv_lload hx hb d_M_orders_180 (lv_at hl 1 rfl) ?_
      refine lv_lsub hx hb d_M_orders_182 ?_
      obtain ⟨v19, ev19, h⟩ := st_ob h
      refine fg_topl (y := v19) ev19.symm ?_
      refine lv_lstore (lv' := [(9, .long v19), (7, .long v15), (5, .long s0), (0, .ref (ad 1 j0)), (1, .int x1), (2, .int x2), (4, .int x4)]) hx hb d_M_orders_183 hl (by decide) rfl (fun ls hl => ?_)
      refine lv_aload_n hx hb d_M_orders_185 rfl (lv_at hl 3 rfl) ?_
      refine g_M_54 hx hb hts hown hK hP hwf hj0 (hts _ u_1795) d_M_orders_186 ?_
      refine me_opt (j := j12) e13 ?_
      refine lv_iload_n hx hb d_M_orders_189 rfl (lv_at hl 4 rfl) ?_
      refine lv_aload_n hx hb d_M_orders_190 rfl (lv_at hl 3 rfl) ?_
      refine g_M_54 hx hb hts hown hK hP hwf hj0 (hts _ u_1795) d_M_orders_191 ?_
      refine me_opt (j := j12) e13 ?_
      refine lv_iload_n hx hb d_M_orders_194 rfl (lv_at hl 4 rfl) ?_
      obtain ⟨g20, h⟩ := gd_ob h
      refine me_lald hx hb hK hP hwf hj12 g20 d_M_orders_195 ?_
      refine lv_lload hx hb d_M_orders_196 (lv_at hl 1 rfl) ?_
      obtain ⟨r21, er21, h⟩ := bd_ob h
      refine me_panl' (r0 := r21) (fg_runS (wc := []) (tc := []) (A2 := A) (As := [.long (mL M 16 j12 x1.toNatClampNeg), .long v15]) (rest := [.int x1, .ref (ad 16 j12)]) ⟨hx, hb, hml, hown, hts⟩ (c_M_greater l D r21 (mL M 16 j12 x1.toNatClampNeg) v15 er21 _) (by show fg_nm y_M_greater 2; decide +kernel) u_2151 u_2152 u_192 u_2153 ⟨Nat.le_of_ble_eq_true rfl, Nat.le_of_ble_eq_true rfl⟩ hX me_P0 (hK.sub (tys' := []) [] rfl) me_D0 rfl hl.1 (Nat.le_of_ble_eq_true rfl) d_M_orders_198 ⟨Nat.le_of_ble_eq_true rfl, Nat.le_of_ble_eq_true rfl⟩) hP hD hK hS hA rfl rfl (fun H locs hw hP hD hS => ?_)
      obtain ⟨M22, eM22, h⟩ := st_ob h
      refine me_last eM22 hx hb hK hP hD hwf hS hj12 g20 d_M_orders_201 (fun H locs hP hD hwf hS => ?_)
      have hkp := kp_L eM22 hkp
      refine lv_aload_n hx hb d_M_orders_202 rfl (lv_at hl 3 rfl) ?_
      refine g_M_55 hx hb hts hown hK hP hwf hj0 (hts _ u_1796) d_M_orders_203 ?_
      refine me_opt (j := j16) (kp_r hkb hkp e17) ?_
      refine lv_iload_n hx hb d_M_orders_206 rfl (lv_at hl 5 rfl) ?_
      refine lv_aload_n hx hb d_M_orders_207 rfl (lv_at hl 3 rfl) ?_
      refine g_M_55 hx hb hts hown hK hP hwf hj0 (hts _ u_1796) d_M_orders_208 ?_
      refine me_opt (j := j16) (kp_r hkb hkp e17) ?_
      refine lv_iload_n hx hb d_M_orders_211 rfl (lv_at hl 5 rfl) ?_
      obtain ⟨g23, h⟩ := gd_ob h
      refine me_lald hx hb hK hP hwf hj16 (kp_z hkb.z hkp.z g23) d_M_orders_212 ?_
      refine lv_lload hx hb d_M_orders_213 (lv_at hl 0 rfl) ?_
      obtain ⟨r24, er24, h⟩ := bd_ob h
      refine me_panl' (r0 := r24) (fg_runS (wc := []) (tc := []) (A2 := A) (As := [.long (mL M22 16 j16 x2.toNatClampNeg), .long v19]) (rest := [.int x2, .ref (ad 16 j16)]) ⟨hx, hb, hml, hown, hts⟩ (c_M_lesser l D r24 (mL M22 16 j16 x2.toNatClampNeg) v19 er24 _) (by show fg_nm y_M_lesser 2; decide +kernel) u_2154 u_2155 u_192 u_2156 ⟨Nat.le_of_ble_eq_true rfl, Nat.le_of_ble_eq_true rfl⟩ hX me_P0 (hK.sub (tys' := []) [] rfl) me_D0 rfl hl.1 (Nat.le_of_ble_eq_true rfl) d_M_orders_215 ⟨Nat.le_of_ble_eq_true rfl, Nat.le_of_ble_eq_true rfl⟩) hP hD hK hS hA rfl rfl (fun H locs hw hP hD hS => ?_)
      obtain ⟨M25, eM25, h⟩ := st_ob h
      refine me_last eM25 hx hb hK hP hD hwf hS hj16 (kp_z hkb.z hkp.z g23) d_M_orders_218 (fun H locs hP hD hwf hS => ?_)
      have hkp := kp_L eM25 hkp
      refine lv_iconst (v := 1) hx hb d_M_orders_219 (by decide) ?_
      have z26 : (1 : Int32) = 1 ∨ (1 : Int32) = 0 := (by decide)
      cases h
      exact fg_retz () hx hb hr hlocks (me_nz z26) ⟨rfl, ⟨hwf, hkp, z26⟩⟩ hP (hK.sub (tys' := []) [] rfl) hD hS (Nat.le_of_ble_eq_true rfl) (Nat.le_of_ble_eq_true rfl) d_M_orders_220
    have h := if_f c11 h
    refine lv_aload_n hx hb d_M_orders_80 rfl (lv_at hl 1 rfl) ?_
    refine g_M_56 hx hb hts hown hK hP hwf hj0 (hts _ u_1797) d_M_orders_81 ?_
    obtain ⟨j27, e28, h⟩ := bd_ob h
    have hj27 : j27 < N 16 := (hwf.2.1 1 j0 56 _ e28 (by decide) hj0)
    refine me_opt (j := j27) e28 ?_
    refine lv_iload_n hx hb d_M_orders_84 rfl (lv_at hl 3 rfl) ?_
    obtain ⟨g29, h⟩ := gd_ob h
    refine me_lald hx hb hK hP hwf hj27 g29 d_M_orders_85 ?_
    refine lv_lload hx hb d_M_orders_86 (lv_at hl 0 rfl) ?_
    refine lv_ladd hx hb d_M_orders_88 ?_
    obtain ⟨v30, ev30, h⟩ := st_ob h
    refine fg_topl (y := v30) ev30.symm ?_
    refine lv_lstore (lv' := [(7, .long v30), (5, .long s0), (0, .ref (ad 1 j0)), (1, .int x1), (2, .int x2), (4, .int x4)]) hx hb d_M_orders_89 hl (by decide) rfl (fun ls hl => ?_)
    refine lv_aload_n hx hb d_M_orders_91 rfl (lv_at hl 2 rfl) ?_
    refine g_M_57 hx hb hts hown hK hP hwf hj0 (hts _ u_1798) d_M_orders_92 ?_
    obtain ⟨j31, e32, h⟩ := bd_ob h
    have hj31 : j31 < N 16 := (hwf.2.1 1 j0 57 _ e32 (by decide) hj0)
    refine me_opt (j := j31) e32 ?_
    refine lv_iload_n hx hb d_M_orders_95 rfl (lv_at hl 3 rfl) ?_
    obtain ⟨g33, h⟩ := gd_ob h
    refine me_lald hx hb hK hP hwf hj31 g33 d_M_orders_96 ?_
    refine lv_lload hx hb d_M_orders_97 (lv_at hl 1 rfl) ?_
    refine lv_lsub hx hb d_M_orders_99 ?_
    obtain ⟨v34, ev34, h⟩ := st_ob h
    refine fg_topl (y := v34) ev34.symm ?_
    refine lv_lstore (lv' := [(9, .long v34), (7, .long v30), (5, .long s0), (0, .ref (ad 1 j0)), (1, .int x1), (2, .int x2), (4, .int x4)]) hx hb d_M_orders_100 hl (by decide) rfl (fun ls hl => ?_)
    refine lv_aload_n hx hb d_M_orders_102 rfl (lv_at hl 3 rfl) ?_
    refine g_M_56 hx hb hts hown hK hP hwf hj0 (hts _ u_1797) d_M_orders_103 ?_
    refine me_opt (j := j27) e28 ?_
    refine lv_iload_n hx hb d_M_orders_106 rfl (lv_at hl 4 rfl) ?_
    refine lv_aload_n hx hb d_M_orders_107 rfl (lv_at hl 3 rfl) ?_
    refine g_M_56 hx hb hts hown hK hP hwf hj0 (hts _ u_1797) d_M_orders_108 ?_
    refine me_opt (j := j27) e28 ?_
    refine lv_iload_n hx hb d_M_orders_111 rfl (lv_at hl 4 rfl) ?_
    obtain ⟨g35, h⟩ := gd_ob h
    refine me_lald hx hb hK hP hwf hj27 g35 d_M_orders_112 ?_
    refine lv_lload hx hb d_M_orders_113 (lv_at hl 1 rfl) ?_
    refine W.lcmp hx hb d_M_orders_115 ?_
    refine lv_if_le (tgt := 128) hx hb d_M_orders_116 (by decide) (fun c36 => ?_) (fun c36 => ?_)
    · have h := if_f (Int64.not_lt.mpr ((lg_cmp_le _ _).mp c36)) h
      refine lv_lload hx hb d_M_orders_128 (lv_at hl 1 rfl) ?_
      exact b_130 M v34 v30 x1 j27 _ _ _ h hj27 hwf hkp hP hD hS (lv_sub hl [3, 5, 0] rfl)
    have h := if_t (Int64.not_le.mp (fun z => c36 ((lg_cmp_le _ _).mpr z))) h
    refine lv_aload_n hx hb d_M_orders_119 rfl (lv_at hl 3 rfl) ?_
    refine g_M_56 hx hb hts hown hK hP hwf hj0 (hts _ u_1797) d_M_orders_120 ?_
    refine me_opt (j := j27) e28 ?_
    refine lv_iload_n hx hb d_M_orders_123 rfl (lv_at hl 4 rfl) ?_
    refine me_lald hx hb hK hP hwf hj27 g35 d_M_orders_124 ?_
    refine lv_goto (tgt := 130) hx hb d_M_orders_125 (by decide) ?_
    exact b_130 M v34 (mL M 16 j27 x1.toNatClampNeg) x1 j27 _ _ _ h hj27 hwf hkp hP hD hS (lv_sub hl [3, 5, 0] rfl)
  have b_64 : ∀ (M : me_M) (H : Heap) (locs : List Loc) (ls : Array Slot), f_M_orders_b64 j0 x1 x2 x3 x4 M = (some (MZ, RZ)) → me_wf N M → me_kp M0 M → va_P D classes (me_W ad ca M) H → va_D A (me_W ad ca M) → va_S A s.heap H locs → lv_has ls 11 [(0, .ref (ad 1 j0)), (1, .int x1), (2, .int x2), (3, .int x3), (4, .int x4)] → W p l e rm_M_orders s m [.ref (ad 1 j0), .int x1, .int x2, .int x3, .int x4].toArray below meth c H locs 0 0 (MQ below (q_M_orders D ad ca N M0 MZ RZ A) [.ref (ad 1 j0), .int x1, .int x2, .int x3, .int x4].toArray s rm_M_orders.cells rm_M_orders.slots A) (F0 m 64 ls []) := by
    intro M H locs ls h hwf hkp hP hD hS hl
    unfold f_M_orders_b64 at h
    have hkb := hkp
    refine lv_iload_n hx hb d_M_orders_64 rfl (lv_at hl 3 rfl) ?_
    refine lv_if_eq (tgt := 72) hx hb d_M_orders_65 (by decide) (fun c37 => ?_) (fun c37 => ?_)
    · have h := if_t c37 h
      refine lv_lconst (v := 0) hx hb d_M_orders_72 (by decide) ?_
      exact b_73 M (0 : Int64) _ _ _ h hwf hkp hP hD hS (lv_sub hl [0, 1, 2, 4] rfl)
    have h := if_f c37 h
    refine lv_lconst (v := 1) hx hb d_M_orders_68 (by decide) ?_
    refine lv_goto (tgt := 73) hx hb d_M_orders_69 (by decide) ?_
    exact b_73 M (1 : Int64) _ _ _ h hwf hkp hP hD hS (lv_sub hl [0, 1, 2, 4] rfl)
  refine lv_iload_n hx hb d_M_orders_0 rfl (lv_at hl 3 rfl) ?_
  refine lv_if_eq (tgt := 64) hx hb d_M_orders_1 (by decide) (fun c38 => ?_) (fun c38 => ?_)
  · have h := if_t c38 h
    exact b_64 M0 _ _ _ h hwf hkp hP hD hS (lv_sub hl [0, 1, 2, 3, 4] rfl)
  have h := if_f c38 h
  refine lv_iload hx hb d_M_orders_4 (lv_at hl 4 rfl) ?_
  refine lv_if_eq (tgt := 38) hx hb d_M_orders_6 (by decide) (fun c39 => ?_) (fun c39 => ?_)
  · have h := if_t c39 h
    refine lv_aload_n hx hb d_M_orders_38 rfl (lv_at hl 0 rfl) ?_
    refine g_M_54 hx hb hts hown hK hP hwf hj0 (hts _ u_1795) d_M_orders_39 ?_
    obtain ⟨j40, e41, h⟩ := bd_ob h
    have hj40 : j40 < N 16 := (hwf.2.1 1 j0 54 _ e41 (by decide) hj0)
    refine me_opt (j := j40) e41 ?_
    refine lv_iload_n hx hb d_M_orders_42 rfl (lv_at hl 2 rfl) ?_
    obtain ⟨g42, h⟩ := gd_ob h
    refine me_lald hx hb hK hP hwf hj40 g42 d_M_orders_43 ?_
    refine lv_ldc2 hx hb hown (hts _ u_2071) d_M_orders_44 ?_
    refine W.lcmp hx hb d_M_orders_47 ?_
    refine lv_if_eq (tgt := 62) hx hb d_M_orders_48 (by decide) (fun c43 => ?_) (fun c43 => ?_)
    · have h := if_t ((lg_cmp_eq _ _).mp c43) h
      refine lv_iconst (v := 0) hx hb d_M_orders_62 (by decide) ?_
      have z44 : (0 : Int32) = 1 ∨ (0 : Int32) = 0 := (by decide)
      cases h
      exact fg_retz () hx hb hr hlocks (me_nz z44) ⟨rfl, ⟨hwf, hkp, z44⟩⟩ hP (hK.sub (tys' := []) [] rfl) hD hS (Nat.le_of_ble_eq_true rfl) (Nat.le_of_ble_eq_true rfl) d_M_orders_63
    have h := if_f (fun z => c43 ((lg_cmp_eq _ _).mpr z)) h
    refine lv_aload_n hx hb d_M_orders_51 rfl (lv_at hl 0 rfl) ?_
    refine g_M_55 hx hb hts hown hK hP hwf hj0 (hts _ u_1796) d_M_orders_52 ?_
    obtain ⟨j45, e46, h⟩ := bd_ob h
    have hj45 : j45 < N 16 := (hwf.2.1 1 j0 55 _ e46 (by decide) hj0)
    refine me_opt (j := j45) e46 ?_
    refine lv_iload_n hx hb d_M_orders_55 rfl (lv_at hl 1 rfl) ?_
    obtain ⟨g47, h⟩ := gd_ob h
    refine me_lald hx hb hK hP hwf hj45 g47 d_M_orders_56 ?_
    refine lv_lconst (v := 0) hx hb d_M_orders_57 (by decide) ?_
    refine W.lcmp hx hb d_M_orders_58 ?_
    refine lv_if_ne (tgt := 64) hx hb d_M_orders_59 (by decide) (fun c48 => ?_) (fun c48 => ?_)
    · have h := if_f (fun z => c48 ((lg_cmp_eq _ _).mpr z)) h
      exact b_64 M0 _ _ _ h hwf hkp hP hD hS (lv_sub hl [0, 1, 2, 3, 4] rfl)
    have h := if_t ((lg_cmp_eq _ _).mp c48) h
    refine lv_iconst (v := 0) hx hb d_M_orders_62 (by decide) ?_
    have z49 : (0 : Int32) = 1 ∨ (0 : Int32) = 0 := (by decide)
    cases h
    exact fg_retz () hx hb hr hlocks (me_nz z49) ⟨rfl, ⟨hwf, hkp, z49⟩⟩ hP (hK.sub (tys' := []) [] rfl) hD hS (Nat.le_of_ble_eq_true rfl) (Nat.le_of_ble_eq_true rfl) d_M_orders_63
  have h := if_f c39 h
  refine lv_aload_n hx hb d_M_orders_9 rfl (lv_at hl 0 rfl) ?_
  refine g_M_56 hx hb hts hown hK hP hwf hj0 (hts _ u_1797) d_M_orders_10 ?_
  obtain ⟨j50, e51, h⟩ := bd_ob h
  have hj50 : j50 < N 16 := (hwf.2.1 1 j0 56 _ e51 (by decide) hj0)
  refine me_opt (j := j50) e51 ?_
  refine lv_iload_n hx hb d_M_orders_13 rfl (lv_at hl 2 rfl) ?_
  obtain ⟨g52, h⟩ := gd_ob h
  refine me_lald hx hb hK hP hwf hj50 g52 d_M_orders_14 ?_
  refine lv_ldc2 hx hb hown (hts _ u_2142) d_M_orders_15 ?_
  refine W.lcmp hx hb d_M_orders_18 ?_
  refine lv_if_eq (tgt := 62) hx hb d_M_orders_19 (by decide) (fun c53 => ?_) (fun c53 => ?_)
  · have h := if_t ((lg_cmp_eq _ _).mp c53) h
    refine lv_iconst (v := 0) hx hb d_M_orders_62 (by decide) ?_
    have z54 : (0 : Int32) = 1 ∨ (0 : Int32) = 0 := (by decide)
    cases h
    exact fg_retz () hx hb hr hlocks (me_nz z54) ⟨rfl, ⟨hwf, hkp, z54⟩⟩ hP (hK.sub (tys' := []) [] rfl) hD hS (Nat.le_of_ble_eq_true rfl) (Nat.le_of_ble_eq_true rfl) d_M_orders_63
  have h := if_f (fun z => c53 ((lg_cmp_eq _ _).mpr z)) h
  refine lv_aload_n hx hb d_M_orders_22 rfl (lv_at hl 0 rfl) ?_
  refine g_M_57 hx hb hts hown hK hP hwf hj0 (hts _ u_1798) d_M_orders_23 ?_
  obtain ⟨j55, e56, h⟩ := bd_ob h
  have hj55 : j55 < N 16 := (hwf.2.1 1 j0 57 _ e56 (by decide) hj0)
  refine me_opt (j := j55) e56 ?_
  refine lv_iload_n hx hb d_M_orders_26 rfl (lv_at hl 1 rfl) ?_
  obtain ⟨g57, h⟩ := gd_ob h
  refine me_lald hx hb hK hP hwf hj55 g57 d_M_orders_27 ?_
  refine lv_ldc2 hx hb hown (hts _ u_2075) d_M_orders_28 ?_
  refine W.lcmp hx hb d_M_orders_31 ?_
  refine lv_if_ne (tgt := 64) hx hb d_M_orders_32 (by decide) (fun c58 => ?_) (fun c58 => ?_)
  · have h := if_f (fun z => c58 ((lg_cmp_eq _ _).mpr z)) h
    exact b_64 M0 _ _ _ h hwf hkp hP hD hS (lv_sub hl [0, 1, 2, 3, 4] rfl)
  have h := if_t ((lg_cmp_eq _ _).mp c58) h
  refine lv_goto (tgt := 62) hx hb d_M_orders_35 (by decide) ?_
  refine lv_iconst (v := 0) hx hb d_M_orders_62 (by decide) ?_
  have z59 : (0 : Int32) = 1 ∨ (0 : Int32) = 0 := (by decide)
  cases h
  exact fg_retz () hx hb hr hlocks (me_nz z59) ⟨rfl, ⟨hwf, hkp, z59⟩⟩ hP (hK.sub (tys' := []) [] rfl) hD hS (Nat.le_of_ble_eq_true rfl) (Nat.le_of_ble_eq_true rfl) d_M_orders_63
theorem d_M_same_200 : decode prog_14_method_34_code 200 = .ok (.lastore, 1) := by decide +kernel
theorem d_M_same_201 : decode prog_14_method_34_code 201 = .ok (.aload_n 0, 1) := by decide +kernel
theorem d_M_same_202 : decode prog_14_method_34_code 202 = .ok (.getfield 119, 3) := by decide +kernel
theorem d_M_same_205 : decode prog_14_method_34_code 205 = .ok (.sipush 30075, 3) := by decide +kernel
theorem d_M_same_208 : decode prog_14_method_34_code 208 = .ok (.aload_n 0, 1) := by decide +kernel
theorem d_M_same_209 : decode prog_14_method_34_code 209 = .ok (.getfield 119, 3) := by decide +kernel
theorem d_M_same_212 : decode prog_14_method_34_code 212 = .ok (.sipush 30075, 3) := by decide +kernel
theorem d_M_same_215 : decode prog_14_method_34_code 215 = .ok (.laload, 1) := by decide +kernel
theorem d_M_same_216 : decode prog_14_method_34_code 216 = .ok (.aload_n 0, 1) := by decide +kernel
theorem d_M_same_217 : decode prog_14_method_34_code 217 = .ok (.getfield 119, 3) := by decide +kernel
theorem d_M_same_220 : decode prog_14_method_34_code 220 = .ok (.sipush 30076, 3) := by decide +kernel
theorem d_M_same_223 : decode prog_14_method_34_code 223 = .ok (.laload, 1) := by decide +kernel
theorem d_M_same_224 : decode prog_14_method_34_code 224 = .ok (.lcmp, 1) := by decide +kernel
theorem d_M_same_225 : decode prog_14_method_34_code 225 = .ok (.ifCond .ge 14, 3) := by decide +kernel
theorem d_M_same_239 : decode prog_14_method_34_code 239 = .ok (.aload_n 0, 1) := by decide +kernel
theorem d_M_same_240 : decode prog_14_method_34_code 240 = .ok (.getfield 119, 3) := by decide +kernel
theorem d_M_same_243 : decode prog_14_method_34_code 243 = .ok (.sipush 30076, 3) := by decide +kernel
theorem d_M_same_246 : decode prog_14_method_34_code 246 = .ok (.laload, 1) := by decide +kernel
theorem d_M_same_247 : decode prog_14_method_34_code 247 = .ok (.lastore, 1) := by decide +kernel
theorem d_M_same_248 : decode prog_14_method_34_code 248 = .ok (.aload_n 0, 1) := by decide +kernel
theorem d_M_same_249 : decode prog_14_method_34_code 249 = .ok (.sipush 30075, 3) := by decide +kernel
theorem d_M_same_252 : decode prog_14_method_34_code 252 = .ok (.sipush 30076, 3) := by decide +kernel
theorem d_M_same_255 : decode prog_14_method_34_code 255 = .ok (.invokevirtual 208, 3) := by decide +kernel
theorem d_M_same_258 : decode prog_14_method_34_code 258 = .ok (.iconst 1, 1) := by decide +kernel
theorem d_M_same_259 : decode prog_14_method_34_code 259 = .ok (.ireturn, 1) := by decide +kernel
theorem d_M_same_228 : decode prog_14_method_34_code 228 = .ok (.aload_n 0, 1) := by decide +kernel
theorem d_M_same_229 : decode prog_14_method_34_code 229 = .ok (.getfield 119, 3) := by decide +kernel
theorem d_M_same_232 : decode prog_14_method_34_code 232 = .ok (.sipush 30075, 3) := by decide +kernel
theorem d_M_same_235 : decode prog_14_method_34_code 235 = .ok (.laload, 1) := by decide +kernel
theorem d_M_same_236 : decode prog_14_method_34_code 236 = .ok (.goto 11, 3) := by decide +kernel
theorem d_M_same_0 : decode prog_14_method_34_code 0 = .ok (.aload_n 0, 1) := by decide +kernel
theorem d_M_same_1 : decode prog_14_method_34_code 1 = .ok (.getfield 104, 3) := by decide +kernel
theorem d_M_same_4 : decode prog_14_method_34_code 4 = .ok (.sipush 30075, 3) := by decide +kernel
theorem d_M_same_7 : decode prog_14_method_34_code 7 = .ok (.laload, 1) := by decide +kernel
theorem d_M_same_8 : decode prog_14_method_34_code 8 = .ok (.aload_n 0, 1) := by decide +kernel
theorem d_M_same_9 : decode prog_14_method_34_code 9 = .ok (.getfield 104, 3) := by decide +kernel
theorem d_M_same_12 : decode prog_14_method_34_code 12 = .ok (.sipush 30076, 3) := by decide +kernel
theorem d_M_same_15 : decode prog_14_method_34_code 15 = .ok (.laload, 1) := by decide +kernel
theorem d_M_same_16 : decode prog_14_method_34_code 16 = .ok (.lxor, 1) := by decide +kernel
theorem d_M_same_17 : decode prog_14_method_34_code 17 = .ok (.aload_n 0, 1) := by decide +kernel
theorem d_M_same_18 : decode prog_14_method_34_code 18 = .ok (.getfield 107, 3) := by decide +kernel
theorem d_M_same_21 : decode prog_14_method_34_code 21 = .ok (.sipush 30075, 3) := by decide +kernel
theorem d_M_same_24 : decode prog_14_method_34_code 24 = .ok (.laload, 1) := by decide +kernel
theorem d_M_same_25 : decode prog_14_method_34_code 25 = .ok (.ldc2_w 162, 3) := by decide +kernel
theorem d_M_same_28 : decode prog_14_method_34_code 28 = .ok (.lxor, 1) := by decide +kernel
theorem d_M_same_29 : decode prog_14_method_34_code 29 = .ok (.land, 1) := by decide +kernel
theorem d_M_same_30 : decode prog_14_method_34_code 30 = .ok (.aload_n 0, 1) := by decide +kernel
theorem d_M_same_31 : decode prog_14_method_34_code 31 = .ok (.getfield 107, 3) := by decide +kernel
theorem d_M_same_34 : decode prog_14_method_34_code 34 = .ok (.sipush 30076, 3) := by decide +kernel
theorem d_M_same_37 : decode prog_14_method_34_code 37 = .ok (.laload, 1) := by decide +kernel
theorem d_M_same_38 : decode prog_14_method_34_code 38 = .ok (.ldc2_w 162, 3) := by decide +kernel
theorem d_M_same_41 : decode prog_14_method_34_code 41 = .ok (.lxor, 1) := by decide +kernel
theorem d_M_same_42 : decode prog_14_method_34_code 42 = .ok (.land, 1) := by decide +kernel
theorem d_M_same_43 : decode prog_14_method_34_code 43 = .ok (.lconst 0, 1) := by decide +kernel
theorem d_M_same_44 : decode prog_14_method_34_code 44 = .ok (.lcmp, 1) := by decide +kernel
theorem d_M_same_45 : decode prog_14_method_34_code 45 = .ok (.ifCond .eq 5, 3) := by decide +kernel
theorem d_M_same_50 : decode prog_14_method_34_code 50 = .ok (.aload_n 0, 1) := by decide +kernel
theorem d_M_same_51 : decode prog_14_method_34_code 51 = .ok (.getfield 104, 3) := by decide +kernel
theorem d_M_same_54 : decode prog_14_method_34_code 54 = .ok (.sipush 30075, 3) := by decide +kernel
theorem d_M_same_57 : decode prog_14_method_34_code 57 = .ok (.aload_n 0, 1) := by decide +kernel
theorem d_M_same_58 : decode prog_14_method_34_code 58 = .ok (.getfield 104, 3) := by decide +kernel
theorem d_M_same_61 : decode prog_14_method_34_code 61 = .ok (.sipush 30075, 3) := by decide +kernel
theorem d_M_same_64 : decode prog_14_method_34_code 64 = .ok (.laload, 1) := by decide +kernel
theorem d_M_same_65 : decode prog_14_method_34_code 65 = .ok (.aload_n 0, 1) := by decide +kernel
theorem d_M_same_66 : decode prog_14_method_34_code 66 = .ok (.getfield 104, 3) := by decide +kernel
theorem d_M_same_69 : decode prog_14_method_34_code 69 = .ok (.sipush 30076, 3) := by decide +kernel
theorem d_M_same_72 : decode prog_14_method_34_code 72 = .ok (.laload, 1) := by decide +kernel
theorem d_M_same_73 : decode prog_14_method_34_code 73 = .ok (.lor, 1) := by decide +kernel
theorem d_M_same_74 : decode prog_14_method_34_code 74 = .ok (.lastore, 1) := by decide +kernel
theorem d_M_same_75 : decode prog_14_method_34_code 75 = .ok (.aload_n 0, 1) := by decide +kernel
theorem d_M_same_76 : decode prog_14_method_34_code 76 = .ok (.getfield 107, 3) := by decide +kernel
theorem d_M_same_79 : decode prog_14_method_34_code 79 = .ok (.sipush 30075, 3) := by decide +kernel
theorem d_M_same_82 : decode prog_14_method_34_code 82 = .ok (.aload_n 0, 1) := by decide +kernel
theorem d_M_same_83 : decode prog_14_method_34_code 83 = .ok (.getfield 107, 3) := by decide +kernel
theorem d_M_same_86 : decode prog_14_method_34_code 86 = .ok (.sipush 30075, 3) := by decide +kernel
theorem d_M_same_89 : decode prog_14_method_34_code 89 = .ok (.laload, 1) := by decide +kernel
theorem d_M_same_90 : decode prog_14_method_34_code 90 = .ok (.aload_n 0, 1) := by decide +kernel
theorem d_M_same_91 : decode prog_14_method_34_code 91 = .ok (.getfield 107, 3) := by decide +kernel
theorem d_M_same_94 : decode prog_14_method_34_code 94 = .ok (.sipush 30076, 3) := by decide +kernel
theorem d_M_same_97 : decode prog_14_method_34_code 97 = .ok (.laload, 1) := by decide +kernel
theorem d_M_same_98 : decode prog_14_method_34_code 98 = .ok (.land, 1) := by decide +kernel
theorem d_M_same_99 : decode prog_14_method_34_code 99 = .ok (.lastore, 1) := by decide +kernel
theorem d_M_same_100 : decode prog_14_method_34_code 100 = .ok (.aload_n 0, 1) := by decide +kernel
theorem d_M_same_101 : decode prog_14_method_34_code 101 = .ok (.getfield 110, 3) := by decide +kernel
theorem d_M_same_104 : decode prog_14_method_34_code 104 = .ok (.sipush 30075, 3) := by decide +kernel
theorem d_M_same_107 : decode prog_14_method_34_code 107 = .ok (.aload_n 0, 1) := by decide +kernel
theorem d_M_same_108 : decode prog_14_method_34_code 108 = .ok (.getfield 110, 3) := by decide +kernel
theorem d_M_same_111 : decode prog_14_method_34_code 111 = .ok (.sipush 30075, 3) := by decide +kernel
theorem d_M_same_114 : decode prog_14_method_34_code 114 = .ok (.laload, 1) := by decide +kernel
theorem d_M_same_115 : decode prog_14_method_34_code 115 = .ok (.aload_n 0, 1) := by decide +kernel
theorem d_M_same_116 : decode prog_14_method_34_code 116 = .ok (.getfield 110, 3) := by decide +kernel
theorem d_M_same_119 : decode prog_14_method_34_code 119 = .ok (.sipush 30076, 3) := by decide +kernel
theorem d_M_same_122 : decode prog_14_method_34_code 122 = .ok (.laload, 1) := by decide +kernel
theorem d_M_same_123 : decode prog_14_method_34_code 123 = .ok (.invokestatic 166, 3) := by decide +kernel
theorem d_M_same_126 : decode prog_14_method_34_code 126 = .ok (.lastore, 1) := by decide +kernel
theorem d_M_same_127 : decode prog_14_method_34_code 127 = .ok (.aload_n 0, 1) := by decide +kernel
theorem d_M_same_128 : decode prog_14_method_34_code 128 = .ok (.getfield 113, 3) := by decide +kernel
theorem d_M_same_131 : decode prog_14_method_34_code 131 = .ok (.sipush 30075, 3) := by decide +kernel
theorem d_M_same_134 : decode prog_14_method_34_code 134 = .ok (.aload_n 0, 1) := by decide +kernel
theorem d_M_same_135 : decode prog_14_method_34_code 135 = .ok (.getfield 113, 3) := by decide +kernel
theorem d_M_same_138 : decode prog_14_method_34_code 138 = .ok (.sipush 30075, 3) := by decide +kernel
theorem d_M_same_141 : decode prog_14_method_34_code 141 = .ok (.laload, 1) := by decide +kernel
theorem d_M_same_142 : decode prog_14_method_34_code 142 = .ok (.aload_n 0, 1) := by decide +kernel
theorem d_M_same_143 : decode prog_14_method_34_code 143 = .ok (.getfield 113, 3) := by decide +kernel
theorem d_M_same_146 : decode prog_14_method_34_code 146 = .ok (.sipush 30076, 3) := by decide +kernel
theorem d_M_same_149 : decode prog_14_method_34_code 149 = .ok (.laload, 1) := by decide +kernel
theorem d_M_same_150 : decode prog_14_method_34_code 150 = .ok (.invokestatic 170, 3) := by decide +kernel
theorem d_M_same_153 : decode prog_14_method_34_code 153 = .ok (.lastore, 1) := by decide +kernel
theorem d_M_same_154 : decode prog_14_method_34_code 154 = .ok (.aload_n 0, 1) := by decide +kernel
theorem d_M_same_155 : decode prog_14_method_34_code 155 = .ok (.getfield 116, 3) := by decide +kernel
theorem d_M_same_158 : decode prog_14_method_34_code 158 = .ok (.sipush 30075, 3) := by decide +kernel
theorem d_M_same_161 : decode prog_14_method_34_code 161 = .ok (.aload_n 0, 1) := by decide +kernel
theorem d_M_same_162 : decode prog_14_method_34_code 162 = .ok (.getfield 116, 3) := by decide +kernel
theorem d_M_same_165 : decode prog_14_method_34_code 165 = .ok (.sipush 30075, 3) := by decide +kernel
theorem d_M_same_168 : decode prog_14_method_34_code 168 = .ok (.laload, 1) := by decide +kernel
theorem d_M_same_169 : decode prog_14_method_34_code 169 = .ok (.aload_n 0, 1) := by decide +kernel
theorem d_M_same_170 : decode prog_14_method_34_code 170 = .ok (.getfield 116, 3) := by decide +kernel
theorem d_M_same_173 : decode prog_14_method_34_code 173 = .ok (.sipush 30076, 3) := by decide +kernel
theorem d_M_same_176 : decode prog_14_method_34_code 176 = .ok (.laload, 1) := by decide +kernel
theorem d_M_same_177 : decode prog_14_method_34_code 177 = .ok (.lcmp, 1) := by decide +kernel
theorem d_M_same_178 : decode prog_14_method_34_code 178 = .ok (.ifCond .le 14, 3) := by decide +kernel
theorem d_M_same_192 : decode prog_14_method_34_code 192 = .ok (.aload_n 0, 1) := by decide +kernel
theorem d_M_same_193 : decode prog_14_method_34_code 193 = .ok (.getfield 116, 3) := by decide +kernel
theorem d_M_same_196 : decode prog_14_method_34_code 196 = .ok (.sipush 30076, 3) := by decide +kernel
theorem d_M_same_199 : decode prog_14_method_34_code 199 = .ok (.laload, 1) := by decide +kernel
theorem d_M_same_181 : decode prog_14_method_34_code 181 = .ok (.aload_n 0, 1) := by decide +kernel
theorem d_M_same_182 : decode prog_14_method_34_code 182 = .ok (.getfield 116, 3) := by decide +kernel
theorem d_M_same_185 : decode prog_14_method_34_code 185 = .ok (.sipush 30075, 3) := by decide +kernel
theorem d_M_same_188 : decode prog_14_method_34_code 188 = .ok (.laload, 1) := by decide +kernel
theorem d_M_same_189 : decode prog_14_method_34_code 189 = .ok (.goto 11, 3) := by decide +kernel
theorem d_M_same_48 : decode prog_14_method_34_code 48 = .ok (.iconst 0, 1) := by decide +kernel
theorem d_M_same_49 : decode prog_14_method_34_code 49 = .ok (.ireturn, 1) := by decide +kernel
abbrev y_M_same : MethodName := ⟨"FilterGuardModel", "same", "()Z"⟩
def f_M_same_b200 (j0 : Nat) (M : me_M) (s0 : Int64) (s1 : Int32) (s2 : Nat) : Option (me_M × Int32) := gd (¬ (s1 < 0 ∨ mZ M 16 s2 ≤ s1.toNatClampNeg)) (st (wL M 16 s2 s1.toNatClampNeg s0) (fun (M2 : me_M) => bd (mR M 1 j0 57) (fun (j3 : Nat) => gd (30075 < mZ M 16 j3) (gd (30076 < mZ M 16 j3) ((if (mL M2 16 j3 30075) < (mL M2 16 j3 30076) then st (wL M2 16 j3 30075 (mL M2 16 j3 30075)) (fun (M11 : me_M) => bd (f_M_copyNumber M11 j0 (30075 : Int32) (30076 : Int32)) (fun (M12 : me_M) => some (M12, (1 : Int32)))) else st (wL M2 16 j3 30075 (mL M2 16 j3 30076)) (fun (M8 : me_M) => bd (f_M_copyNumber M8 j0 (30075 : Int32) (30076 : Int32)) (fun (M9 : me_M) => some (M9, (1 : Int32))))))))))
def f_M_same (M0 : me_M) (j0 : Nat) : Option (me_M × Int32) := bd (mR M0 1 j0 52) (fun (j14 : Nat) => gd (30075 < mZ M0 16 j14) (gd (30076 < mZ M0 16 j14) (bd (mR M0 1 j0 53) (fun (j18 : Nat) => gd (30075 < mZ M0 16 j18) (st (((mL M0 16 j14 30075) ^^^ (mL M0 16 j14 30076)) &&& ((mL M0 16 j18 30075) ^^^ (-1))) (fun (v21 : Int64) => gd (30076 < mZ M0 16 j18) ((if (v21 &&& ((mL M0 16 j18 30076) ^^^ (-1))) = 0 then st (wL M0 16 j14 30075 ((mL M0 16 j14 30075) ||| (mL M0 16 j14 30076))) (fun (M24 : me_M) => st (wL M24 16 j18 30075 ((mL M24 16 j18 30075) &&& (mL M24 16 j18 30076))) (fun (M25 : me_M) => bd (mR M0 1 j0 54) (fun (j26 : Nat) => gd (30075 < mZ M0 16 j26) (gd (30076 < mZ M0 16 j26) (bd (f_M_greater (mL M25 16 j26 30075) (mL M25 16 j26 30076)) (fun (r30 : Int64) => st (wL M25 16 j26 30075 r30) (fun (M31 : me_M) => bd (mR M0 1 j0 55) (fun (j32 : Nat) => gd (30075 < mZ M0 16 j32) (gd (30076 < mZ M0 16 j32) (bd (f_M_lesser (mL M31 16 j32 30075) (mL M31 16 j32 30076)) (fun (r36 : Int64) => st (wL M31 16 j32 30075 r36) (fun (M37 : me_M) => bd (mR M0 1 j0 56) (fun (j38 : Nat) => gd (30075 < mZ M0 16 j38) (gd (30076 < mZ M0 16 j38) ((if (mL M37 16 j38 30076) < (mL M37 16 j38 30075) then f_M_same_b200 j0 M37 (mL M37 16 j38 30075) (30075 : Int32) j38 else f_M_same_b200 j0 M37 (mL M37 16 j38 30076) (30075 : Int32) j38)))))))))))))))) else some (M0, (0 : Int32))))))))))
def rm_M_same : Room := { frames := 3, cells := 0, slots := 0, locals := 66 }
abbrev q_M_same (D : va_G) (ad : Nat → Nat → Nat) (ca : Nat → ClassId) (N : Nat → Nat) (M0 MZ : me_M) (RZ : Int32) (A : Nat → Prop) : Array Value → Jvm.State → Outcome → Jvm.State → Prop := va_Qi (fun r (_ : Unit) => r = RZ ∧ me_wf N MZ ∧ me_kp M0 MZ ∧ (RZ = 1 ∨ RZ = 0)) (fg_B D A (fun _ => me_W ad ca MZ) (fun _ => [])) A
set_option maxHeartbeats 4000000 in
set_option maxRecDepth 100000 in
theorem c_M_same (l : Launch) (D : va_G) (ad : Nat → Nat → Nat) (ca : Nat → ClassId) (N : Nat → Nat) (M0 MZ : me_M) (RZ : Int32) (j0 : Nat) (h : f_M_same M0 j0 = (some (MZ, RZ))) (hwf : me_wf N M0) (hj0 : j0 < N 1) (sz : Nat) : Met l y_M_same (fg_w y_M_same prog_14_method_34_code 1 (some .boolean)) rm_M_same (va_Pc [.ref (ad 1 j0)] (fz_P D (me_T ca) (me_W ad ca M0) sz)) (q_M_same D ad ca N M0 MZ RZ (va_A (me_W ad ca M0) sz)) rm_M_same.cells rm_M_same.slots (va_A (me_W ad ca M0) sz) := by
  refine fz_enter (fun A => q_M_same D ad ca N M0 MZ RZ A) (by decide +kernel) (Nat.le_of_ble_eq_true rfl) ?_
  intro p e s m below meth c ls A hx hb hml hown hts hr hlocks hin hP hK hD hS hA hX hl hz
  have hl : lv_has ls 1 [(0, .ref (ad 1 j0))] := hl
  unfold f_M_same at h
  have hkp : me_kp M0 M0 := me_kp.rf
  have hkb := hkp
  have b_200 : ∀ (M : me_M) (s0 : Int64) (s1 : Int32) (s2 : Nat) (H : Heap) (locs : List Loc) (ls : Array Slot), f_M_same_b200 j0 M s0 s1 s2 = (some (MZ, RZ)) → (s2 < N 16) → me_wf N M → me_kp M0 M → va_P D classes (me_W ad ca M) H → va_D A (me_W ad ca M) → va_S A s.heap H locs → lv_has ls 1 [(0, .ref (ad 1 j0))] → W p l e rm_M_same s m [.ref (ad 1 j0)].toArray below meth c H locs 0 0 (MQ below (q_M_same D ad ca N M0 MZ RZ A) [.ref (ad 1 j0)].toArray s rm_M_same.cells rm_M_same.slots A) (F0 m 200 ls [.long s0, .int s1, .ref (ad 16 s2)]) := by
    intro M s0 s1 s2 H locs ls h hs2 hwf hkp hP hD hS hl
    unfold f_M_same_b200 at h
    have hkb := hkp
    obtain ⟨g1, h⟩ := gd_ob h
    obtain ⟨M2, eM2, h⟩ := st_ob h
    refine me_last eM2 hx hb hK hP hD hwf hS hs2 g1 d_M_same_200 (fun H locs hP hD hwf hS => ?_)
    have hkp := kp_L eM2 hkp
    refine lv_aload_n hx hb d_M_same_201 rfl (lv_at hl 0 rfl) ?_
    refine g_M_57 hx hb hts hown hK hP hwf hj0 (hts _ u_1798) d_M_same_202 ?_
    obtain ⟨j3, e4, h⟩ := bd_ob h
    have hj3 : j3 < N 16 := (hwf.2.1 1 j0 57 _ (kp_r hkb hkp e4) (by decide) hj0)
    refine me_opt (j := j3) (kp_r hkb hkp e4) ?_
    refine lv_sipush (v := 30075) hx hb d_M_same_205 (by decide) ?_
    refine lv_aload_n hx hb d_M_same_208 rfl (lv_at hl 0 rfl) ?_
    refine g_M_57 hx hb hts hown hK hP hwf hj0 (hts _ u_1798) d_M_same_209 ?_
    refine me_opt (j := j3) (kp_r hkb hkp e4) ?_
    refine lv_sipush (v := 30075) hx hb d_M_same_212 (by decide) ?_
    obtain ⟨g5, h⟩ := gd_ob h
    refine me_lald hx hb hK hP hwf hj3 (me_in (i := (30075 : Int32)) (k := 30075) (by decide) (by decide) (kp_c hkb.z hkp.z g5)) d_M_same_215 ?_
    refine fg_topl (y := mL M2 16 j3 30075) (congrArg _ (by decide)) ?_
    refine lv_aload_n hx hb d_M_same_216 rfl (lv_at hl 0 rfl) ?_
    refine g_M_57 hx hb hts hown hK hP hwf hj0 (hts _ u_1798) d_M_same_217 ?_
    refine me_opt (j := j3) (kp_r hkb hkp e4) ?_
    refine lv_sipush (v := 30076) hx hb d_M_same_220 (by decide) ?_
    obtain ⟨g6, h⟩ := gd_ob h
    refine me_lald hx hb hK hP hwf hj3 (me_in (i := (30076 : Int32)) (k := 30076) (by decide) (by decide) (kp_c hkb.z hkp.z g6)) d_M_same_223 ?_
    refine fg_topl (y := mL M2 16 j3 30076) (congrArg _ (by decide)) ?_
    refine W.lcmp hx hb d_M_same_224 ?_
    refine lv_if_ge (tgt := 239) hx hb d_M_same_225 (by decide) (fun c7 => ?_) (fun c7 => ?_)
    · have h := if_f (Int64.not_lt.mpr ((lg_cmp_ge _ _).mp c7)) h
      refine lv_aload_n hx hb d_M_same_239 rfl (lv_at hl 0 rfl) ?_
      refine g_M_57 hx hb hts hown hK hP hwf hj0 (hts _ u_1798) d_M_same_240 ?_
      refine me_opt (j := j3) (kp_r hkb hkp e4) ?_
      refine lv_sipush (v := 30076) hx hb d_M_same_243 (by decide) ?_
      refine me_lald hx hb hK hP hwf hj3 (me_in (i := (30076 : Int32)) (k := 30076) (by decide) (by decide) (kp_c hkb.z hkp.z g6)) d_M_same_246 ?_
      refine fg_topl (y := mL M2 16 j3 30076) (congrArg _ (by decide)) ?_
      obtain ⟨M8, eM8, h⟩ := st_ob h
      refine me_last (eM8.trans (by rw [show (30075 : Int32).toNatClampNeg = 30075 by decide])) hx hb hK hP hD hwf hS hj3 (me_in (i := (30075 : Int32)) (k := 30075) (by decide) (by decide) (kp_c hkb.z hkp.z g5)) d_M_same_247 (fun H locs hP hD hwf hS => ?_)
      have hkp := kp_L eM8 hkp
      refine lv_aload_n hx hb d_M_same_248 rfl (lv_at hl 0 rfl) ?_
      refine lv_sipush (v := 30075) hx hb d_M_same_249 (by decide) ?_
      refine lv_sipush (v := 30076) hx hb d_M_same_252 (by decide) ?_
      obtain ⟨M9, eM9, h⟩ := bd_ob h
      refine me_thenv0 (M1 := M9) (me_runV (C := "FilterGuardModel") (As := [.int 30075, .int 30076]) (rest := []) ⟨hx, hb, hml, hown, hts⟩ (c_M_copyNumber l D ad ca N M8 M9 j0 (30075 : Int32) (30076 : Int32) eM9 hwf hj0 _) rfl (by show fg_nm y_M_copyNumber 2; decide +kernel) u_2096 u_2098 u_103 u_192 u_2099 ⟨Nat.le_of_ble_eq_true rfl, Nat.le_of_ble_eq_true rfl⟩ hX hz hK hP hD hwf hS hA hj0 (by decide) rfl rfl rfl hl.1 (Nat.le_of_ble_eq_true rfl) d_M_same_255 ⟨Nat.le_of_ble_eq_true rfl, Nat.le_of_ble_eq_true rfl⟩) hP hD hK hS hA rfl rfl (fun H locs hw hP hD hS => ?_)
      obtain ⟨hwf, hk9⟩ := hw
      have hkp := hkp.tr hk9
      refine lv_iconst (v := 1) hx hb d_M_same_258 (by decide) ?_
      have z10 : (1 : Int32) = 1 ∨ (1 : Int32) = 0 := (by decide)
      cases h
      exact fg_retz () hx hb hr hlocks (me_nz z10) ⟨rfl, ⟨hwf, hkp, z10⟩⟩ hP (hK.sub (tys' := []) [] rfl) hD hS (Nat.le_of_ble_eq_true rfl) (Nat.le_of_ble_eq_true rfl) d_M_same_259
    have h := if_t (Int64.not_le.mp (fun z => c7 ((lg_cmp_ge _ _).mpr z))) h
    refine lv_aload_n hx hb d_M_same_228 rfl (lv_at hl 0 rfl) ?_
    refine g_M_57 hx hb hts hown hK hP hwf hj0 (hts _ u_1798) d_M_same_229 ?_
    refine me_opt (j := j3) (kp_r hkb hkp e4) ?_
    refine lv_sipush (v := 30075) hx hb d_M_same_232 (by decide) ?_
    refine me_lald hx hb hK hP hwf hj3 (me_in (i := (30075 : Int32)) (k := 30075) (by decide) (by decide) (kp_c hkb.z hkp.z g5)) d_M_same_235 ?_
    refine fg_topl (y := mL M2 16 j3 30075) (congrArg _ (by decide)) ?_
    refine lv_goto (tgt := 247) hx hb d_M_same_236 (by decide) ?_
    obtain ⟨M11, eM11, h⟩ := st_ob h
    refine me_last (eM11.trans (by rw [show (30075 : Int32).toNatClampNeg = 30075 by decide])) hx hb hK hP hD hwf hS hj3 (me_in (i := (30075 : Int32)) (k := 30075) (by decide) (by decide) (kp_c hkb.z hkp.z g5)) d_M_same_247 (fun H locs hP hD hwf hS => ?_)
    have hkp := kp_L eM11 hkp
    refine lv_aload_n hx hb d_M_same_248 rfl (lv_at hl 0 rfl) ?_
    refine lv_sipush (v := 30075) hx hb d_M_same_249 (by decide) ?_
    refine lv_sipush (v := 30076) hx hb d_M_same_252 (by decide) ?_
    obtain ⟨M12, eM12, h⟩ := bd_ob h
    refine me_thenv0 (M1 := M12) (me_runV (C := "FilterGuardModel") (As := [.int 30075, .int 30076]) (rest := []) ⟨hx, hb, hml, hown, hts⟩ (c_M_copyNumber l D ad ca N M11 M12 j0 (30075 : Int32) (30076 : Int32) eM12 hwf hj0 _) rfl (by show fg_nm y_M_copyNumber 2; decide +kernel) u_2096 u_2098 u_103 u_192 u_2099 ⟨Nat.le_of_ble_eq_true rfl, Nat.le_of_ble_eq_true rfl⟩ hX hz hK hP hD hwf hS hA hj0 (by decide) rfl rfl rfl hl.1 (Nat.le_of_ble_eq_true rfl) d_M_same_255 ⟨Nat.le_of_ble_eq_true rfl, Nat.le_of_ble_eq_true rfl⟩) hP hD hK hS hA rfl rfl (fun H locs hw hP hD hS => ?_)
    obtain ⟨hwf, hk9⟩ := hw
    have hkp := hkp.tr hk9
    refine lv_iconst (v := 1) hx hb d_M_same_258 (by decide) ?_
    have z13 : (1 : Int32) = 1 ∨ (1 : Int32) = 0 := (by decide)
    cases h
    exact fg_retz () hx hb hr hlocks (me_nz z13) ⟨rfl, ⟨hwf, hkp, z13⟩⟩ hP (hK.sub (tys' := []) [] rfl) hD hS (Nat.le_of_ble_eq_true rfl) (Nat.le_of_ble_eq_true rfl) d_M_same_259
  refine lv_aload_n hx hb d_M_same_0 rfl (lv_at hl 0 rfl) ?_
  refine g_M_52 hx hb hts hown hK hP hwf hj0 (hts _ u_1793) d_M_same_1 ?_
  obtain ⟨j14, e15, h⟩ := bd_ob h
  have hj14 : j14 < N 16 := (hwf.2.1 1 j0 52 _ e15 (by decide) hj0)
  refine me_opt (j := j14) e15 ?_
  refine lv_sipush (v := 30075) hx hb d_M_same_4 (by decide) ?_
  obtain ⟨g16, h⟩ := gd_ob h
  refine me_lald hx hb hK hP hwf hj14 (me_in (i := (30075 : Int32)) (k := 30075) (by decide) (by decide) g16) d_M_same_7 ?_
  refine fg_topl (y := mL M0 16 j14 30075) (congrArg _ (by decide)) ?_
  refine lv_aload_n hx hb d_M_same_8 rfl (lv_at hl 0 rfl) ?_
  refine g_M_52 hx hb hts hown hK hP hwf hj0 (hts _ u_1793) d_M_same_9 ?_
  refine me_opt (j := j14) e15 ?_
  refine lv_sipush (v := 30076) hx hb d_M_same_12 (by decide) ?_
  obtain ⟨g17, h⟩ := gd_ob h
  refine me_lald hx hb hK hP hwf hj14 (me_in (i := (30076 : Int32)) (k := 30076) (by decide) (by decide) g17) d_M_same_15 ?_
  refine fg_topl (y := mL M0 16 j14 30076) (congrArg _ (by decide)) ?_
  refine lv_lxor hx hb d_M_same_16 ?_
  refine lv_aload_n hx hb d_M_same_17 rfl (lv_at hl 0 rfl) ?_
  refine g_M_53 hx hb hts hown hK hP hwf hj0 (hts _ u_1794) d_M_same_18 ?_
  obtain ⟨j18, e19, h⟩ := bd_ob h
  have hj18 : j18 < N 16 := (hwf.2.1 1 j0 53 _ e19 (by decide) hj0)
  refine me_opt (j := j18) e19 ?_
  refine lv_sipush (v := 30075) hx hb d_M_same_21 (by decide) ?_
  obtain ⟨g20, h⟩ := gd_ob h
  refine me_lald hx hb hK hP hwf hj18 (me_in (i := (30075 : Int32)) (k := 30075) (by decide) (by decide) g20) d_M_same_24 ?_
  refine fg_topl (y := mL M0 16 j18 30075) (congrArg _ (by decide)) ?_
  refine lv_ldc2 hx hb hown (hts _ u_2071) d_M_same_25 ?_
  refine lv_lxor hx hb d_M_same_28 ?_
  refine lv_land hx hb d_M_same_29 ?_
  obtain ⟨v21, ev21, h⟩ := st_ob h
  refine fg_topl (y := v21) ev21.symm ?_
  refine lv_aload_n hx hb d_M_same_30 rfl (lv_at hl 0 rfl) ?_
  refine g_M_53 hx hb hts hown hK hP hwf hj0 (hts _ u_1794) d_M_same_31 ?_
  refine me_opt (j := j18) e19 ?_
  refine lv_sipush (v := 30076) hx hb d_M_same_34 (by decide) ?_
  obtain ⟨g22, h⟩ := gd_ob h
  refine me_lald hx hb hK hP hwf hj18 (me_in (i := (30076 : Int32)) (k := 30076) (by decide) (by decide) g22) d_M_same_37 ?_
  refine fg_topl (y := mL M0 16 j18 30076) (congrArg _ (by decide)) ?_
  refine lv_ldc2 hx hb hown (hts _ u_2071) d_M_same_38 ?_
  refine lv_lxor hx hb d_M_same_41 ?_
  refine lv_land hx hb d_M_same_42 ?_
  refine lv_lconst (v := 0) hx hb d_M_same_43 (by decide) ?_
  refine W.lcmp hx hb d_M_same_44 ?_
  refine lv_if_eq (tgt := 50) hx hb d_M_same_45 (by decide) (fun c23 => ?_) (fun c23 => ?_)
  · have h := if_t ((lg_cmp_eq _ _).mp c23) h
    refine lv_aload_n hx hb d_M_same_50 rfl (lv_at hl 0 rfl) ?_
    refine g_M_52 hx hb hts hown hK hP hwf hj0 (hts _ u_1793) d_M_same_51 ?_
    refine me_opt (j := j14) e15 ?_
    refine lv_sipush (v := 30075) hx hb d_M_same_54 (by decide) ?_
    refine lv_aload_n hx hb d_M_same_57 rfl (lv_at hl 0 rfl) ?_
    refine g_M_52 hx hb hts hown hK hP hwf hj0 (hts _ u_1793) d_M_same_58 ?_
    refine me_opt (j := j14) e15 ?_
    refine lv_sipush (v := 30075) hx hb d_M_same_61 (by decide) ?_
    refine me_lald hx hb hK hP hwf hj14 (me_in (i := (30075 : Int32)) (k := 30075) (by decide) (by decide) g16) d_M_same_64 ?_
    refine fg_topl (y := mL M0 16 j14 30075) (congrArg _ (by decide)) ?_
    refine lv_aload_n hx hb d_M_same_65 rfl (lv_at hl 0 rfl) ?_
    refine g_M_52 hx hb hts hown hK hP hwf hj0 (hts _ u_1793) d_M_same_66 ?_
    refine me_opt (j := j14) e15 ?_
    refine lv_sipush (v := 30076) hx hb d_M_same_69 (by decide) ?_
    refine me_lald hx hb hK hP hwf hj14 (me_in (i := (30076 : Int32)) (k := 30076) (by decide) (by decide) g17) d_M_same_72 ?_
    refine fg_topl (y := mL M0 16 j14 30076) (congrArg _ (by decide)) ?_
    refine lv_lor hx hb d_M_same_73 ?_
    obtain ⟨M24, eM24, h⟩ := st_ob h
    refine me_last (eM24.trans (by rw [show (30075 : Int32).toNatClampNeg = 30075 by decide])) hx hb hK hP hD hwf hS hj14 (me_in (i := (30075 : Int32)) (k := 30075) (by decide) (by decide) g16) d_M_same_74 (fun H locs hP hD hwf hS => ?_)
    have hkp := kp_L eM24 hkp
    refine lv_aload_n hx hb d_M_same_75 rfl (lv_at hl 0 rfl) ?_
    refine g_M_53 hx hb hts hown hK hP hwf hj0 (hts _ u_1794) d_M_same_76 ?_
    refine me_opt (j := j18) (kp_r hkb hkp e19) ?_
    refine lv_sipush (v := 30075) hx hb d_M_same_79 (by decide) ?_
    refine lv_aload_n hx hb d_M_same_82 rfl (lv_at hl 0 rfl) ?_
    refine g_M_53 hx hb hts hown hK hP hwf hj0 (hts _ u_1794) d_M_same_83 ?_
    refine me_opt (j := j18) (kp_r hkb hkp e19) ?_
    refine lv_sipush (v := 30075) hx hb d_M_same_86 (by decide) ?_
    refine me_lald hx hb hK hP hwf hj18 (me_in (i := (30075 : Int32)) (k := 30075) (by decide) (by decide) (kp_c hkb.z hkp.z g20)) d_M_same_89 ?_
    refine fg_topl (y := mL M24 16 j18 30075) (congrArg _ (by decide)) ?_
    refine lv_aload_n hx hb d_M_same_90 rfl (lv_at hl 0 rfl) ?_
    refine g_M_53 hx hb hts hown hK hP hwf hj0 (hts _ u_1794) d_M_same_91 ?_
    refine me_opt (j := j18) (kp_r hkb hkp e19) ?_
    refine lv_sipush (v := 30076) hx hb d_M_same_94 (by decide) ?_
    refine me_lald hx hb hK hP hwf hj18 (me_in (i := (30076 : Int32)) (k := 30076) (by decide) (by decide) (kp_c hkb.z hkp.z g22)) d_M_same_97 ?_
    refine fg_topl (y := mL M24 16 j18 30076) (congrArg _ (by decide)) ?_
    refine lv_land hx hb d_M_same_98 ?_
    obtain ⟨M25, eM25, h⟩ := st_ob h
    refine me_last (eM25.trans (by rw [show (30075 : Int32).toNatClampNeg = 30075 by decide])) hx hb hK hP hD hwf hS hj18 (me_in (i := (30075 : Int32)) (k := 30075) (by decide) (by decide) (kp_c hkb.z hkp.z g20)) d_M_same_99 (fun H locs hP hD hwf hS => ?_)
    have hkp := kp_L eM25 hkp
    refine lv_aload_n hx hb d_M_same_100 rfl (lv_at hl 0 rfl) ?_
    refine g_M_54 hx hb hts hown hK hP hwf hj0 (hts _ u_1795) d_M_same_101 ?_
    obtain ⟨j26, e27, h⟩ := bd_ob h
    have hj26 : j26 < N 16 := (hwf.2.1 1 j0 54 _ (kp_r hkb hkp e27) (by decide) hj0)
    refine me_opt (j := j26) (kp_r hkb hkp e27) ?_
    refine lv_sipush (v := 30075) hx hb d_M_same_104 (by decide) ?_
    refine lv_aload_n hx hb d_M_same_107 rfl (lv_at hl 0 rfl) ?_
    refine g_M_54 hx hb hts hown hK hP hwf hj0 (hts _ u_1795) d_M_same_108 ?_
    refine me_opt (j := j26) (kp_r hkb hkp e27) ?_
    refine lv_sipush (v := 30075) hx hb d_M_same_111 (by decide) ?_
    obtain ⟨g28, h⟩ := gd_ob h
    refine me_lald hx hb hK hP hwf hj26 (me_in (i := (30075 : Int32)) (k := 30075) (by decide) (by decide) (kp_c hkb.z hkp.z g28)) d_M_same_114 ?_
    refine fg_topl (y := mL M25 16 j26 30075) (congrArg _ (by decide)) ?_
    refine lv_aload_n hx hb d_M_same_115 rfl (lv_at hl 0 rfl) ?_
    refine g_M_54 hx hb hts hown hK hP hwf hj0 (hts _ u_1795) d_M_same_116 ?_
    refine me_opt (j := j26) (kp_r hkb hkp e27) ?_
    refine lv_sipush (v := 30076) hx hb d_M_same_119 (by decide) ?_
    obtain ⟨g29, h⟩ := gd_ob h
    refine me_lald hx hb hK hP hwf hj26 (me_in (i := (30076 : Int32)) (k := 30076) (by decide) (by decide) (kp_c hkb.z hkp.z g29)) d_M_same_122 ?_
    refine fg_topl (y := mL M25 16 j26 30076) (congrArg _ (by decide)) ?_
    obtain ⟨r30, er30, h⟩ := bd_ob h
    refine me_panl' (r0 := r30) (fg_runS (wc := []) (tc := []) (A2 := A) (As := [.long (mL M25 16 j26 30075), .long (mL M25 16 j26 30076)]) (rest := [.int 30075, .ref (ad 16 j26)]) ⟨hx, hb, hml, hown, hts⟩ (c_M_greater l D r30 (mL M25 16 j26 30075) (mL M25 16 j26 30076) er30 _) (by show fg_nm y_M_greater 2; decide +kernel) u_2151 u_2152 u_192 u_2153 ⟨Nat.le_of_ble_eq_true rfl, Nat.le_of_ble_eq_true rfl⟩ hX me_P0 (hK.sub (tys' := []) [] rfl) me_D0 rfl hl.1 (Nat.le_of_ble_eq_true rfl) d_M_same_123 ⟨Nat.le_of_ble_eq_true rfl, Nat.le_of_ble_eq_true rfl⟩) hP hD hK hS hA rfl rfl (fun H locs hw hP hD hS => ?_)
    obtain ⟨M31, eM31, h⟩ := st_ob h
    refine me_last (eM31.trans (by rw [show (30075 : Int32).toNatClampNeg = 30075 by decide])) hx hb hK hP hD hwf hS hj26 (me_in (i := (30075 : Int32)) (k := 30075) (by decide) (by decide) (kp_c hkb.z hkp.z g28)) d_M_same_126 (fun H locs hP hD hwf hS => ?_)
    have hkp := kp_L eM31 hkp
    refine lv_aload_n hx hb d_M_same_127 rfl (lv_at hl 0 rfl) ?_
    refine g_M_55 hx hb hts hown hK hP hwf hj0 (hts _ u_1796) d_M_same_128 ?_
    obtain ⟨j32, e33, h⟩ := bd_ob h
    have hj32 : j32 < N 16 := (hwf.2.1 1 j0 55 _ (kp_r hkb hkp e33) (by decide) hj0)
    refine me_opt (j := j32) (kp_r hkb hkp e33) ?_
    refine lv_sipush (v := 30075) hx hb d_M_same_131 (by decide) ?_
    refine lv_aload_n hx hb d_M_same_134 rfl (lv_at hl 0 rfl) ?_
    refine g_M_55 hx hb hts hown hK hP hwf hj0 (hts _ u_1796) d_M_same_135 ?_
    refine me_opt (j := j32) (kp_r hkb hkp e33) ?_
    refine lv_sipush (v := 30075) hx hb d_M_same_138 (by decide) ?_
    obtain ⟨g34, h⟩ := gd_ob h
    refine me_lald hx hb hK hP hwf hj32 (me_in (i := (30075 : Int32)) (k := 30075) (by decide) (by decide) (kp_c hkb.z hkp.z g34)) d_M_same_141 ?_
    refine fg_topl (y := mL M31 16 j32 30075) (congrArg _ (by decide)) ?_
    refine lv_aload_n hx hb d_M_same_142 rfl (lv_at hl 0 rfl) ?_
    refine g_M_55 hx hb hts hown hK hP hwf hj0 (hts _ u_1796) d_M_same_143 ?_
    refine me_opt (j := j32) (kp_r hkb hkp e33) ?_
    refine lv_sipush (v := 30076) hx hb d_M_same_146 (by decide) ?_
    obtain ⟨g35, h⟩ := gd_ob h
    refine me_lald hx hb hK hP hwf hj32 (me_in (i := (30076 : Int32)) (k := 30076) (by decide) (by decide) (kp_c hkb.z hkp.z g35)) d_M_same_149 ?_
    refine fg_topl (y := mL M31 16 j32 30076) (congrArg _ (by decide)) ?_
    obtain ⟨r36, er36, h⟩ := bd_ob h
    refine me_panl' (r0 := r36) (fg_runS (wc := []) (tc := []) (A2 := A) (As := [.long (mL M31 16 j32 30075), .long (mL M31 16 j32 30076)]) (rest := [.int 30075, .ref (ad 16 j32)]) ⟨hx, hb, hml, hown, hts⟩ (c_M_lesser l D r36 (mL M31 16 j32 30075) (mL M31 16 j32 30076) er36 _) (by show fg_nm y_M_lesser 2; decide +kernel) u_2154 u_2155 u_192 u_2156 ⟨Nat.le_of_ble_eq_true rfl, Nat.le_of_ble_eq_true rfl⟩ hX me_P0 (hK.sub (tys' := []) [] rfl) me_D0 rfl hl.1 (Nat.le_of_ble_eq_true rfl) d_M_same_150 ⟨Nat.le_of_ble_eq_true rfl, Nat.le_of_ble_eq_true rfl⟩) hP hD hK hS hA rfl rfl (fun H locs hw hP hD hS => ?_)
    obtain ⟨M37, eM37, h⟩ := st_ob h
    refine me_last (eM37.trans (by rw [show (30075 : Int32).toNatClampNeg = 30075 by decide])) hx hb hK hP hD hwf hS hj32 (me_in (i := (30075 : Int32)) (k := 30075) (by decide) (by decide) (kp_c hkb.z hkp.z g34)) d_M_same_153 (fun H locs hP hD hwf hS => ?_)
    have hkp := kp_L eM37 hkp
    refine lv_aload_n hx hb d_M_same_154 rfl (lv_at hl 0 rfl) ?_
    refine g_M_56 hx hb hts hown hK hP hwf hj0 (hts _ u_1797) d_M_same_155 ?_
    obtain ⟨j38, e39, h⟩ := bd_ob h
    have hj38 : j38 < N 16 := (hwf.2.1 1 j0 56 _ (kp_r hkb hkp e39) (by decide) hj0)
    refine me_opt (j := j38) (kp_r hkb hkp e39) ?_
    refine lv_sipush (v := 30075) hx hb d_M_same_158 (by decide) ?_
    refine lv_aload_n hx hb d_M_same_161 rfl (lv_at hl 0 rfl) ?_
    refine g_M_56 hx hb hts hown hK hP hwf hj0 (hts _ u_1797) d_M_same_162 ?_
    refine me_opt (j := j38) (kp_r hkb hkp e39) ?_
    refine lv_sipush (v := 30075) hx hb d_M_same_165 (by decide) ?_
    obtain ⟨g40, h⟩ := gd_ob h
    refine me_lald hx hb hK hP hwf hj38 (me_in (i := (30075 : Int32)) (k := 30075) (by decide) (by decide) (kp_c hkb.z hkp.z g40)) d_M_same_168 ?_
    refine fg_topl (y := mL M37 16 j38 30075) (congrArg _ (by decide)) ?_
    refine lv_aload_n hx hb d_M_same_169 rfl (lv_at hl 0 rfl) ?_
    refine g_M_56 hx hb hts hown hK hP hwf hj0 (hts _ u_1797) d_M_same_170 ?_
    refine me_opt (j := j38) (kp_r hkb hkp e39) ?_
    refine lv_sipush (v := 30076) hx hb d_M_same_173 (by decide) ?_
    obtain ⟨g41, h⟩ := gd_ob h
    refine me_lald hx hb hK hP hwf hj38 (me_in (i := (30076 : Int32)) (k := 30076) (by decide) (by decide) (kp_c hkb.z hkp.z g41)) d_M_same_176 ?_
    refine fg_topl (y := mL M37 16 j38 30076) (congrArg _ (by decide)) ?_
    refine W.lcmp hx hb d_M_same_177 ?_
    refine lv_if_le (tgt := 192) hx hb d_M_same_178 (by decide) (fun c42 => ?_) (fun c42 => ?_)
    · have h := if_f (Int64.not_lt.mpr ((lg_cmp_le _ _).mp c42)) h
      refine lv_aload_n hx hb d_M_same_192 rfl (lv_at hl 0 rfl) ?_
      refine g_M_56 hx hb hts hown hK hP hwf hj0 (hts _ u_1797) d_M_same_193 ?_
      refine me_opt (j := j38) (kp_r hkb hkp e39) ?_
      refine lv_sipush (v := 30076) hx hb d_M_same_196 (by decide) ?_
      refine me_lald hx hb hK hP hwf hj38 (me_in (i := (30076 : Int32)) (k := 30076) (by decide) (by decide) (kp_c hkb.z hkp.z g41)) d_M_same_199 ?_
      refine fg_topl (y := mL M37 16 j38 30076) (congrArg _ (by decide)) ?_
      exact b_200 M37 (mL M37 16 j38 30076) (30075 : Int32) j38 _ _ _ h hj38 hwf hkp hP hD hS (lv_sub hl [0] rfl)
    have h := if_t (Int64.not_le.mp (fun z => c42 ((lg_cmp_le _ _).mpr z))) h
    refine lv_aload_n hx hb d_M_same_181 rfl (lv_at hl 0 rfl) ?_
    refine g_M_56 hx hb hts hown hK hP hwf hj0 (hts _ u_1797) d_M_same_182 ?_
    refine me_opt (j := j38) (kp_r hkb hkp e39) ?_
    refine lv_sipush (v := 30075) hx hb d_M_same_185 (by decide) ?_
    refine me_lald hx hb hK hP hwf hj38 (me_in (i := (30075 : Int32)) (k := 30075) (by decide) (by decide) (kp_c hkb.z hkp.z g40)) d_M_same_188 ?_
    refine fg_topl (y := mL M37 16 j38 30075) (congrArg _ (by decide)) ?_
    refine lv_goto (tgt := 200) hx hb d_M_same_189 (by decide) ?_
    exact b_200 M37 (mL M37 16 j38 30075) (30075 : Int32) j38 _ _ _ h hj38 hwf hkp hP hD hS (lv_sub hl [0] rfl)
  have h := if_f (fun z => c23 ((lg_cmp_eq _ _).mpr z)) h
  refine lv_iconst (v := 0) hx hb d_M_same_48 (by decide) ?_
  have z43 : (0 : Int32) = 1 ∨ (0 : Int32) = 0 := (by decide)
  cases h
  exact fg_retz () hx hb hr hlocks (me_nz z43) ⟨rfl, ⟨hwf, hkp, z43⟩⟩ hP (hK.sub (tys' := []) [] rfl) hD hS (Nat.le_of_ble_eq_true rfl) (Nat.le_of_ble_eq_true rfl) d_M_same_49
