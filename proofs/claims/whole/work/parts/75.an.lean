theorem d_M_formFault_208 : decode prog_14_method_56_code 208 = .ok (.iload 5, 2) := by decide +kernel
theorem d_M_formFault_210 : decode prog_14_method_56_code 210 = .ok (.iconst 1, 1) := by decide +kernel
theorem d_M_formFault_211 : decode prog_14_method_56_code 211 = .ok (.if_icmp .ne 30, 3) := by decide +kernel
theorem d_M_formFault_241 : decode prog_14_method_56_code 241 = .ok (.iconst 0, 1) := by decide +kernel
theorem d_M_formFault_242 : decode prog_14_method_56_code 242 = .ok (.ireturn, 1) := by decide +kernel
theorem d_M_formFault_214 : decode prog_14_method_56_code 214 = .ok (.lload_n 2, 1) := by decide +kernel
theorem d_M_formFault_215 : decode prog_14_method_56_code 215 = .ok (.invokestatic 318, 3) := by decide +kernel
theorem d_M_formFault_218 : decode prog_14_method_56_code 218 = .ok (.iconst 1, 1) := by decide +kernel
theorem d_M_formFault_219 : decode prog_14_method_56_code 219 = .ok (.if_icmp .ne 22, 3) := by decide +kernel
theorem d_M_formFault_222 : decode prog_14_method_56_code 222 = .ok (.iload 6, 2) := by decide +kernel
theorem d_M_formFault_224 : decode prog_14_method_56_code 224 = .ok (.i2l, 1) := by decide +kernel
theorem d_M_formFault_225 : decode prog_14_method_56_code 225 = .ok (.lconst 0, 1) := by decide +kernel
theorem d_M_formFault_226 : decode prog_14_method_56_code 226 = .ok (.aload_n 0, 1) := by decide +kernel
theorem d_M_formFault_227 : decode prog_14_method_56_code 227 = .ok (.getfield 348, 3) := by decide +kernel
theorem u_1744 : Cond.fieldLink "FilterGuardModel" 348 "FilterGuardModel" "maps" "I" ∈ fg_g := fg_in (List.mem_of_getElem? (i := 1744) (by decide +kernel)) rfl
theorem g_M_3 {p : Program} {l : Launch} {e : Env} {R : Room} {s : Jvm.State} {m : MethodId} {args : Array Value} {below : List Frame} {meth : Method} {c : Code} {H : Heap} {locs : List Loc} {cells slots : Nat} {Q : Jvm.State → Prop} {cc : ByteArray} {pc : Nat} {ls : Array Slot} {rest : List Value} {D : va_G} {ad : Nat → Nat → Nat} {ca : Nat → ClassId} {M : me_M} {N : Nat → Nat} {own : String} {index j : Nat} (hexec : p.tables.exec = Jvm.exec) (hb : c.code = cc) (hts : ∀ w ∈ fg_g, w.before args s = true) (hown : s.vm.findClass own = some m.cls) (hK : va_K D classes (me_T ca) s) (hP : va_P D classes (me_W ad ca M) H) (hwf : me_wf N M) (hj : j < N 1) (hlink : (Cond.fieldLink own index "FilterGuardModel" "maps" "I").before args s = true) (hdg : decode cc pc = .ok (.getfield index, 3)) (kk : W p l e R s m args below meth c H locs cells slots Q (F0 m (pc + 3) ls (.int (mI M 1 j 3) :: rest))) : W p l e R s m args below meth c H locs cells slots Q (F0 m pc ls (.ref (ad 1 j) :: rest)) := me_get (k := 1) (f := 3) (C := "FilterGuardModel") (T := F_M) (Nf := 75) hexec hb hts i_M hown hK hP hwf hj (by decide) rfl (by decide) (by decide) hlink (fun _ h9 => h9) hdg kk
theorem d_M_formFault_230 : decode prog_14_method_56_code 230 = .ok (.iconst 1, 1) := by decide +kernel
theorem d_M_formFault_231 : decode prog_14_method_56_code 231 = .ok (.isub, 1) := by decide +kernel
theorem d_M_formFault_232 : decode prog_14_method_56_code 232 = .ok (.i2l, 1) := by decide +kernel
theorem d_M_formFault_233 : decode prog_14_method_56_code 233 = .ok (.invokestatic 342, 3) := by decide +kernel
theorem u_1976 : Cond.methodLink "FilterGuardModel" 342 ⟨"FilterGuardModel", "in", "(JJJ)Z"⟩ ∈ fg_g := fg_in (List.mem_of_getElem? (i := 1976) (by decide +kernel)) rfl
theorem u_1978 : Cond.code ⟨"FilterGuardModel", "in", "(JJJ)Z"⟩ prog_14_method_3_code 6 (some .boolean) ∈ fg_g := fg_in (List.mem_of_getElem? (i := 1978) (by decide +kernel)) rfl
theorem u_1977 : Cond.static ⟨"FilterGuardModel", "in", "(JJJ)Z"⟩ ∈ fg_g := fg_in (List.mem_of_getElem? (i := 1977) (by decide +kernel)) rfl
theorem d_M_formFault_236 : decode prog_14_method_56_code 236 = .ok (.ifCond .ne 5, 3) := by decide +kernel
theorem d_M_formFault_239 : decode prog_14_method_56_code 239 = .ok (.iconst 4, 1) := by decide +kernel
theorem d_M_formFault_240 : decode prog_14_method_56_code 240 = .ok (.ireturn, 1) := by decide +kernel
theorem d_M_formFault_188 : decode prog_14_method_56_code 188 = .ok (.iload 5, 2) := by decide +kernel
theorem d_M_formFault_190 : decode prog_14_method_56_code 190 = .ok (.bipush 12, 2) := by decide +kernel
theorem d_M_formFault_192 : decode prog_14_method_56_code 192 = .ok (.if_icmp .ne 16, 3) := by decide +kernel
theorem d_M_formFault_195 : decode prog_14_method_56_code 195 = .ok (.iload 6, 2) := by decide +kernel
theorem d_M_formFault_197 : decode prog_14_method_56_code 197 = .ok (.i2l, 1) := by decide +kernel
theorem d_M_formFault_198 : decode prog_14_method_56_code 198 = .ok (.lconst 1, 1) := by decide +kernel
theorem d_M_formFault_199 : decode prog_14_method_56_code 199 = .ok (.ldc2_w 346, 3) := by decide +kernel
theorem u_2031 : Cond.constantLong "FilterGuardModel" 346 6 ∈ fg_g := fg_in (List.mem_of_getElem? (i := 2031) (by decide +kernel)) rfl
theorem d_M_formFault_202 : decode prog_14_method_56_code 202 = .ok (.invokestatic 342, 3) := by decide +kernel
theorem d_M_formFault_205 : decode prog_14_method_56_code 205 = .ok (.ifCond .eq 34, 3) := by decide +kernel
theorem d_M_formFault_180 : decode prog_14_method_56_code 180 = .ok (.invokestatic 342, 3) := by decide +kernel
theorem d_M_formFault_183 : decode prog_14_method_56_code 183 = .ok (.ifCond .ne 5, 3) := by decide +kernel
theorem d_M_formFault_186 : decode prog_14_method_56_code 186 = .ok (.iconst 3, 1) := by decide +kernel
theorem d_M_formFault_187 : decode prog_14_method_56_code 187 = .ok (.ireturn, 1) := by decide +kernel
theorem d_M_formFault_159 : decode prog_14_method_56_code 159 = .ok (.iload 6, 2) := by decide +kernel
theorem d_M_formFault_161 : decode prog_14_method_56_code 161 = .ok (.i2l, 1) := by decide +kernel
theorem d_M_formFault_162 : decode prog_14_method_56_code 162 = .ok (.lconst 0, 1) := by decide +kernel
theorem d_M_formFault_163 : decode prog_14_method_56_code 163 = .ok (.iload 4, 2) := by decide +kernel
theorem d_M_formFault_165 : decode prog_14_method_56_code 165 = .ok (.invokestatic 339, 3) := by decide +kernel
theorem u_2026 : Cond.methodLink "FilterGuardModel" 339 ⟨"FilterGuardModel", "isNarrow", "(I)Z"⟩ ∈ fg_g := fg_in (List.mem_of_getElem? (i := 2026) (by decide +kernel)) rfl
theorem u_2028 : Cond.code ⟨"FilterGuardModel", "isNarrow", "(I)Z"⟩ prog_14_method_53_code 2 (some .boolean) ∈ fg_g := fg_in (List.mem_of_getElem? (i := 2028) (by decide +kernel)) rfl
theorem u_2027 : Cond.static ⟨"FilterGuardModel", "isNarrow", "(I)Z"⟩ ∈ fg_g := fg_in (List.mem_of_getElem? (i := 2027) (by decide +kernel)) rfl
theorem d_M_formFault_168 : decode prog_14_method_56_code 168 = .ok (.ifCond .eq 9, 3) := by decide +kernel
theorem d_M_formFault_177 : decode prog_14_method_56_code 177 = .ok (.ldc2_w 259, 3) := by decide +kernel
theorem d_M_formFault_171 : decode prog_14_method_56_code 171 = .ok (.ldc2_w 257, 3) := by decide +kernel
theorem d_M_formFault_174 : decode prog_14_method_56_code 174 = .ok (.goto 6, 3) := by decide +kernel
theorem d_M_formFault_138 : decode prog_14_method_56_code 138 = .ok (.iload 8, 2) := by decide +kernel
theorem d_M_formFault_140 : decode prog_14_method_56_code 140 = .ok (.bipush 6, 2) := by decide +kernel
theorem d_M_formFault_142 : decode prog_14_method_56_code 142 = .ok (.if_icmp .eq 17, 3) := by decide +kernel
theorem d_M_formFault_145 : decode prog_14_method_56_code 145 = .ok (.iload 8, 2) := by decide +kernel
theorem d_M_formFault_147 : decode prog_14_method_56_code 147 = .ok (.bipush 7, 2) := by decide +kernel
theorem d_M_formFault_149 : decode prog_14_method_56_code 149 = .ok (.if_icmp .eq 10, 3) := by decide +kernel
theorem d_M_formFault_152 : decode prog_14_method_56_code 152 = .ok (.iload 8, 2) := by decide +kernel
theorem d_M_formFault_154 : decode prog_14_method_56_code 154 = .ok (.bipush 12, 2) := by decide +kernel
theorem d_M_formFault_156 : decode prog_14_method_56_code 156 = .ok (.if_icmp .ne 32, 3) := by decide +kernel
theorem d_M_formFault_131 : decode prog_14_method_56_code 131 = .ok (.iload 6, 2) := by decide +kernel
theorem d_M_formFault_133 : decode prog_14_method_56_code 133 = .ok (.ifCond .ne 5, 3) := by decide +kernel
theorem d_M_formFault_136 : decode prog_14_method_56_code 136 = .ok (.iconst 3, 1) := by decide +kernel
theorem d_M_formFault_137 : decode prog_14_method_56_code 137 = .ok (.ireturn, 1) := by decide +kernel
theorem d_M_formFault_86 : decode prog_14_method_56_code 86 = .ok (.lload_n 2, 1) := by decide +kernel
theorem d_M_formFault_87 : decode prog_14_method_56_code 87 = .ok (.invokestatic 318, 3) := by decide +kernel
theorem d_M_formFault_90 : decode prog_14_method_56_code 90 = .ok (.bipush 10, 2) := by decide +kernel
theorem d_M_formFault_92 : decode prog_14_method_56_code 92 = .ok (.if_icmp .le 5, 3) := by decide +kernel
theorem d_M_formFault_97 : decode prog_14_method_56_code 97 = .ok (.iload 4, 2) := by decide +kernel
theorem d_M_formFault_99 : decode prog_14_method_56_code 99 = .ok (.iconst 4, 1) := by decide +kernel
theorem d_M_formFault_100 : decode prog_14_method_56_code 100 = .ok (.ishr, 1) := by decide +kernel
theorem d_M_formFault_101 : decode prog_14_method_56_code 101 = .ok (.istore 8, 2) := by decide +kernel
theorem d_M_formFault_103 : decode prog_14_method_56_code 103 = .ok (.iload 5, 2) := by decide +kernel
theorem d_M_formFault_105 : decode prog_14_method_56_code 105 = .ok (.bipush 6, 2) := by decide +kernel
theorem d_M_formFault_107 : decode prog_14_method_56_code 107 = .ok (.if_icmp .ne 81, 3) := by decide +kernel
theorem d_M_formFault_110 : decode prog_14_method_56_code 110 = .ok (.iload 4, 2) := by decide +kernel
theorem d_M_formFault_112 : decode prog_14_method_56_code 112 = .ok (.invokestatic 330, 3) := by decide +kernel
theorem d_M_formFault_115 : decode prog_14_method_56_code 115 = .ok (.ifCond .ne 73, 3) := by decide +kernel
theorem d_M_formFault_118 : decode prog_14_method_56_code 118 = .ok (.iload 8, 2) := by decide +kernel
theorem d_M_formFault_120 : decode prog_14_method_56_code 120 = .ok (.iconst 3, 1) := by decide +kernel
theorem d_M_formFault_121 : decode prog_14_method_56_code 121 = .ok (.if_icmp .eq 10, 3) := by decide +kernel
theorem d_M_formFault_124 : decode prog_14_method_56_code 124 = .ok (.iload 8, 2) := by decide +kernel
theorem d_M_formFault_126 : decode prog_14_method_56_code 126 = .ok (.bipush 9, 2) := by decide +kernel
theorem d_M_formFault_128 : decode prog_14_method_56_code 128 = .ok (.if_icmp .ne 10, 3) := by decide +kernel
theorem d_M_formFault_95 : decode prog_14_method_56_code 95 = .ok (.iconst 2, 1) := by decide +kernel
theorem d_M_formFault_96 : decode prog_14_method_56_code 96 = .ok (.ireturn, 1) := by decide +kernel
theorem d_M_formFault_61 : decode prog_14_method_56_code 61 = .ok (.istore 7, 2) := by decide +kernel
theorem d_M_formFault_63 : decode prog_14_method_56_code 63 = .ok (.lload_n 2, 1) := by decide +kernel
theorem d_M_formFault_64 : decode prog_14_method_56_code 64 = .ok (.invokestatic 315, 3) := by decide +kernel
theorem d_M_formFault_67 : decode prog_14_method_56_code 67 = .ok (.bipush 10, 2) := by decide +kernel
theorem d_M_formFault_69 : decode prog_14_method_56_code 69 = .ok (.if_icmp .gt 26, 3) := by decide +kernel
theorem d_M_formFault_72 : decode prog_14_method_56_code 72 = .ok (.iload 7, 2) := by decide +kernel
theorem d_M_formFault_74 : decode prog_14_method_56_code 74 = .ok (.ifCond .eq 12, 3) := by decide +kernel
theorem d_M_formFault_77 : decode prog_14_method_56_code 77 = .ok (.lload_n 2, 1) := by decide +kernel
theorem d_M_formFault_78 : decode prog_14_method_56_code 78 = .ok (.invokestatic 315, 3) := by decide +kernel
theorem d_M_formFault_81 : decode prog_14_method_56_code 81 = .ok (.bipush 10, 2) := by decide +kernel
theorem d_M_formFault_83 : decode prog_14_method_56_code 83 = .ok (.if_icmp .eq 12, 3) := by decide +kernel
theorem d_M_formFault_56 : decode prog_14_method_56_code 56 = .ok (.iconst 1, 1) := by decide +kernel
theorem d_M_formFault_57 : decode prog_14_method_56_code 57 = .ok (.goto 4, 3) := by decide +kernel
theorem d_M_formFault_0 : decode prog_14_method_56_code 0 = .ok (.aload_n 0, 1) := by decide +kernel
theorem d_M_formFault_1 : decode prog_14_method_56_code 1 = .ok (.iload_n 1, 1) := by decide +kernel
theorem d_M_formFault_2 : decode prog_14_method_56_code 2 = .ok (.invokevirtual 333, 3) := by decide +kernel
theorem u_1993 : Cond.methodLink "FilterGuardModel" 333 ⟨"FilterGuardModel", "isWellMade", "(I)Z"⟩ ∈ fg_g := fg_in (List.mem_of_getElem? (i := 1993) (by decide +kernel)) rfl
theorem u_1996 : Cond.code ⟨"FilterGuardModel", "isWellMade", "(I)Z"⟩ prog_14_method_55_code 10 (some .boolean) ∈ fg_g := fg_in (List.mem_of_getElem? (i := 1996) (by decide +kernel)) rfl
theorem u_1995 : Cond.instanceMethod ⟨"FilterGuardModel", "isWellMade", "(I)Z"⟩ ∈ fg_g := fg_in (List.mem_of_getElem? (i := 1995) (by decide +kernel)) rfl
theorem u_88 : Cond.selects "FilterGuardModel" ⟨"FilterGuardModel", "isWellMade", "(I)Z"⟩ ⟨"FilterGuardModel", "isWellMade", "(I)Z"⟩ ∈ fg_g := fg_in (List.mem_of_getElem? (i := 88) (by decide +kernel)) rfl
theorem d_M_formFault_5 : decode prog_14_method_56_code 5 = .ok (.ifCond .ne 5, 3) := by decide +kernel
theorem d_M_formFault_10 : decode prog_14_method_56_code 10 = .ok (.aload_n 0, 1) := by decide +kernel
theorem d_M_formFault_11 : decode prog_14_method_56_code 11 = .ok (.getfield 37, 3) := by decide +kernel
theorem d_M_formFault_14 : decode prog_14_method_56_code 14 = .ok (.iload_n 1, 1) := by decide +kernel
theorem d_M_formFault_15 : decode prog_14_method_56_code 15 = .ok (.laload, 1) := by decide +kernel
theorem d_M_formFault_16 : decode prog_14_method_56_code 16 = .ok (.lstore_n 2, 1) := by decide +kernel
theorem d_M_formFault_17 : decode prog_14_method_56_code 17 = .ok (.lload_n 2, 1) := by decide +kernel
theorem d_M_formFault_18 : decode prog_14_method_56_code 18 = .ok (.invokestatic 308, 3) := by decide +kernel
theorem d_M_formFault_21 : decode prog_14_method_56_code 21 = .ok (.istore 4, 2) := by decide +kernel
theorem d_M_formFault_23 : decode prog_14_method_56_code 23 = .ok (.iload 4, 2) := by decide +kernel
theorem d_M_formFault_25 : decode prog_14_method_56_code 25 = .ok (.invokestatic 312, 3) := by decide +kernel
theorem d_M_formFault_28 : decode prog_14_method_56_code 28 = .ok (.istore 5, 2) := by decide +kernel
theorem d_M_formFault_30 : decode prog_14_method_56_code 30 = .ok (.lload_n 2, 1) := by decide +kernel
theorem d_M_formFault_31 : decode prog_14_method_56_code 31 = .ok (.invokestatic 324, 3) := by decide +kernel
theorem d_M_formFault_34 : decode prog_14_method_56_code 34 = .ok (.istore 6, 2) := by decide +kernel
theorem d_M_formFault_36 : decode prog_14_method_56_code 36 = .ok (.iload 5, 2) := by decide +kernel
theorem d_M_formFault_38 : decode prog_14_method_56_code 38 = .ok (.iconst 1, 1) := by decide +kernel
theorem d_M_formFault_39 : decode prog_14_method_56_code 39 = .ok (.if_icmp .eq 17, 3) := by decide +kernel
theorem d_M_formFault_42 : decode prog_14_method_56_code 42 = .ok (.iload 5, 2) := by decide +kernel
theorem d_M_formFault_44 : decode prog_14_method_56_code 44 = .ok (.iconst 2, 1) := by decide +kernel
theorem d_M_formFault_45 : decode prog_14_method_56_code 45 = .ok (.if_icmp .eq 11, 3) := by decide +kernel
theorem d_M_formFault_48 : decode prog_14_method_56_code 48 = .ok (.iload 5, 2) := by decide +kernel
theorem d_M_formFault_50 : decode prog_14_method_56_code 50 = .ok (.invokestatic 336, 3) := by decide +kernel
theorem u_2023 : Cond.methodLink "FilterGuardModel" 336 ⟨"FilterGuardModel", "isArithmetic", "(I)Z"⟩ ∈ fg_g := fg_in (List.mem_of_getElem? (i := 2023) (by decide +kernel)) rfl
theorem u_2025 : Cond.code ⟨"FilterGuardModel", "isArithmetic", "(I)Z"⟩ prog_14_method_54_code 1 (some .boolean) ∈ fg_g := fg_in (List.mem_of_getElem? (i := 2025) (by decide +kernel)) rfl
theorem u_2024 : Cond.static ⟨"FilterGuardModel", "isArithmetic", "(I)Z"⟩ ∈ fg_g := fg_in (List.mem_of_getElem? (i := 2024) (by decide +kernel)) rfl
theorem d_M_formFault_53 : decode prog_14_method_56_code 53 = .ok (.ifCond .eq 7, 3) := by decide +kernel
theorem d_M_formFault_60 : decode prog_14_method_56_code 60 = .ok (.iconst 0, 1) := by decide +kernel
theorem d_M_formFault_8 : decode prog_14_method_56_code 8 = .ok (.iconst 1, 1) := by decide +kernel
theorem d_M_formFault_9 : decode prog_14_method_56_code 9 = .ok (.ireturn, 1) := by decide +kernel
abbrev y_M_formFault : MethodName := ⟨"FilterGuardModel", "formFault", "(I)I"⟩
def f_M_formFault_b208 (j0 : Nat) (M : me_M) (y2 : Int64) (y5 : Int32) (y6 : Int32) : Option (me_M × Int32) := (if y5 = 1 then bd (f_M_fromOf y2) (fun (r2 : Int32) => (if r2 = 1 then bd (f_M_in y6.toInt64 (0 : Int64) (((mI M 1 j0 3) - 1).toInt64)) (fun (r4 : Int32) => (if r4 = 0 then some (M, (4 : Int32)) else some (M, (0 : Int32)))) else some (M, (0 : Int32)))) else some (M, (0 : Int32)))
def f_M_formFault_b188 (j0 : Nat) (M : me_M) (y2 : Int64) (y5 : Int32) (y6 : Int32) : Option (me_M × Int32) := (if y5 = 12 then bd (f_M_in y6.toInt64 (1 : Int64) (6 : Int64)) (fun (r7 : Int32) => (if r7 = 0 then some (M, (4 : Int32)) else f_M_formFault_b208 j0 M y2 y5 y6)) else f_M_formFault_b208 j0 M y2 y5 y6)
def f_M_formFault_b180 (j0 : Nat) (M : me_M) (y2 : Int64) (y5 : Int32) (y6 : Int32) (s0 : Int64) (s1 : Int64) (s2 : Int64) : Option (me_M × Int32) := bd (f_M_in s2 s1 s0) (fun (r9 : Int32) => (if r9 = 0 then some (M, (3 : Int32)) else f_M_formFault_b188 j0 M y2 y5 y6))
def f_M_formFault_b159 (j0 : Nat) (M : me_M) (y2 : Int64) (y4 : Int32) (y5 : Int32) (y6 : Int32) : Option (me_M × Int32) := bd (f_M_isNarrow y4) (fun (r11 : Int32) => (if r11 = 0 then f_M_formFault_b180 j0 M y2 y5 y6 (63 : Int64) (0 : Int64) y6.toInt64 else f_M_formFault_b180 j0 M y2 y5 y6 (31 : Int64) (0 : Int64) y6.toInt64))
def f_M_formFault_b138 (j0 : Nat) (M : me_M) (y2 : Int64) (y4 : Int32) (y5 : Int32) (y6 : Int32) (y8 : Int32) : Option (me_M × Int32) := (if y8 = 6 then f_M_formFault_b159 j0 M y2 y4 y5 y6 else (if y8 = 7 then f_M_formFault_b159 j0 M y2 y4 y5 y6 else (if y8 = 12 then f_M_formFault_b159 j0 M y2 y4 y5 y6 else f_M_formFault_b188 j0 M y2 y5 y6)))
def f_M_formFault_b131 (j0 : Nat) (M : me_M) (y2 : Int64) (y4 : Int32) (y5 : Int32) (y6 : Int32) (y8 : Int32) : Option (me_M × Int32) := (if y6 = 0 then some (M, (3 : Int32)) else f_M_formFault_b138 j0 M y2 y4 y5 y6 y8)
def f_M_formFault_b86 (j0 : Nat) (M : me_M) (y2 : Int64) (y4 : Int32) (y5 : Int32) (y6 : Int32) : Option (me_M × Int32) := bd (f_M_fromOf y2) (fun (r17 : Int32) => (if r17 ≤ 10 then st (jishr y4 4) (fun (v19 : Int32) => (if y5 = 6 then bd (f_M_hasFrom y4) (fun (r21 : Int32) => (if r21 = 0 then (if v19 = 3 then f_M_formFault_b131 j0 M y2 y4 y5 y6 v19 else (if v19 = 9 then f_M_formFault_b131 j0 M y2 y4 y5 y6 v19 else f_M_formFault_b138 j0 M y2 y4 y5 y6 v19)) else f_M_formFault_b188 j0 M y2 y5 y6)) else f_M_formFault_b188 j0 M y2 y5 y6)) else some (M, (2 : Int32))))
def f_M_formFault_b61 (j0 : Nat) (M : me_M) (y2 : Int64) (y4 : Int32) (y5 : Int32) (y6 : Int32) (s0 : Int32) : Option (me_M × Int32) := bd (f_M_toOf y2) (fun (r25 : Int32) => (if 10 < r25 then some (M, (2 : Int32)) else (if s0 = 0 then f_M_formFault_b86 j0 M y2 y4 y5 y6 else bd (f_M_toOf y2) (fun (r28 : Int32) => (if r28 = 10 then some (M, (2 : Int32)) else f_M_formFault_b86 j0 M y2 y4 y5 y6)))))
def f_M_formFault_b56 (j0 : Nat) (M : me_M) (y2 : Int64) (y4 : Int32) (y5 : Int32) (y6 : Int32) : Option (me_M × Int32) := f_M_formFault_b61 j0 M y2 y4 y5 y6 (1 : Int32)
def f_M_formFault (M0 : me_M) (j0 : Nat) (x1 : Int32) : Option (me_M × Int32) := b2 (f_M_isWellMade M0 j0 x1) (fun (M30 : me_M) (r31 : Int32) => (if r31 = 0 then some (M30, (1 : Int32)) else bd (mR M0 1 j0 13) (fun (j33 : Nat) => gd (¬ (x1 < 0 ∨ mZ M0 16 j33 ≤ x1.toNatClampNeg)) (st (mL M30 16 j33 x1.toNatClampNeg) (fun (v36 : Int64) => bd (f_M_opOf v36) (fun (r37 : Int32) => bd (f_M_instruction r37) (fun (r38 : Int32) => bd (f_M_fieldOf v36) (fun (r39 : Int32) => (if r38 = 1 then f_M_formFault_b56 j0 M30 v36 r37 r38 r39 else (if r38 = 2 then f_M_formFault_b56 j0 M30 v36 r37 r38 r39 else bd (f_M_isArithmetic r38) (fun (r42 : Int32) => (if r42 = 0 then f_M_formFault_b61 j0 M30 v36 r37 r38 r39 (0 : Int32) else f_M_formFault_b56 j0 M30 v36 r37 r38 r39))))))))))))
def rm_M_formFault : Room := { frames := 4, cells := 0, slots := 0, locals := 90 }
abbrev q_M_formFault (D : va_G) (ad : Nat → Nat → Nat) (ca : Nat → ClassId) (N : Nat → Nat) (M0 MZ : me_M) (RZ : Int32) (A : Nat → Prop) : Array Value → Jvm.State → Outcome → Jvm.State → Prop := va_Qi (fun r (_ : Unit) => r = RZ ∧ me_wf N MZ ∧ me_kp M0 MZ) (fg_B D A (fun _ => me_W ad ca MZ) (fun _ => [])) A
set_option maxHeartbeats 4000000 in
set_option maxRecDepth 100000 in
theorem c_M_formFault (l : Launch) (D : va_G) (ad : Nat → Nat → Nat) (ca : Nat → ClassId) (N : Nat → Nat) (M0 MZ : me_M) (RZ : Int32) (j0 : Nat) (x1 : Int32) (h : f_M_formFault M0 j0 x1 = (some (MZ, RZ))) (hwf : me_wf N M0) (hj0 : j0 < N 1) (sz : Nat) : Met l y_M_formFault (fg_w y_M_formFault prog_14_method_56_code 9 (some .int)) rm_M_formFault (va_Pc [.ref (ad 1 j0), .int x1] (fz_P D (me_T ca) (me_W ad ca M0) sz)) (q_M_formFault D ad ca N M0 MZ RZ (va_A (me_W ad ca M0) sz)) rm_M_formFault.cells rm_M_formFault.slots (va_A (me_W ad ca M0) sz) := by
  refine fz_enter (fun A => q_M_formFault D ad ca N M0 MZ RZ A) (by decide +kernel) (Nat.le_of_ble_eq_true rfl) ?_
  intro p e s m below meth c ls A hx hb hml hown hts hr hlocks hin hP hK hD hS hA hX hl hz
  have hl : lv_has ls 9 [(0, .ref (ad 1 j0)), (1, .int x1)] := hl
  unfold f_M_formFault at h
  have hkp : me_kp M0 M0 := me_kp.rf
  have hkb := hkp
  have b_208 : ∀ (M : me_M) (y2 : Int64) (y5 : Int32) (y6 : Int32) (H : Heap) (locs : List Loc) (ls : Array Slot), f_M_formFault_b208 j0 M y2 y5 y6 = (some (MZ, RZ)) → me_wf N M → me_kp M0 M → va_P D classes (me_W ad ca M) H → va_D A (me_W ad ca M) → va_S A s.heap H locs → lv_has ls 9 [(0, .ref (ad 1 j0)), (2, .long y2), (5, .int y5), (6, .int y6)] → W p l e rm_M_formFault s m [.ref (ad 1 j0), .int x1].toArray below meth c H locs 0 0 (MQ below (q_M_formFault D ad ca N M0 MZ RZ A) [.ref (ad 1 j0), .int x1].toArray s rm_M_formFault.cells rm_M_formFault.slots A) (F0 m 208 ls []) := by
    intro M y2 y5 y6 H locs ls h hwf hkp hP hD hS hl
    unfold f_M_formFault_b208 at h
    have hkb := hkp
    refine lv_iload hx hb d_M_formFault_208 (lv_at hl 2 rfl) ?_
    refine lv_iconst (v := 1) hx hb d_M_formFault_210 (by decide) ?_
    refine lv_icmp_ne (tgt := 241) hx hb d_M_formFault_211 (by decide) (fun c1 => ?_) (fun c1 => ?_)
    · have h := if_f c1 h
      refine lv_iconst (v := 0) hx hb d_M_formFault_241 (by decide) ?_
      exact me_reti (me_kp M0) h hx hb hr hlocks hwf hkp hP hK hD hS d_M_formFault_242
    have h := if_t c1 h
    refine lv_lload_n hx hb d_M_formFault_214 rfl (lv_at hl 1 rfl) ?_
    obtain ⟨r2, er2, h⟩ := bd_ob h
    refine me_pani' (r0 := r2) (fg_runS (wc := []) (tc := []) (A2 := A) (As := [.long y2]) (rest := []) ⟨hx, hb, hml, hown, hts⟩ (c_M_fromOf l D r2 y2 er2 _) (by show fg_nm y_M_fromOf 1; decide +kernel) u_2010 u_2011 u_192 u_2012 ⟨Nat.le_of_ble_eq_true rfl, Nat.le_of_ble_eq_true rfl⟩ hX me_P0 (hK.sub (tys' := []) [] rfl) me_D0 rfl hl.1 (Nat.le_of_ble_eq_true rfl) d_M_formFault_215 ⟨Nat.le_of_ble_eq_true rfl, Nat.le_of_ble_eq_true rfl⟩) hP hD hK hS hA rfl rfl (fun H locs hw hP hD hS => ?_)
    refine lv_iconst (v := 1) hx hb d_M_formFault_218 (by decide) ?_
    refine lv_icmp_ne (tgt := 241) hx hb d_M_formFault_219 (by decide) (fun c3 => ?_) (fun c3 => ?_)
    · have h := if_f c3 h
      refine lv_iconst (v := 0) hx hb d_M_formFault_241 (by decide) ?_
      exact me_reti (me_kp M0) h hx hb hr hlocks hwf hkp hP hK hD hS d_M_formFault_242
    have h := if_t c3 h
    refine lv_iload hx hb d_M_formFault_222 (lv_at hl 3 rfl) ?_
    refine lv_i2l (v := y6.toInt64) hx hb d_M_formFault_224 rfl ?_
    refine lv_lconst (v := 0) hx hb d_M_formFault_225 (by decide) ?_
    refine lv_aload_n hx hb d_M_formFault_226 rfl (lv_at hl 0 rfl) ?_
    refine g_M_3 hx hb hts hown hK hP hwf hj0 (hts _ u_1744) d_M_formFault_227 ?_
    refine lv_iconst (v := 1) hx hb d_M_formFault_230 (by decide) ?_
    refine lv_isub hx hb d_M_formFault_231 ?_
    refine lv_i2l (v := ((mI M 1 j0 3) - 1).toInt64) hx hb d_M_formFault_232 rfl ?_
    obtain ⟨r4, er4, h⟩ := bd_ob h
    refine me_pani' (r0 := r4) (fg_runS (wc := []) (tc := []) (A2 := A) (As := [.long y6.toInt64, .long 0, .long (((mI M 1 j0 3) - 1).toInt64)]) (rest := []) ⟨hx, hb, hml, hown, hts⟩ (c_M_in l D r4 y6.toInt64 (0 : Int64) (((mI M 1 j0 3) - 1).toInt64) er4 _) (by show fg_nm y_M_in 3; decide +kernel) u_1976 u_1977 u_192 u_1978 ⟨Nat.le_of_ble_eq_true rfl, Nat.le_of_ble_eq_true rfl⟩ hX me_P0 (hK.sub (tys' := []) [] rfl) me_D0 rfl hl.1 (Nat.le_of_ble_eq_true rfl) d_M_formFault_233 ⟨Nat.le_of_ble_eq_true rfl, Nat.le_of_ble_eq_true rfl⟩) hP hD hK hS hA rfl rfl (fun H locs hw hP hD hS => ?_)
    have zr4 := hw
    refine lv_if_ne (tgt := 241) hx hb d_M_formFault_236 (by decide) (fun c5 => ?_) (fun c5 => ?_)
    · have h := if_f c5 h
      refine lv_iconst (v := 0) hx hb d_M_formFault_241 (by decide) ?_
      exact me_reti (me_kp M0) h hx hb hr hlocks hwf hkp hP hK hD hS d_M_formFault_242
    have h := if_t c5 h
    refine lv_iconst (v := 4) hx hb d_M_formFault_239 (by decide) ?_
    exact me_reti (me_kp M0) h hx hb hr hlocks hwf hkp hP hK hD hS d_M_formFault_240
  have b_188 : ∀ (M : me_M) (y2 : Int64) (y5 : Int32) (y6 : Int32) (H : Heap) (locs : List Loc) (ls : Array Slot), f_M_formFault_b188 j0 M y2 y5 y6 = (some (MZ, RZ)) → me_wf N M → me_kp M0 M → va_P D classes (me_W ad ca M) H → va_D A (me_W ad ca M) → va_S A s.heap H locs → lv_has ls 9 [(0, .ref (ad 1 j0)), (2, .long y2), (5, .int y5), (6, .int y6)] → W p l e rm_M_formFault s m [.ref (ad 1 j0), .int x1].toArray below meth c H locs 0 0 (MQ below (q_M_formFault D ad ca N M0 MZ RZ A) [.ref (ad 1 j0), .int x1].toArray s rm_M_formFault.cells rm_M_formFault.slots A) (F0 m 188 ls []) := by
    intro M y2 y5 y6 H locs ls h hwf hkp hP hD hS hl
    unfold f_M_formFault_b188 at h
    have hkb := hkp
    refine lv_iload hx hb d_M_formFault_188 (lv_at hl 2 rfl) ?_
    refine lv_bipush (v := 12) hx hb d_M_formFault_190 (by decide) ?_
    refine lv_icmp_ne (tgt := 208) hx hb d_M_formFault_192 (by decide) (fun c6 => ?_) (fun c6 => ?_)
    · have h := if_f c6 h
      exact b_208 M y2 y5 y6 _ _ _ h hwf hkp hP hD hS (lv_sub hl [0, 1, 2, 3] rfl)
    have h := if_t c6 h
    refine lv_iload hx hb d_M_formFault_195 (lv_at hl 3 rfl) ?_
    refine lv_i2l (v := y6.toInt64) hx hb d_M_formFault_197 rfl ?_
    refine lv_lconst (v := 1) hx hb d_M_formFault_198 (by decide) ?_
    refine lv_ldc2 hx hb hown (hts _ u_2031) d_M_formFault_199 ?_
    obtain ⟨r7, er7, h⟩ := bd_ob h
    refine me_pani' (r0 := r7) (fg_runS (wc := []) (tc := []) (A2 := A) (As := [.long y6.toInt64, .long 1, .long 6]) (rest := []) ⟨hx, hb, hml, hown, hts⟩ (c_M_in l D r7 y6.toInt64 (1 : Int64) (6 : Int64) er7 _) (by show fg_nm y_M_in 3; decide +kernel) u_1976 u_1977 u_192 u_1978 ⟨Nat.le_of_ble_eq_true rfl, Nat.le_of_ble_eq_true rfl⟩ hX me_P0 (hK.sub (tys' := []) [] rfl) me_D0 rfl hl.1 (Nat.le_of_ble_eq_true rfl) d_M_formFault_202 ⟨Nat.le_of_ble_eq_true rfl, Nat.le_of_ble_eq_true rfl⟩) hP hD hK hS hA rfl rfl (fun H locs hw hP hD hS => ?_)
    have zr7 := hw
    refine lv_if_eq (tgt := 239) hx hb d_M_formFault_205 (by decide) (fun c8 => ?_) (fun c8 => ?_)
    · have h := if_t c8 h
      refine lv_iconst (v := 4) hx hb d_M_formFault_239 (by decide) ?_
      exact me_reti (me_kp M0) h hx hb hr hlocks hwf hkp hP hK hD hS d_M_formFault_240
    have h := if_f c8 h
    exact b_208 M y2 y5 y6 _ _ _ h hwf hkp hP hD hS (lv_sub hl [0, 1, 2, 3] rfl)
  have b_180 : ∀ (M : me_M) (y2 : Int64) (y5 : Int32) (y6 : Int32) (s0 : Int64) (s1 : Int64) (s2 : Int64) (H : Heap) (locs : List Loc) (ls : Array Slot), f_M_formFault_b180 j0 M y2 y5 y6 s0 s1 s2 = (some (MZ, RZ)) → me_wf N M → me_kp M0 M → va_P D classes (me_W ad ca M) H → va_D A (me_W ad ca M) → va_S A s.heap H locs → lv_has ls 9 [(0, .ref (ad 1 j0)), (2, .long y2), (5, .int y5), (6, .int y6)] → W p l e rm_M_formFault s m [.ref (ad 1 j0), .int x1].toArray below meth c H locs 0 0 (MQ below (q_M_formFault D ad ca N M0 MZ RZ A) [.ref (ad 1 j0), .int x1].toArray s rm_M_formFault.cells rm_M_formFault.slots A) (F0 m 180 ls [.long s0, .long s1, .long s2]) := by
    intro M y2 y5 y6 s0 s1 s2 H locs ls h hwf hkp hP hD hS hl
    unfold f_M_formFault_b180 at h
    have hkb := hkp
    obtain ⟨r9, er9, h⟩ := bd_ob h
    refine me_pani' (r0 := r9) (fg_runS (wc := []) (tc := []) (A2 := A) (As := [.long s2, .long s1, .long s0]) (rest := []) ⟨hx, hb, hml, hown, hts⟩ (c_M_in l D r9 s2 s1 s0 er9 _) (by show fg_nm y_M_in 3; decide +kernel) u_1976 u_1977 u_192 u_1978 ⟨Nat.le_of_ble_eq_true rfl, Nat.le_of_ble_eq_true rfl⟩ hX me_P0 (hK.sub (tys' := []) [] rfl) me_D0 rfl hl.1 (Nat.le_of_ble_eq_true rfl) d_M_formFault_180 ⟨Nat.le_of_ble_eq_true rfl, Nat.le_of_ble_eq_true rfl⟩) hP hD hK hS hA rfl rfl (fun H locs hw hP hD hS => ?_)
    have zr9 := hw
    refine lv_if_ne (tgt := 188) hx hb d_M_formFault_183 (by decide) (fun c10 => ?_) (fun c10 => ?_)
    · have h := if_f c10 h
      exact b_188 M y2 y5 y6 _ _ _ h hwf hkp hP hD hS (lv_sub hl [0, 1, 2, 3] rfl)
    have h := if_t c10 h
    refine lv_iconst (v := 3) hx hb d_M_formFault_186 (by decide) ?_
    exact me_reti (me_kp M0) h hx hb hr hlocks hwf hkp hP hK hD hS d_M_formFault_187
  have b_159 : ∀ (M : me_M) (y2 : Int64) (y4 : Int32) (y5 : Int32) (y6 : Int32) (H : Heap) (locs : List Loc) (ls : Array Slot), f_M_formFault_b159 j0 M y2 y4 y5 y6 = (some (MZ, RZ)) → me_wf N M → me_kp M0 M → va_P D classes (me_W ad ca M) H → va_D A (me_W ad ca M) → va_S A s.heap H locs → lv_has ls 9 [(0, .ref (ad 1 j0)), (2, .long y2), (4, .int y4), (5, .int y5), (6, .int y6)] → W p l e rm_M_formFault s m [.ref (ad 1 j0), .int x1].toArray below meth c H locs 0 0 (MQ below (q_M_formFault D ad ca N M0 MZ RZ A) [.ref (ad 1 j0), .int x1].toArray s rm_M_formFault.cells rm_M_formFault.slots A) (F0 m 159 ls []) := by
    intro M y2 y4 y5 y6 H locs ls h hwf hkp hP hD hS hl
    unfold f_M_formFault_b159 at h
    have hkb := hkp
    refine lv_iload hx hb d_M_formFault_159 (lv_at hl 4 rfl) ?_
    refine lv_i2l (v := y6.toInt64) hx hb d_M_formFault_161 rfl ?_
    refine lv_lconst (v := 0) hx hb d_M_formFault_162 (by decide) ?_
    refine lv_iload hx hb d_M_formFault_163 (lv_at hl 2 rfl) ?_
    obtain ⟨r11, er11, h⟩ := bd_ob h
    refine me_pani' (r0 := r11) (fg_runS (wc := []) (tc := []) (A2 := A) (As := [.int y4]) (rest := [.long 0, .long y6.toInt64]) ⟨hx, hb, hml, hown, hts⟩ (c_M_isNarrow l D r11 y4 er11 _) (by show fg_nm y_M_isNarrow 1; decide +kernel) u_2026 u_2027 u_192 u_2028 ⟨Nat.le_of_ble_eq_true rfl, Nat.le_of_ble_eq_true rfl⟩ hX me_P0 (hK.sub (tys' := []) [] rfl) me_D0 rfl hl.1 (Nat.le_of_ble_eq_true rfl) d_M_formFault_165 ⟨Nat.le_of_ble_eq_true rfl, Nat.le_of_ble_eq_true rfl⟩) hP hD hK hS hA rfl rfl (fun H locs hw hP hD hS => ?_)
    have zr11 := hw
    refine lv_if_eq (tgt := 177) hx hb d_M_formFault_168 (by decide) (fun c12 => ?_) (fun c12 => ?_)
    · have h := if_t c12 h
      refine lv_ldc2 hx hb hown (hts _ u_2030) d_M_formFault_177 ?_
      exact b_180 M y2 y5 y6 (63 : Int64) (0 : Int64) y6.toInt64 _ _ _ h hwf hkp hP hD hS (lv_sub hl [0, 1, 3, 4] rfl)
    have h := if_f c12 h
    refine lv_ldc2 hx hb hown (hts _ u_2029) d_M_formFault_171 ?_
    refine lv_goto (tgt := 180) hx hb d_M_formFault_174 (by decide) ?_
    exact b_180 M y2 y5 y6 (31 : Int64) (0 : Int64) y6.toInt64 _ _ _ h hwf hkp hP hD hS (lv_sub hl [0, 1, 3, 4] rfl)
  have b_138 : ∀ (M : me_M) (y2 : Int64) (y4 : Int32) (y5 : Int32) (y6 : Int32) (y8 : Int32) (H : Heap) (locs : List Loc) (ls : Array Slot), f_M_formFault_b138 j0 M y2 y4 y5 y6 y8 = (some (MZ, RZ)) → me_wf N M → me_kp M0 M → va_P D classes (me_W ad ca M) H → va_D A (me_W ad ca M) → va_S A s.heap H locs → lv_has ls 9 [(0, .ref (ad 1 j0)), (2, .long y2), (4, .int y4), (5, .int y5), (6, .int y6), (8, .int y8)] → W p l e rm_M_formFault s m [.ref (ad 1 j0), .int x1].toArray below meth c H locs 0 0 (MQ below (q_M_formFault D ad ca N M0 MZ RZ A) [.ref (ad 1 j0), .int x1].toArray s rm_M_formFault.cells rm_M_formFault.slots A) (F0 m 138 ls []) := by
    intro M y2 y4 y5 y6 y8 H locs ls h hwf hkp hP hD hS hl
    unfold f_M_formFault_b138 at h
    have hkb := hkp
    refine lv_iload hx hb d_M_formFault_138 (lv_at hl 5 rfl) ?_
    refine lv_bipush (v := 6) hx hb d_M_formFault_140 (by decide) ?_
    refine lv_icmp_eq (tgt := 159) hx hb d_M_formFault_142 (by decide) (fun c13 => ?_) (fun c13 => ?_)
    · have h := if_t c13 h
      exact b_159 M y2 y4 y5 y6 _ _ _ h hwf hkp hP hD hS (lv_sub hl [0, 1, 2, 3, 4] rfl)
    have h := if_f c13 h
    refine lv_iload hx hb d_M_formFault_145 (lv_at hl 5 rfl) ?_
    refine lv_bipush (v := 7) hx hb d_M_formFault_147 (by decide) ?_
    refine lv_icmp_eq (tgt := 159) hx hb d_M_formFault_149 (by decide) (fun c14 => ?_) (fun c14 => ?_)
    · have h := if_t c14 h
      exact b_159 M y2 y4 y5 y6 _ _ _ h hwf hkp hP hD hS (lv_sub hl [0, 1, 2, 3, 4] rfl)
    have h := if_f c14 h
    refine lv_iload hx hb d_M_formFault_152 (lv_at hl 5 rfl) ?_
    refine lv_bipush (v := 12) hx hb d_M_formFault_154 (by decide) ?_
    refine lv_icmp_ne (tgt := 188) hx hb d_M_formFault_156 (by decide) (fun c15 => ?_) (fun c15 => ?_)
    · have h := if_f c15 h
      exact b_188 M y2 y5 y6 _ _ _ h hwf hkp hP hD hS (lv_sub hl [0, 1, 3, 4] rfl)
    have h := if_t c15 h
    exact b_159 M y2 y4 y5 y6 _ _ _ h hwf hkp hP hD hS (lv_sub hl [0, 1, 2, 3, 4] rfl)
  have b_131 : ∀ (M : me_M) (y2 : Int64) (y4 : Int32) (y5 : Int32) (y6 : Int32) (y8 : Int32) (H : Heap) (locs : List Loc) (ls : Array Slot), f_M_formFault_b131 j0 M y2 y4 y5 y6 y8 = (some (MZ, RZ)) → me_wf N M → me_kp M0 M → va_P D classes (me_W ad ca M) H → va_D A (me_W ad ca M) → va_S A s.heap H locs → lv_has ls 9 [(0, .ref (ad 1 j0)), (2, .long y2), (4, .int y4), (5, .int y5), (6, .int y6), (8, .int y8)] → W p l e rm_M_formFault s m [.ref (ad 1 j0), .int x1].toArray below meth c H locs 0 0 (MQ below (q_M_formFault D ad ca N M0 MZ RZ A) [.ref (ad 1 j0), .int x1].toArray s rm_M_formFault.cells rm_M_formFault.slots A) (F0 m 131 ls []) := by
    intro M y2 y4 y5 y6 y8 H locs ls h hwf hkp hP hD hS hl
    unfold f_M_formFault_b131 at h
    have hkb := hkp
    refine lv_iload hx hb d_M_formFault_131 (lv_at hl 4 rfl) ?_
    refine lv_if_ne (tgt := 138) hx hb d_M_formFault_133 (by decide) (fun c16 => ?_) (fun c16 => ?_)
    · have h := if_f c16 h
      exact b_138 M y2 y4 y5 y6 y8 _ _ _ h hwf hkp hP hD hS (lv_sub hl [0, 1, 2, 3, 4, 5] rfl)
    have h := if_t c16 h
    refine lv_iconst (v := 3) hx hb d_M_formFault_136 (by decide) ?_
    exact me_reti (me_kp M0) h hx hb hr hlocks hwf hkp hP hK hD hS d_M_formFault_137
  have b_86 : ∀ (M : me_M) (y2 : Int64) (y4 : Int32) (y5 : Int32) (y6 : Int32) (H : Heap) (locs : List Loc) (ls : Array Slot), f_M_formFault_b86 j0 M y2 y4 y5 y6 = (some (MZ, RZ)) → me_wf N M → me_kp M0 M → va_P D classes (me_W ad ca M) H → va_D A (me_W ad ca M) → va_S A s.heap H locs → lv_has ls 9 [(0, .ref (ad 1 j0)), (2, .long y2), (4, .int y4), (5, .int y5), (6, .int y6)] → W p l e rm_M_formFault s m [.ref (ad 1 j0), .int x1].toArray below meth c H locs 0 0 (MQ below (q_M_formFault D ad ca N M0 MZ RZ A) [.ref (ad 1 j0), .int x1].toArray s rm_M_formFault.cells rm_M_formFault.slots A) (F0 m 86 ls []) := by
    intro M y2 y4 y5 y6 H locs ls h hwf hkp hP hD hS hl
    unfold f_M_formFault_b86 at h
    have hkb := hkp
    refine lv_lload_n hx hb d_M_formFault_86 rfl (lv_at hl 1 rfl) ?_
    obtain ⟨r17, er17, h⟩ := bd_ob h
    refine me_pani' (r0 := r17) (fg_runS (wc := []) (tc := []) (A2 := A) (As := [.long y2]) (rest := []) ⟨hx, hb, hml, hown, hts⟩ (c_M_fromOf l D r17 y2 er17 _) (by show fg_nm y_M_fromOf 1; decide +kernel) u_2010 u_2011 u_192 u_2012 ⟨Nat.le_of_ble_eq_true rfl, Nat.le_of_ble_eq_true rfl⟩ hX me_P0 (hK.sub (tys' := []) [] rfl) me_D0 rfl hl.1 (Nat.le_of_ble_eq_true rfl) d_M_formFault_87 ⟨Nat.le_of_ble_eq_true rfl, Nat.le_of_ble_eq_true rfl⟩) hP hD hK hS hA rfl rfl (fun H locs hw hP hD hS => ?_)
    refine lv_bipush (v := 10) hx hb d_M_formFault_90 (by decide) ?_
    refine lv_icmp_le (tgt := 97) hx hb d_M_formFault_92 (by decide) (fun c18 => ?_) (fun c18 => ?_)
    · have h := if_t c18 h
      refine lv_iload hx hb d_M_formFault_97 (lv_at hl 2 rfl) ?_
      refine lv_iconst (v := 4) hx hb d_M_formFault_99 (by decide) ?_
      refine lv_ishr hx hb d_M_formFault_100 ?_
      refine fg_topi (y := jishr y4 4) rfl ?_
      obtain ⟨v19, ev19, h⟩ := st_ob h
      refine fg_topi (y := v19) ev19.symm ?_
      refine lv_istore (lv' := [(8, .int v19), (0, .ref (ad 1 j0)), (2, .long y2), (4, .int y4), (5, .int y5), (6, .int y6)]) hx hb d_M_formFault_101 hl (by decide) rfl (fun ls hl => ?_)
      refine lv_iload hx hb d_M_formFault_103 (lv_at hl 4 rfl) ?_
      refine lv_bipush (v := 6) hx hb d_M_formFault_105 (by decide) ?_
      refine lv_icmp_ne (tgt := 188) hx hb d_M_formFault_107 (by decide) (fun c20 => ?_) (fun c20 => ?_)
      · have h := if_f c20 h
        exact b_188 M y2 y5 y6 _ _ _ h hwf hkp hP hD hS (lv_sub hl [1, 2, 4, 5] rfl)
      have h := if_t c20 h
      refine lv_iload hx hb d_M_formFault_110 (lv_at hl 3 rfl) ?_
      obtain ⟨r21, er21, h⟩ := bd_ob h
      refine me_pani' (r0 := r21) (fg_runS (wc := []) (tc := []) (A2 := A) (As := [.int y4]) (rest := []) ⟨hx, hb, hml, hown, hts⟩ (c_M_hasFrom l D r21 y4 er21 _) (by show fg_nm y_M_hasFrom 1; decide +kernel) u_2020 u_2021 u_192 u_2022 ⟨Nat.le_of_ble_eq_true rfl, Nat.le_of_ble_eq_true rfl⟩ hX me_P0 (hK.sub (tys' := []) [] rfl) me_D0 rfl hl.1 (Nat.le_of_ble_eq_true rfl) d_M_formFault_112 ⟨Nat.le_of_ble_eq_true rfl, Nat.le_of_ble_eq_true rfl⟩) hP hD hK hS hA rfl rfl (fun H locs hw hP hD hS => ?_)
      have zr21 := hw
      refine lv_if_ne (tgt := 188) hx hb d_M_formFault_115 (by decide) (fun c22 => ?_) (fun c22 => ?_)
      · have h := if_f c22 h
        exact b_188 M y2 y5 y6 _ _ _ h hwf hkp hP hD hS (lv_sub hl [1, 2, 4, 5] rfl)
      have h := if_t c22 h
      refine lv_iload hx hb d_M_formFault_118 (lv_at hl 0 rfl) ?_
      refine lv_iconst (v := 3) hx hb d_M_formFault_120 (by decide) ?_
      refine lv_icmp_eq (tgt := 131) hx hb d_M_formFault_121 (by decide) (fun c23 => ?_) (fun c23 => ?_)
      · have h := if_t c23 h
        exact b_131 M y2 y4 y5 y6 v19 _ _ _ h hwf hkp hP hD hS (lv_sub hl [1, 2, 3, 4, 5, 0] rfl)
      have h := if_f c23 h
      refine lv_iload hx hb d_M_formFault_124 (lv_at hl 0 rfl) ?_
      refine lv_bipush (v := 9) hx hb d_M_formFault_126 (by decide) ?_
      refine lv_icmp_ne (tgt := 138) hx hb d_M_formFault_128 (by decide) (fun c24 => ?_) (fun c24 => ?_)
      · have h := if_f c24 h
        exact b_138 M y2 y4 y5 y6 v19 _ _ _ h hwf hkp hP hD hS (lv_sub hl [1, 2, 3, 4, 5, 0] rfl)
      have h := if_t c24 h
      exact b_131 M y2 y4 y5 y6 v19 _ _ _ h hwf hkp hP hD hS (lv_sub hl [1, 2, 3, 4, 5, 0] rfl)
    have h := if_f c18 h
    refine lv_iconst (v := 2) hx hb d_M_formFault_95 (by decide) ?_
    exact me_reti (me_kp M0) h hx hb hr hlocks hwf hkp hP hK hD hS d_M_formFault_96
  have b_61 : ∀ (M : me_M) (y2 : Int64) (y4 : Int32) (y5 : Int32) (y6 : Int32) (s0 : Int32) (H : Heap) (locs : List Loc) (ls : Array Slot), f_M_formFault_b61 j0 M y2 y4 y5 y6 s0 = (some (MZ, RZ)) → (s0 = 1 ∨ s0 = 0) → me_wf N M → me_kp M0 M → va_P D classes (me_W ad ca M) H → va_D A (me_W ad ca M) → va_S A s.heap H locs → lv_has ls 9 [(0, .ref (ad 1 j0)), (2, .long y2), (4, .int y4), (5, .int y5), (6, .int y6)] → W p l e rm_M_formFault s m [.ref (ad 1 j0), .int x1].toArray below meth c H locs 0 0 (MQ below (q_M_formFault D ad ca N M0 MZ RZ A) [.ref (ad 1 j0), .int x1].toArray s rm_M_formFault.cells rm_M_formFault.slots A) (F0 m 61 ls [.int s0]) := by
    intro M y2 y4 y5 y6 s0 H locs ls h zs0 hwf hkp hP hD hS hl
    unfold f_M_formFault_b61 at h
    have hkb := hkp
    refine lv_istore (lv' := [(7, .int s0), (0, .ref (ad 1 j0)), (2, .long y2), (4, .int y4), (5, .int y5), (6, .int y6)]) hx hb d_M_formFault_61 hl (by decide) rfl (fun ls hl => ?_)
    refine lv_lload_n hx hb d_M_formFault_63 rfl (lv_at hl 2 rfl) ?_
    obtain ⟨r25, er25, h⟩ := bd_ob h
    refine me_pani' (r0 := r25) (fg_runS (wc := []) (tc := []) (A2 := A) (As := [.long y2]) (rest := []) ⟨hx, hb, hml, hown, hts⟩ (c_M_toOf l D r25 y2 er25 _) (by show fg_nm y_M_toOf 1; decide +kernel) u_2006 u_2007 u_192 u_2008 ⟨Nat.le_of_ble_eq_true rfl, Nat.le_of_ble_eq_true rfl⟩ hX me_P0 (hK.sub (tys' := []) [] rfl) me_D0 rfl hl.1 (Nat.le_of_ble_eq_true rfl) d_M_formFault_64 ⟨Nat.le_of_ble_eq_true rfl, Nat.le_of_ble_eq_true rfl⟩) hP hD hK hS hA rfl rfl (fun H locs hw hP hD hS => ?_)
    refine lv_bipush (v := 10) hx hb d_M_formFault_67 (by decide) ?_
    refine lv_icmp_gt (tgt := 95) hx hb d_M_formFault_69 (by decide) (fun c26 => ?_) (fun c26 => ?_)
    · have h := if_t c26 h
      refine lv_iconst (v := 2) hx hb d_M_formFault_95 (by decide) ?_
      exact me_reti (me_kp M0) h hx hb hr hlocks hwf hkp hP hK hD hS d_M_formFault_96
    have h := if_f c26 h
    refine lv_iload hx hb d_M_formFault_72 (lv_at hl 0 rfl) ?_
    refine lv_if_eq (tgt := 86) hx hb d_M_formFault_74 (by decide) (fun c27 => ?_) (fun c27 => ?_)
    · have h := if_t c27 h
      exact b_86 M y2 y4 y5 y6 _ _ _ h hwf hkp hP hD hS (lv_sub hl [1, 2, 3, 4, 5] rfl)
    have h := if_f c27 h
    refine lv_lload_n hx hb d_M_formFault_77 rfl (lv_at hl 2 rfl) ?_
    obtain ⟨r28, er28, h⟩ := bd_ob h
    refine me_pani' (r0 := r28) (fg_runS (wc := []) (tc := []) (A2 := A) (As := [.long y2]) (rest := []) ⟨hx, hb, hml, hown, hts⟩ (c_M_toOf l D r28 y2 er28 _) (by show fg_nm y_M_toOf 1; decide +kernel) u_2006 u_2007 u_192 u_2008 ⟨Nat.le_of_ble_eq_true rfl, Nat.le_of_ble_eq_true rfl⟩ hX me_P0 (hK.sub (tys' := []) [] rfl) me_D0 rfl hl.1 (Nat.le_of_ble_eq_true rfl) d_M_formFault_78 ⟨Nat.le_of_ble_eq_true rfl, Nat.le_of_ble_eq_true rfl⟩) hP hD hK hS hA rfl rfl (fun H locs hw hP hD hS => ?_)
    refine lv_bipush (v := 10) hx hb d_M_formFault_81 (by decide) ?_
    refine lv_icmp_eq (tgt := 95) hx hb d_M_formFault_83 (by decide) (fun c29 => ?_) (fun c29 => ?_)
    · have h := if_t c29 h
      refine lv_iconst (v := 2) hx hb d_M_formFault_95 (by decide) ?_
      exact me_reti (me_kp M0) h hx hb hr hlocks hwf hkp hP hK hD hS d_M_formFault_96
    have h := if_f c29 h
    exact b_86 M y2 y4 y5 y6 _ _ _ h hwf hkp hP hD hS (lv_sub hl [1, 2, 3, 4, 5] rfl)
  have b_56 : ∀ (M : me_M) (y2 : Int64) (y4 : Int32) (y5 : Int32) (y6 : Int32) (H : Heap) (locs : List Loc) (ls : Array Slot), f_M_formFault_b56 j0 M y2 y4 y5 y6 = (some (MZ, RZ)) → me_wf N M → me_kp M0 M → va_P D classes (me_W ad ca M) H → va_D A (me_W ad ca M) → va_S A s.heap H locs → lv_has ls 9 [(0, .ref (ad 1 j0)), (2, .long y2), (4, .int y4), (5, .int y5), (6, .int y6)] → W p l e rm_M_formFault s m [.ref (ad 1 j0), .int x1].toArray below meth c H locs 0 0 (MQ below (q_M_formFault D ad ca N M0 MZ RZ A) [.ref (ad 1 j0), .int x1].toArray s rm_M_formFault.cells rm_M_formFault.slots A) (F0 m 56 ls []) := by
    intro M y2 y4 y5 y6 H locs ls h hwf hkp hP hD hS hl
    unfold f_M_formFault_b56 at h
    have hkb := hkp
    refine lv_iconst (v := 1) hx hb d_M_formFault_56 (by decide) ?_
    refine lv_goto (tgt := 61) hx hb d_M_formFault_57 (by decide) ?_
    exact b_61 M y2 y4 y5 y6 (1 : Int32) _ _ _ h (by decide) hwf hkp hP hD hS (lv_sub hl [0, 1, 2, 3, 4] rfl)
  refine lv_aload_n hx hb d_M_formFault_0 rfl (lv_at hl 0 rfl) ?_
  refine lv_iload_n hx hb d_M_formFault_1 rfl (lv_at hl 1 rfl) ?_
  obtain ⟨M30, r31, eM30, h⟩ := b2_ob h
  refine me_theni0 (M1 := M30) (me_runV (C := "FilterGuardModel") (As := [.int x1]) (rest := []) ⟨hx, hb, hml, hown, hts⟩ (c_M_isWellMade l D ad ca N M0 M30 r31 j0 x1 eM30 hwf hj0 _) rfl (by show fg_nm y_M_isWellMade 1; decide +kernel) u_1993 u_1995 u_88 u_192 u_1996 ⟨Nat.le_of_ble_eq_true rfl, Nat.le_of_ble_eq_true rfl⟩ hX hz hK hP hD hwf hS hA hj0 (by decide) rfl rfl rfl hl.1 (Nat.le_of_ble_eq_true rfl) d_M_formFault_2 ⟨Nat.le_of_ble_eq_true rfl, Nat.le_of_ble_eq_true rfl⟩) hP hD hK hS hA rfl rfl (fun H locs hw hP hD hS => ?_)
  obtain ⟨hwf, hk9, zr31⟩ := hw
  have hkp := hkp.tr hk9
  refine lv_if_ne (tgt := 10) hx hb d_M_formFault_5 (by decide) (fun c32 => ?_) (fun c32 => ?_)
  · have h := if_f c32 h
    refine lv_aload_n hx hb d_M_formFault_10 rfl (lv_at hl 0 rfl) ?_
    refine g_M_13 hx hb hts hown hK hP hwf hj0 (hts _ u_1754) d_M_formFault_11 ?_
    obtain ⟨j33, e34, h⟩ := bd_ob h
    have hj33 : j33 < N 16 := (hwf.2.1 1 j0 13 _ (kp_r hkb hkp e34) (by decide) hj0)
    refine me_opt (j := j33) (kp_r hkb hkp e34) ?_
    refine lv_iload_n hx hb d_M_formFault_14 rfl (lv_at hl 1 rfl) ?_
    obtain ⟨g35, h⟩ := gd_ob h
    refine me_lald hx hb hK hP hwf hj33 (kp_z hkb.z hkp.z g35) d_M_formFault_15 ?_
    obtain ⟨v36, ev36, h⟩ := st_ob h
    refine fg_topl (y := v36) ev36.symm ?_
    refine lv_lstore_n (lv' := [(2, .long v36), (0, .ref (ad 1 j0)), (1, .int x1)]) hx hb d_M_formFault_16 rfl hl (by decide) rfl (fun ls hl => ?_)
    refine lv_lload_n hx hb d_M_formFault_17 rfl (lv_at hl 0 rfl) ?_
    obtain ⟨r37, er37, h⟩ := bd_ob h
    refine me_pani' (r0 := r37) (fg_runS (wc := []) (tc := []) (A2 := A) (As := [.long v36]) (rest := []) ⟨hx, hb, hml, hown, hts⟩ (c_M_opOf l D r37 v36 er37 _) (by show fg_nm y_M_opOf 1; decide +kernel) u_1997 u_1998 u_192 u_1999 ⟨Nat.le_of_ble_eq_true rfl, Nat.le_of_ble_eq_true rfl⟩ hX me_P0 (hK.sub (tys' := []) [] rfl) me_D0 rfl hl.1 (Nat.le_of_ble_eq_true rfl) d_M_formFault_18 ⟨Nat.le_of_ble_eq_true rfl, Nat.le_of_ble_eq_true rfl⟩) hP hD hK hS hA rfl rfl (fun H locs hw hP hD hS => ?_)
    refine lv_istore (lv' := [(4, .int r37), (2, .long v36), (0, .ref (ad 1 j0)), (1, .int x1)]) hx hb d_M_formFault_21 hl (by decide) rfl (fun ls hl => ?_)
    refine lv_iload hx hb d_M_formFault_23 (lv_at hl 0 rfl) ?_
    obtain ⟨r38, er38, h⟩ := bd_ob h
    refine me_pani' (r0 := r38) (fg_runS (wc := []) (tc := []) (A2 := A) (As := [.int r37]) (rest := []) ⟨hx, hb, hml, hown, hts⟩ (c_M_instruction l D r38 r37 er38 _) (by show fg_nm y_M_instruction 1; decide +kernel) u_2000 u_2001 u_192 u_2002 ⟨Nat.le_of_ble_eq_true rfl, Nat.le_of_ble_eq_true rfl⟩ hX me_P0 (hK.sub (tys' := []) [] rfl) me_D0 rfl hl.1 (Nat.le_of_ble_eq_true rfl) d_M_formFault_25 ⟨Nat.le_of_ble_eq_true rfl, Nat.le_of_ble_eq_true rfl⟩) hP hD hK hS hA rfl rfl (fun H locs hw hP hD hS => ?_)
    refine lv_istore (lv' := [(5, .int r38), (4, .int r37), (2, .long v36), (0, .ref (ad 1 j0)), (1, .int x1)]) hx hb d_M_formFault_28 hl (by decide) rfl (fun ls hl => ?_)
    refine lv_lload_n hx hb d_M_formFault_30 rfl (lv_at hl 2 rfl) ?_
    obtain ⟨r39, er39, h⟩ := bd_ob h
    refine me_pani' (r0 := r39) (fg_runS (wc := []) (tc := []) (A2 := A) (As := [.long v36]) (rest := []) ⟨hx, hb, hml, hown, hts⟩ (c_M_fieldOf l D r39 v36 er39 _) (by show fg_nm y_M_fieldOf 1; decide +kernel) u_2016 u_2017 u_192 u_2018 ⟨Nat.le_of_ble_eq_true rfl, Nat.le_of_ble_eq_true rfl⟩ hX me_P0 (hK.sub (tys' := []) [] rfl) me_D0 rfl hl.1 (Nat.le_of_ble_eq_true rfl) d_M_formFault_31 ⟨Nat.le_of_ble_eq_true rfl, Nat.le_of_ble_eq_true rfl⟩) hP hD hK hS hA rfl rfl (fun H locs hw hP hD hS => ?_)
    refine lv_istore (lv' := [(6, .int r39), (5, .int r38), (4, .int r37), (2, .long v36), (0, .ref (ad 1 j0)), (1, .int x1)]) hx hb d_M_formFault_34 hl (by decide) rfl (fun ls hl => ?_)
    refine lv_iload hx hb d_M_formFault_36 (lv_at hl 1 rfl) ?_
    refine lv_iconst (v := 1) hx hb d_M_formFault_38 (by decide) ?_
    refine lv_icmp_eq (tgt := 56) hx hb d_M_formFault_39 (by decide) (fun c40 => ?_) (fun c40 => ?_)
    · have h := if_t c40 h
      exact b_56 M30 v36 r37 r38 r39 _ _ _ h hwf hkp hP hD hS (lv_sub hl [4, 3, 2, 1, 0] rfl)
    have h := if_f c40 h
    refine lv_iload hx hb d_M_formFault_42 (lv_at hl 1 rfl) ?_
    refine lv_iconst (v := 2) hx hb d_M_formFault_44 (by decide) ?_
    refine lv_icmp_eq (tgt := 56) hx hb d_M_formFault_45 (by decide) (fun c41 => ?_) (fun c41 => ?_)
    · have h := if_t c41 h
      exact b_56 M30 v36 r37 r38 r39 _ _ _ h hwf hkp hP hD hS (lv_sub hl [4, 3, 2, 1, 0] rfl)
    have h := if_f c41 h
    refine lv_iload hx hb d_M_formFault_48 (lv_at hl 1 rfl) ?_
    obtain ⟨r42, er42, h⟩ := bd_ob h
    refine me_pani' (r0 := r42) (fg_runS (wc := []) (tc := []) (A2 := A) (As := [.int r38]) (rest := []) ⟨hx, hb, hml, hown, hts⟩ (c_M_isArithmetic l D r42 r38 er42 _) (by show fg_nm y_M_isArithmetic 1; decide +kernel) u_2023 u_2024 u_192 u_2025 ⟨Nat.le_of_ble_eq_true rfl, Nat.le_of_ble_eq_true rfl⟩ hX me_P0 (hK.sub (tys' := []) [] rfl) me_D0 rfl hl.1 (Nat.le_of_ble_eq_true rfl) d_M_formFault_50 ⟨Nat.le_of_ble_eq_true rfl, Nat.le_of_ble_eq_true rfl⟩) hP hD hK hS hA rfl rfl (fun H locs hw hP hD hS => ?_)
    have zr42 := hw
    refine lv_if_eq (tgt := 60) hx hb d_M_formFault_53 (by decide) (fun c43 => ?_) (fun c43 => ?_)
    · have h := if_t c43 h
      refine lv_iconst (v := 0) hx hb d_M_formFault_60 (by decide) ?_
      exact b_61 M30 v36 r37 r38 r39 (0 : Int32) _ _ _ h (by decide) hwf hkp hP hD hS (lv_sub hl [4, 3, 2, 1, 0] rfl)
    have h := if_f c43 h
    exact b_56 M30 v36 r37 r38 r39 _ _ _ h hwf hkp hP hD hS (lv_sub hl [4, 3, 2, 1, 0] rfl)
  have h := if_t c32 h
  refine lv_iconst (v := 1) hx hb d_M_formFault_8 (by decide) ?_
  exact me_reti (me_kp M0) h hx hb hr hlocks hwf hkp hP hK hD hS d_M_formFault_9
theorem d_M_form_146 : decode prog_14_method_57_code 146 = .ok (.aload_n 0, 1) := by decide +kernel
theorem d_M_form_147 : decode prog_14_method_57_code 147 = .ok (.iload_n 3, 1) := by decide +kernel
theorem d_M_form_148 : decode prog_14_method_57_code 148 = .ok (.putfield 351, 3) := by decide +kernel
theorem u_1762 : Cond.fieldLink "FilterGuardModel" 351 "FilterGuardModel" "faultSlot" "I" ∈ fg_g := fg_in (List.mem_of_getElem? (i := 1762) (by decide +kernel)) rfl
theorem p_M_21 {p : Program} {l : Launch} {e : Env} {R : Room} {s : Jvm.State} {m : MethodId} {args : Array Value} {below : List Frame} {meth : Method} {c : Code} {H : Heap} {locs : List Loc} {cells slots : Nat} {Q : Jvm.State → Prop} {cc : ByteArray} {pc : Nat} {ls : Array Slot} {rest : List Value} {D : va_G} {A : Nat → Prop} {H0 : Heap} {ad : Nat → Nat → Nat} {ca : Nat → ClassId} {M M1 : me_M} {N : Nat → Nat} {own : String} {index j : Nat} {v : Int32} (he : M1 = wI M 1 j 21 v) (hexec : p.tables.exec = Jvm.exec) (hb : c.code = cc) (hts : ∀ w ∈ fg_g, w.before args s = true) (hown : s.vm.findClass own = some m.cls) (hK : va_K D classes (me_T ca) s) (hP : va_P D classes (me_W ad ca M) H) (hD : va_D A (me_W ad ca M)) (hwf : me_wf N M) (hS : va_S A H0 H locs) (hj : j < N 1) (hlink : (Cond.fieldLink own index "FilterGuardModel" "faultSlot" "I").before args s = true) (hdg : decode cc pc = .ok (.putfield index, 3)) (kk : ∀ (H1 : Heap) (locs1 : List Loc), va_P D classes (me_W ad ca M1) H1 → va_D A (me_W ad ca M1) → me_wf N M1 → va_S A H0 H1 locs1 → W p l e R s m args below meth c H1 locs1 cells slots Q (F0 m (pc + 3) ls rest)) : W p l e R s m args below meth c H locs cells slots Q (F0 m pc ls (.int v :: .ref (ad 1 j) :: rest)) := by
  subst he
  exact me_put (M1 := wI M 1 j 21 v) (k := 1) (f := 21) (C := "FilterGuardModel") (T := F_M) (Nf := 75) hexec hb hts i_M t_M t_M_ok n_M hown hK hP hD hwf hS hj (by decide) rfl (by decide) (by decide) hlink (fun _ h9 => h9) rfl rfl rfl rfl (fun a b h => me_wIE h) (me_fIw (by decide) (by decide)) hdg (fun H1 locs1 a1 a2 a3 => kk H1 locs1 a1 a2 (me_wfI hwf (fun z => absurd z (by decide)) (fun z => absurd z (by decide))) a3)
theorem d_M_form_151 : decode prog_14_method_57_code 151 = .ok (.iload_n 3, 1) := by decide +kernel
theorem d_M_form_152 : decode prog_14_method_57_code 152 = .ok (.iconst 1, 1) := by decide +kernel
theorem d_M_form_153 : decode prog_14_method_57_code 153 = .ok (.iadd, 1) := by decide +kernel
theorem d_M_form_154 : decode prog_14_method_57_code 154 = .ok (.aload_n 0, 1) := by decide +kernel
theorem d_M_form_155 : decode prog_14_method_57_code 155 = .ok (.getfield 37, 3) := by decide +kernel
theorem d_M_form_158 : decode prog_14_method_57_code 158 = .ok (.iload_n 3, 1) := by decide +kernel
theorem d_M_form_159 : decode prog_14_method_57_code 159 = .ok (.laload, 1) := by decide +kernel
theorem d_M_form_160 : decode prog_14_method_57_code 160 = .ok (.invokestatic 321, 3) := by decide +kernel
theorem d_M_form_163 : decode prog_14_method_57_code 163 = .ok (.iadd, 1) := by decide +kernel
theorem d_M_form_164 : decode prog_14_method_57_code 164 = .ok (.istore 5, 2) := by decide +kernel
theorem d_M_form_166 : decode prog_14_method_57_code 166 = .ok (.iload 5, 2) := by decide +kernel
theorem d_M_form_168 : decode prog_14_method_57_code 168 = .ok (.ifCond .lt 34, 3) := by decide +kernel
theorem d_M_form_202 : decode prog_14_method_57_code 202 = .ok (.iconst 5, 1) := by decide +kernel
theorem d_M_form_203 : decode prog_14_method_57_code 203 = .ok (.ireturn, 1) := by decide +kernel
theorem d_M_form_171 : decode prog_14_method_57_code 171 = .ok (.iload 5, 2) := by decide +kernel
theorem d_M_form_173 : decode prog_14_method_57_code 173 = .ok (.iload_n 1, 1) := by decide +kernel
theorem d_M_form_174 : decode prog_14_method_57_code 174 = .ok (.if_icmp .ge 28, 3) := by decide +kernel
theorem d_M_form_177 : decode prog_14_method_57_code 177 = .ok (.aload_n 0, 1) := by decide +kernel
theorem d_M_form_178 : decode prog_14_method_57_code 178 = .ok (.getfield 62, 3) := by decide +kernel
theorem g_M_32 {p : Program} {l : Launch} {e : Env} {R : Room} {s : Jvm.State} {m : MethodId} {args : Array Value} {below : List Frame} {meth : Method} {c : Code} {H : Heap} {locs : List Loc} {cells slots : Nat} {Q : Jvm.State → Prop} {cc : ByteArray} {pc : Nat} {ls : Array Slot} {rest : List Value} {D : va_G} {ad : Nat → Nat → Nat} {ca : Nat → ClassId} {M : me_M} {N : Nat → Nat} {own : String} {index j : Nat} (hexec : p.tables.exec = Jvm.exec) (hb : c.code = cc) (hts : ∀ w ∈ fg_g, w.before args s = true) (hown : s.vm.findClass own = some m.cls) (hK : va_K D classes (me_T ca) s) (hP : va_P D classes (me_W ad ca M) H) (hwf : me_wf N M) (hj : j < N 1) (hlink : (Cond.fieldLink own index "FilterGuardModel" "second" "[Z").before args s = true) (hdg : decode cc pc = .ok (.getfield index, 3)) (kk : W p l e R s m args below meth c H locs cells slots Q (F0 m (pc + 3) ls (va_rf ((mR M 1 j 32).map (ad 15)) :: rest))) : W p l e R s m args below meth c H locs cells slots Q (F0 m pc ls (.ref (ad 1 j) :: rest)) := me_get (k := 1) (f := 32) (C := "FilterGuardModel") (T := F_M) (Nf := 75) hexec hb hts i_M hown hK hP hwf hj (by decide) rfl (by decide) (by decide) hlink (fun _ h9 => h9) hdg kk
theorem d_M_form_181 : decode prog_14_method_57_code 181 = .ok (.iload 5, 2) := by decide +kernel
theorem d_M_form_183 : decode prog_14_method_57_code 183 = .ok (.ifCond .lt 14, 3) := by decide +kernel
theorem d_M_form_197 : decode prog_14_method_57_code 197 = .ok (.iconst 0, 1) := by decide +kernel
theorem d_M_form_198 : decode prog_14_method_57_code 198 = .ok (.baload, 1) := by decide +kernel
theorem d_M_form_199 : decode prog_14_method_57_code 199 = .ok (.ifCond .eq 5, 3) := by decide +kernel
theorem d_M_form_204 : decode prog_14_method_57_code 204 = .ok (.aload_n 0, 1) := by decide +kernel
theorem d_M_form_205 : decode prog_14_method_57_code 205 = .ok (.getfield 65, 3) := by decide +kernel
theorem g_M_33 {p : Program} {l : Launch} {e : Env} {R : Room} {s : Jvm.State} {m : MethodId} {args : Array Value} {below : List Frame} {meth : Method} {c : Code} {H : Heap} {locs : List Loc} {cells slots : Nat} {Q : Jvm.State → Prop} {cc : ByteArray} {pc : Nat} {ls : Array Slot} {rest : List Value} {D : va_G} {ad : Nat → Nat → Nat} {ca : Nat → ClassId} {M : me_M} {N : Nat → Nat} {own : String} {index j : Nat} (hexec : p.tables.exec = Jvm.exec) (hb : c.code = cc) (hts : ∀ w ∈ fg_g, w.before args s = true) (hown : s.vm.findClass own = some m.cls) (hK : va_K D classes (me_T ca) s) (hP : va_P D classes (me_W ad ca M) H) (hwf : me_wf N M) (hj : j < N 1) (hlink : (Cond.fieldLink own index "FilterGuardModel" "isMark" "[Z").before args s = true) (hdg : decode cc pc = .ok (.getfield index, 3)) (kk : W p l e R s m args below meth c H locs cells slots Q (F0 m (pc + 3) ls (va_rf ((mR M 1 j 33).map (ad 15)) :: rest))) : W p l e R s m args below meth c H locs cells slots Q (F0 m pc ls (.ref (ad 1 j) :: rest)) := me_get (k := 1) (f := 33) (C := "FilterGuardModel") (T := F_M) (Nf := 75) hexec hb hts i_M hown hK hP hwf hj (by decide) rfl (by decide) (by decide) hlink (fun _ h9 => h9) hdg kk
theorem d_M_form_208 : decode prog_14_method_57_code 208 = .ok (.iload 5, 2) := by decide +kernel
theorem d_M_form_210 : decode prog_14_method_57_code 210 = .ok (.iconst 1, 1) := by decide +kernel
theorem d_M_form_211 : decode prog_14_method_57_code 211 = .ok (.bastore, 1) := by decide +kernel
theorem d_M_form_212 : decode prog_14_method_57_code 212 = .ok (.iinc 3 1, 3) := by decide +kernel
theorem d_M_form_215 : decode prog_14_method_57_code 215 = .ok (.goto (-118), 3) := by decide +kernel
theorem d_M_form_186 : decode prog_14_method_57_code 186 = .ok (.iload 5, 2) := by decide +kernel
theorem d_M_form_188 : decode prog_14_method_57_code 188 = .ok (.iload_n 1, 1) := by decide +kernel
theorem d_M_form_189 : decode prog_14_method_57_code 189 = .ok (.if_icmp .ge 8, 3) := by decide +kernel
theorem d_M_form_192 : decode prog_14_method_57_code 192 = .ok (.iload 5, 2) := by decide +kernel
theorem d_M_form_194 : decode prog_14_method_57_code 194 = .ok (.goto 4, 3) := by decide +kernel
theorem d_M_form_127 : decode prog_14_method_57_code 127 = .ok (.istore 4, 2) := by decide +kernel
theorem d_M_form_129 : decode prog_14_method_57_code 129 = .ok (.iload 4, 2) := by decide +kernel
theorem d_M_form_131 : decode prog_14_method_57_code 131 = .ok (.bipush 10, 2) := by decide +kernel
theorem d_M_form_133 : decode prog_14_method_57_code 133 = .ok (.if_icmp .eq 13, 3) := by decide +kernel
theorem d_M_form_136 : decode prog_14_method_57_code 136 = .ok (.iload 4, 2) := by decide +kernel
theorem d_M_form_138 : decode prog_14_method_57_code 138 = .ok (.bipush 11, 2) := by decide +kernel
theorem d_M_form_140 : decode prog_14_method_57_code 140 = .ok (.if_icmp .eq 6, 3) := by decide +kernel
theorem d_M_form_143 : decode prog_14_method_57_code 143 = .ok (.goto 69, 3) := by decide +kernel
theorem d_M_form_97 : decode prog_14_method_57_code 97 = .ok (.iload_n 3, 1) := by decide +kernel
theorem d_M_form_98 : decode prog_14_method_57_code 98 = .ok (.iload_n 1, 1) := by decide +kernel
theorem d_M_form_99 : decode prog_14_method_57_code 99 = .ok (.if_icmp .ge 119, 3) := by decide +kernel
theorem d_M_form_218 : decode prog_14_method_57_code 218 = .ok (.aload_n 0, 1) := by decide +kernel
theorem d_M_form_219 : decode prog_14_method_57_code 219 = .ok (.iload_n 2, 1) := by decide +kernel
theorem d_M_form_220 : decode prog_14_method_57_code 220 = .ok (.putfield 351, 3) := by decide +kernel
theorem d_M_form_223 : decode prog_14_method_57_code 223 = .ok (.aload_n 0, 1) := by decide +kernel
theorem d_M_form_224 : decode prog_14_method_57_code 224 = .ok (.getfield 37, 3) := by decide +kernel
theorem d_M_form_227 : decode prog_14_method_57_code 227 = .ok (.iload_n 2, 1) := by decide +kernel
theorem d_M_form_228 : decode prog_14_method_57_code 228 = .ok (.laload, 1) := by decide +kernel
theorem d_M_form_229 : decode prog_14_method_57_code 229 = .ok (.invokestatic 308, 3) := by decide +kernel
theorem d_M_form_232 : decode prog_14_method_57_code 232 = .ok (.invokestatic 312, 3) := by decide +kernel
theorem d_M_form_235 : decode prog_14_method_57_code 235 = .ok (.istore_n 3, 1) := by decide +kernel
theorem d_M_form_236 : decode prog_14_method_57_code 236 = .ok (.iload_n 3, 1) := by decide +kernel
theorem d_M_form_237 : decode prog_14_method_57_code 237 = .ok (.bipush 13, 2) := by decide +kernel
theorem d_M_form_239 : decode prog_14_method_57_code 239 = .ok (.if_icmp .eq 9, 3) := by decide +kernel
theorem d_M_form_248 : decode prog_14_method_57_code 248 = .ok (.iconst 0, 1) := by decide +kernel
theorem d_M_form_249 : decode prog_14_method_57_code 249 = .ok (.goto 5, 3) := by decide +kernel
theorem d_M_form_254 : decode prog_14_method_57_code 254 = .ok (.ireturn, 1) := by decide +kernel
theorem d_M_form_242 : decode prog_14_method_57_code 242 = .ok (.iload_n 3, 1) := by decide +kernel
theorem d_M_form_243 : decode prog_14_method_57_code 243 = .ok (.bipush 10, 2) := by decide +kernel
theorem d_M_form_245 : decode prog_14_method_57_code 245 = .ok (.if_icmp .ne 7, 3) := by decide +kernel
theorem d_M_form_252 : decode prog_14_method_57_code 252 = .ok (.bipush 6, 2) := by decide +kernel
theorem d_M_form_102 : decode prog_14_method_57_code 102 = .ok (.aload_n 0, 1) := by decide +kernel
theorem d_M_form_103 : decode prog_14_method_57_code 103 = .ok (.getfield 62, 3) := by decide +kernel
theorem d_M_form_106 : decode prog_14_method_57_code 106 = .ok (.iload_n 3, 1) := by decide +kernel
theorem d_M_form_107 : decode prog_14_method_57_code 107 = .ok (.baload, 1) := by decide +kernel
theorem d_M_form_108 : decode prog_14_method_57_code 108 = .ok (.ifCond .eq 7, 3) := by decide +kernel
theorem d_M_form_115 : decode prog_14_method_57_code 115 = .ok (.aload_n 0, 1) := by decide +kernel
theorem d_M_form_116 : decode prog_14_method_57_code 116 = .ok (.getfield 37, 3) := by decide +kernel
theorem d_M_form_119 : decode prog_14_method_57_code 119 = .ok (.iload_n 3, 1) := by decide +kernel
theorem d_M_form_120 : decode prog_14_method_57_code 120 = .ok (.laload, 1) := by decide +kernel
theorem d_M_form_121 : decode prog_14_method_57_code 121 = .ok (.invokestatic 308, 3) := by decide +kernel
theorem d_M_form_124 : decode prog_14_method_57_code 124 = .ok (.invokestatic 312, 3) := by decide +kernel
theorem d_M_form_111 : decode prog_14_method_57_code 111 = .ok (.iconst 0, 1) := by decide +kernel
theorem d_M_form_112 : decode prog_14_method_57_code 112 = .ok (.goto 15, 3) := by decide +kernel
theorem d_M_form_36 : decode prog_14_method_57_code 36 = .ok (.iload_n 3, 1) := by decide +kernel
theorem d_M_form_37 : decode prog_14_method_57_code 37 = .ok (.iload_n 1, 1) := by decide +kernel
theorem d_M_form_38 : decode prog_14_method_57_code 38 = .ok (.if_icmp .ge 57, 3) := by decide +kernel
theorem d_M_form_95 : decode prog_14_method_57_code 95 = .ok (.iconst 0, 1) := by decide +kernel
theorem d_M_form_96 : decode prog_14_method_57_code 96 = .ok (.istore_n 3, 1) := by decide +kernel
theorem d_M_form_41 : decode prog_14_method_57_code 41 = .ok (.aload_n 0, 1) := by decide +kernel
theorem d_M_form_42 : decode prog_14_method_57_code 42 = .ok (.iload_n 3, 1) := by decide +kernel
theorem d_M_form_43 : decode prog_14_method_57_code 43 = .ok (.putfield 351, 3) := by decide +kernel
theorem d_M_form_46 : decode prog_14_method_57_code 46 = .ok (.iload_n 3, 1) := by decide +kernel
theorem d_M_form_47 : decode prog_14_method_57_code 47 = .ok (.istore_n 2, 1) := by decide +kernel
theorem d_M_form_48 : decode prog_14_method_57_code 48 = .ok (.aload_n 0, 1) := by decide +kernel
theorem d_M_form_49 : decode prog_14_method_57_code 49 = .ok (.iload_n 3, 1) := by decide +kernel
theorem d_M_form_50 : decode prog_14_method_57_code 50 = .ok (.invokevirtual 354, 3) := by decide +kernel
theorem u_1989 : Cond.methodLink "FilterGuardModel" 354 ⟨"FilterGuardModel", "formFault", "(I)I"⟩ ∈ fg_g := fg_in (List.mem_of_getElem? (i := 1989) (by decide +kernel)) rfl
theorem u_1992 : Cond.code ⟨"FilterGuardModel", "formFault", "(I)I"⟩ prog_14_method_56_code 9 (some .int) ∈ fg_g := fg_in (List.mem_of_getElem? (i := 1992) (by decide +kernel)) rfl
theorem u_1991 : Cond.instanceMethod ⟨"FilterGuardModel", "formFault", "(I)I"⟩ ∈ fg_g := fg_in (List.mem_of_getElem? (i := 1991) (by decide +kernel)) rfl
theorem u_87 : Cond.selects "FilterGuardModel" ⟨"FilterGuardModel", "formFault", "(I)I"⟩ ⟨"FilterGuardModel", "formFault", "(I)I"⟩ ∈ fg_g := fg_in (List.mem_of_getElem? (i := 87) (by decide +kernel)) rfl
theorem d_M_form_53 : decode prog_14_method_57_code 53 = .ok (.istore 4, 2) := by decide +kernel
theorem d_M_form_55 : decode prog_14_method_57_code 55 = .ok (.iload 4, 2) := by decide +kernel
theorem d_M_form_57 : decode prog_14_method_57_code 57 = .ok (.ifCond .le 6, 3) := by decide +kernel
theorem d_M_form_63 : decode prog_14_method_57_code 63 = .ok (.aload_n 0, 1) := by decide +kernel
theorem d_M_form_64 : decode prog_14_method_57_code 64 = .ok (.getfield 37, 3) := by decide +kernel
theorem d_M_form_67 : decode prog_14_method_57_code 67 = .ok (.iload_n 3, 1) := by decide +kernel
theorem d_M_form_68 : decode prog_14_method_57_code 68 = .ok (.laload, 1) := by decide +kernel
theorem d_M_form_69 : decode prog_14_method_57_code 69 = .ok (.invokestatic 308, 3) := by decide +kernel
theorem d_M_form_72 : decode prog_14_method_57_code 72 = .ok (.invokestatic 312, 3) := by decide +kernel
theorem d_M_form_75 : decode prog_14_method_57_code 75 = .ok (.iconst 1, 1) := by decide +kernel
theorem d_M_form_76 : decode prog_14_method_57_code 76 = .ok (.if_icmp .ne 13, 3) := by decide +kernel
theorem d_M_form_89 : decode prog_14_method_57_code 89 = .ok (.iinc 3 1, 3) := by decide +kernel
theorem d_M_form_92 : decode prog_14_method_57_code 92 = .ok (.goto (-56), 3) := by decide +kernel
theorem d_M_form_79 : decode prog_14_method_57_code 79 = .ok (.iinc 3 1, 3) := by decide +kernel
theorem d_M_form_82 : decode prog_14_method_57_code 82 = .ok (.aload_n 0, 1) := by decide +kernel
theorem d_M_form_83 : decode prog_14_method_57_code 83 = .ok (.getfield 62, 3) := by decide +kernel
theorem d_M_form_86 : decode prog_14_method_57_code 86 = .ok (.iload_n 3, 1) := by decide +kernel
theorem d_M_form_87 : decode prog_14_method_57_code 87 = .ok (.iconst 1, 1) := by decide +kernel
theorem d_M_form_88 : decode prog_14_method_57_code 88 = .ok (.bastore, 1) := by decide +kernel
theorem d_M_form_60 : decode prog_14_method_57_code 60 = .ok (.iload 4, 2) := by decide +kernel
theorem d_M_form_62 : decode prog_14_method_57_code 62 = .ok (.ireturn, 1) := by decide +kernel
theorem d_M_form_7 : decode prog_14_method_57_code 7 = .ok (.iload_n 2, 1) := by decide +kernel
theorem d_M_form_8 : decode prog_14_method_57_code 8 = .ok (.iload_n 1, 1) := by decide +kernel
theorem d_M_form_9 : decode prog_14_method_57_code 9 = .ok (.if_icmp .ge 23, 3) := by decide +kernel
theorem d_M_form_32 : decode prog_14_method_57_code 32 = .ok (.iconst 0, 1) := by decide +kernel
theorem d_M_form_33 : decode prog_14_method_57_code 33 = .ok (.istore_n 2, 1) := by decide +kernel
theorem d_M_form_34 : decode prog_14_method_57_code 34 = .ok (.iconst 0, 1) := by decide +kernel
theorem d_M_form_35 : decode prog_14_method_57_code 35 = .ok (.istore_n 3, 1) := by decide +kernel
theorem d_M_form_12 : decode prog_14_method_57_code 12 = .ok (.aload_n 0, 1) := by decide +kernel
theorem d_M_form_13 : decode prog_14_method_57_code 13 = .ok (.getfield 62, 3) := by decide +kernel
theorem d_M_form_16 : decode prog_14_method_57_code 16 = .ok (.iload_n 2, 1) := by decide +kernel
theorem d_M_form_17 : decode prog_14_method_57_code 17 = .ok (.iconst 0, 1) := by decide +kernel
theorem d_M_form_18 : decode prog_14_method_57_code 18 = .ok (.bastore, 1) := by decide +kernel
theorem d_M_form_19 : decode prog_14_method_57_code 19 = .ok (.aload_n 0, 1) := by decide +kernel
theorem d_M_form_20 : decode prog_14_method_57_code 20 = .ok (.getfield 65, 3) := by decide +kernel
theorem d_M_form_23 : decode prog_14_method_57_code 23 = .ok (.iload_n 2, 1) := by decide +kernel
theorem d_M_form_24 : decode prog_14_method_57_code 24 = .ok (.iconst 0, 1) := by decide +kernel
theorem d_M_form_25 : decode prog_14_method_57_code 25 = .ok (.bastore, 1) := by decide +kernel
theorem d_M_form_26 : decode prog_14_method_57_code 26 = .ok (.iinc 2 1, 3) := by decide +kernel
theorem d_M_form_29 : decode prog_14_method_57_code 29 = .ok (.goto (-22), 3) := by decide +kernel
theorem d_M_form_0 : decode prog_14_method_57_code 0 = .ok (.aload_n 0, 1) := by decide +kernel
theorem d_M_form_1 : decode prog_14_method_57_code 1 = .ok (.iload_n 1, 1) := by decide +kernel
theorem d_M_form_2 : decode prog_14_method_57_code 2 = .ok (.putfield 327, 3) := by decide +kernel
theorem p_M_12 {p : Program} {l : Launch} {e : Env} {R : Room} {s : Jvm.State} {m : MethodId} {args : Array Value} {below : List Frame} {meth : Method} {c : Code} {H : Heap} {locs : List Loc} {cells slots : Nat} {Q : Jvm.State → Prop} {cc : ByteArray} {pc : Nat} {ls : Array Slot} {rest : List Value} {D : va_G} {A : Nat → Prop} {H0 : Heap} {ad : Nat → Nat → Nat} {ca : Nat → ClassId} {M M1 : me_M} {N : Nat → Nat} {own : String} {index j : Nat} {v : Int32} (he : M1 = wI M 1 j 12 v) (hexec : p.tables.exec = Jvm.exec) (hb : c.code = cc) (hts : ∀ w ∈ fg_g, w.before args s = true) (hown : s.vm.findClass own = some m.cls) (hK : va_K D classes (me_T ca) s) (hP : va_P D classes (me_W ad ca M) H) (hD : va_D A (me_W ad ca M)) (hwf : me_wf N M) (hS : va_S A H0 H locs) (hj : j < N 1) (hlink : (Cond.fieldLink own index "FilterGuardModel" "told" "I").before args s = true) (hdg : decode cc pc = .ok (.putfield index, 3)) (kk : ∀ (H1 : Heap) (locs1 : List Loc), va_P D classes (me_W ad ca M1) H1 → va_D A (me_W ad ca M1) → me_wf N M1 → va_S A H0 H1 locs1 → W p l e R s m args below meth c H1 locs1 cells slots Q (F0 m (pc + 3) ls rest)) : W p l e R s m args below meth c H locs cells slots Q (F0 m pc ls (.int v :: .ref (ad 1 j) :: rest)) := by
  subst he
  exact me_put (M1 := wI M 1 j 12 v) (k := 1) (f := 12) (C := "FilterGuardModel") (T := F_M) (Nf := 75) hexec hb hts i_M t_M t_M_ok n_M hown hK hP hD hwf hS hj (by decide) rfl (by decide) (by decide) hlink (fun _ h9 => h9) rfl rfl rfl rfl (fun a b h => me_wIE h) (me_fIw (by decide) (by decide)) hdg (fun H1 locs1 a1 a2 a3 => kk H1 locs1 a1 a2 (me_wfI hwf (fun z => absurd z (by decide)) (fun z => absurd z (by decide))) a3)
theorem d_M_form_5 : decode prog_14_method_57_code 5 = .ok (.iconst 0, 1) := by decide +kernel
theorem d_M_form_6 : decode prog_14_method_57_code 6 = .ok (.istore_n 2, 1) := by decide +kernel
abbrev y_M_form : MethodName := ⟨"FilterGuardModel", "form", "(I)I"⟩
def f_M_form_b146 (k97 : me_M → Int32 → Int32 → Option (me_M × Int32)) (j0 : Nat) (x1 : Int32) (M : me_M) (y2 : Int32) (y3 : Int32) : Option (me_M × Int32) := st (wI M 1 j0 21 y3) (fun (M1 : me_M) => bd (mR M 1 j0 13) (fun (j2 : Nat) => gd (¬ (y3 < 0 ∨ mZ M 16 j2 ≤ y3.toNatClampNeg)) (bd (f_M_offsetOf (mL M1 16 j2 y3.toNatClampNeg)) (fun (r5 : Int32) => st ((y3 + 1) + r5) (fun (v6 : Int32) => (if v6 < 0 then some (M1, (5 : Int32)) else (if x1 ≤ v6 then some (M1, (5 : Int32)) else bd (mR M 1 j0 32) (fun (j9 : Nat) => (if v6 < 0 then gd (0 < mZ M 15 j9) ((if (mI M1 15 j9 0) = 0 then bd (mR M 1 j0 33) (fun (j15 : Nat) => gd (¬ (v6 < 0 ∨ mZ M 15 j15 ≤ v6.toNatClampNeg)) (st (wI M1 15 j15 v6.toNatClampNeg (vp_nar .boolean (1 : Int32))) (fun (M18 : me_M) => k97 M18 y2 (y3 + 1)))) else some (M1, (5 : Int32)))) else (if x1 ≤ v6 then gd (0 < mZ M 15 j9) ((if (mI M1 15 j9 0) = 0 then bd (mR M 1 j0 33) (fun (j23 : Nat) => gd (¬ (v6 < 0 ∨ mZ M 15 j23 ≤ v6.toNatClampNeg)) (st (wI M1 15 j23 v6.toNatClampNeg (vp_nar .boolean (1 : Int32))) (fun (M26 : me_M) => k97 M26 y2 (y3 + 1)))) else some (M1, (5 : Int32)))) else gd (¬ (v6 < 0 ∨ mZ M 15 j9 ≤ v6.toNatClampNeg)) ((if (mI M1 15 j9 v6.toNatClampNeg) = 0 then bd (mR M 1 j0 33) (fun (j30 : Nat) => gd (¬ (v6 < 0 ∨ mZ M 15 j30 ≤ v6.toNatClampNeg)) (st (wI M1 15 j30 v6.toNatClampNeg (vp_nar .boolean (1 : Int32))) (fun (M33 : me_M) => k97 M33 y2 (y3 + 1)))) else some (M1, (5 : Int32))))))))))))))
def f_M_form_b127 (k97 : me_M → Int32 → Int32 → Option (me_M × Int32)) (j0 : Nat) (x1 : Int32) (M : me_M) (y2 : Int32) (y3 : Int32) (s0 : Int32) : Option (me_M × Int32) := (if s0 = 10 then f_M_form_b146 k97 j0 x1 M y2 y3 else (if s0 = 11 then f_M_form_b146 k97 j0 x1 M y2 y3 else k97 M y2 (y3 + 1)))
def f_M_form_l97 (j0 : Nat) (x1 : Int32) : Nat → me_M → Int32 → Int32 → Option (me_M × Int32)
  | 0, _, _, _ => none
  | fu + 1, M, y2, y3 => (if x1 ≤ y3 then st (wI M 1 j0 21 y2) (fun (M37 : me_M) => bd (mR M 1 j0 13) (fun (j38 : Nat) => gd (¬ (y2 < 0 ∨ mZ M 16 j38 ≤ y2.toNatClampNeg)) (bd (f_M_opOf (mL M37 16 j38 y2.toNatClampNeg)) (fun (r41 : Int32) => bd (f_M_instruction r41) (fun (r42 : Int32) => (if r42 = 13 then some (M37, (0 : Int32)) else (if r42 = 10 then some (M37, (0 : Int32)) else some (M37, (6 : Int32))))))))) else bd (mR M 1 j0 32) (fun (j45 : Nat) => gd (¬ (y3 < 0 ∨ mZ M 15 j45 ≤ y3.toNatClampNeg)) ((if (mI M 15 j45 y3.toNatClampNeg) = 0 then bd (mR M 1 j0 13) (fun (j50 : Nat) => gd (¬ (y3 < 0 ∨ mZ M 16 j50 ≤ y3.toNatClampNeg)) (bd (f_M_opOf (mL M 16 j50 y3.toNatClampNeg)) (fun (r53 : Int32) => bd (f_M_instruction r53) (fun (r54 : Int32) => f_M_form_b127 (f_M_form_l97 j0 x1 fu) j0 x1 M y2 y3 r54)))) else f_M_form_b127 (f_M_form_l97 j0 x1 fu) j0 x1 M y2 y3 (0 : Int32)))))
def f_M_form_l36 (j0 : Nat) (x1 : Int32) : Nat → me_M → Int32 → Int32 → Option (me_M × Int32)
  | 0, _, _, _ => none
  | fu + 1, M, y2, y3 => (if x1 ≤ y3 then f_M_form_l97 j0 x1 fuel M y2 (0 : Int32) else st (wI M 1 j0 21 y3) (fun (M56 : me_M) => b2 (f_M_formFault M56 j0 y3) (fun (M57 : me_M) (r58 : Int32) => (if r58 ≤ 0 then bd (mR M 1 j0 13) (fun (j60 : Nat) => gd (¬ (y3 < 0 ∨ mZ M 16 j60 ≤ y3.toNatClampNeg)) (bd (f_M_opOf (mL M57 16 j60 y3.toNatClampNeg)) (fun (r63 : Int32) => bd (f_M_instruction r63) (fun (r64 : Int32) => (if r64 = 1 then bd (mR M 1 j0 32) (fun (j66 : Nat) => gd (¬ ((y3 + 1) < 0 ∨ mZ M 15 j66 ≤ (y3 + 1).toNatClampNeg)) (st (wI M57 15 j66 (y3 + 1).toNatClampNeg (vp_nar .boolean (1 : Int32))) (fun (M69 : me_M) => f_M_form_l36 j0 x1 fu M69 y3 ((y3 + 1) + 1)))) else f_M_form_l36 j0 x1 fu M57 y3 (y3 + 1)))))) else some (M57, r58)))))
def f_M_form_l7 (j0 : Nat) (x1 : Int32) : Nat → me_M → Int32 → Option (me_M × Int32)
  | 0, _, _ => none
  | fu + 1, M, y2 => (if x1 ≤ y2 then f_M_form_l36 j0 x1 fuel M (0 : Int32) (0 : Int32) else bd (mR M 1 j0 32) (fun (j71 : Nat) => gd (¬ (y2 < 0 ∨ mZ M 15 j71 ≤ y2.toNatClampNeg)) (st (wI M 15 j71 y2.toNatClampNeg (vp_nar .boolean (0 : Int32))) (fun (M74 : me_M) => bd (mR M 1 j0 33) (fun (j75 : Nat) => gd (¬ (y2 < 0 ∨ mZ M 15 j75 ≤ y2.toNatClampNeg)) (st (wI M74 15 j75 y2.toNatClampNeg (vp_nar .boolean (0 : Int32))) (fun (M78 : me_M) => f_M_form_l7 j0 x1 fu M78 (y2 + 1))))))))
def f_M_form (M0 : me_M) (j0 : Nat) (x1 : Int32) : Option (me_M × Int32) := st (wI M0 1 j0 12 x1) (fun (M79 : me_M) => f_M_form_l7 j0 x1 fuel M79 (0 : Int32))
def rm_M_form : Room := { frames := 5, cells := 0, slots := 0, locals := 118 }
abbrev q_M_form (D : va_G) (ad : Nat → Nat → Nat) (ca : Nat → ClassId) (N : Nat → Nat) (M0 MZ : me_M) (RZ : Int32) (A : Nat → Prop) : Array Value → Jvm.State → Outcome → Jvm.State → Prop := va_Qi (fun r (_ : Unit) => r = RZ ∧ me_wf N MZ ∧ me_kp M0 MZ) (fg_B D A (fun _ => me_W ad ca MZ) (fun _ => [])) A
set_option maxHeartbeats 4000000 in
set_option maxRecDepth 100000 in
theorem c_M_form (l : Launch) (D : va_G) (ad : Nat → Nat → Nat) (ca : Nat → ClassId) (N : Nat → Nat) (M0 MZ : me_M) (RZ : Int32) (j0 : Nat) (x1 : Int32) (h : f_M_form M0 j0 x1 = (some (MZ, RZ))) (hwf : me_wf N M0) (hj0 : j0 < N 1) (sz : Nat) : Met l y_M_form (fg_w y_M_form prog_14_method_57_code 6 (some .int)) rm_M_form (va_Pc [.ref (ad 1 j0), .int x1] (fz_P D (me_T ca) (me_W ad ca M0) sz)) (q_M_form D ad ca N M0 MZ RZ (va_A (me_W ad ca M0) sz)) rm_M_form.cells rm_M_form.slots (va_A (me_W ad ca M0) sz) := by
  refine fz_enter (fun A => q_M_form D ad ca N M0 MZ RZ A) (by decide +kernel) (Nat.le_of_ble_eq_true rfl) ?_
  intro p e s m below meth c ls A hx hb hml hown hts hr hlocks hin hP hK hD hS hA hX hl hz
  have hl : lv_has ls 6 [(0, .ref (ad 1 j0)), (1, .int x1)] := hl
  unfold f_M_form at h
  have hkp : me_kp M0 M0 := me_kp.rf
  have hkb := hkp
  have b_146 : ∀ (k97 : me_M → Int32 → Int32 → Option (me_M × Int32)) (hk97 : ∀ (M : me_M) (y2 : Int32) (y3 : Int32) (H : Heap) (locs : List Loc) (ls : Array Slot), k97 M y2 y3 = (some (MZ, RZ)) → me_wf N M → me_kp M0 M → va_P D classes (me_W ad ca M) H → va_D A (me_W ad ca M) → va_S A s.heap H locs → lv_has ls 6 [(0, .ref (ad 1 j0)), (1, .int x1), (2, .int y2), (3, .int y3)] → W p l e rm_M_form s m [.ref (ad 1 j0), .int x1].toArray below meth c H locs 0 0 (MQ below (q_M_form D ad ca N M0 MZ RZ A) [.ref (ad 1 j0), .int x1].toArray s rm_M_form.cells rm_M_form.slots A) (F0 m 97 ls [])), ∀ (M : me_M) (y2 : Int32) (y3 : Int32) (H : Heap) (locs : List Loc) (ls : Array Slot), f_M_form_b146 k97 j0 x1 M y2 y3 = (some (MZ, RZ)) → me_wf N M → me_kp M0 M → va_P D classes (me_W ad ca M) H → va_D A (me_W ad ca M) → va_S A s.heap H locs → lv_has ls 6 [(0, .ref (ad 1 j0)), (1, .int x1), (2, .int y2), (3, .int y3)] → W p l e rm_M_form s m [.ref (ad 1 j0), .int x1].toArray below meth c H locs 0 0 (MQ below (q_M_form D ad ca N M0 MZ RZ A) [.ref (ad 1 j0), .int x1].toArray s rm_M_form.cells rm_M_form.slots A) (F0 m 146 ls []) := by
    intro k97 hk97 M y2 y3 H locs ls h hwf hkp hP hD hS hl
    unfold f_M_form_b146 at h
    have hkb := hkp
    refine lv_aload_n hx hb d_M_form_146 rfl (lv_at hl 0 rfl) ?_
    refine lv_iload_n hx hb d_M_form_147 rfl (lv_at hl 3 rfl) ?_
    obtain ⟨M1, eM1, h⟩ := st_ob h
    refine p_M_21 eM1 hx hb hts hown hK hP hD hwf hS hj0 (hts _ u_1762) d_M_form_148 (fun H locs hP hD hwf hS => ?_)
    have hkp := kp_I eM1 hkp
    refine lv_iload_n hx hb d_M_form_151 rfl (lv_at hl 3 rfl) ?_
    refine lv_iconst (v := 1) hx hb d_M_form_152 (by decide) ?_
    refine lv_iadd hx hb d_M_form_153 ?_
    refine lv_aload_n hx hb d_M_form_154 rfl (lv_at hl 0 rfl) ?_
    refine g_M_13 hx hb hts hown hK hP hwf hj0 (hts _ u_1754) d_M_form_155 ?_
    obtain ⟨j2, e3, h⟩ := bd_ob h
    have hj2 : j2 < N 16 := (hwf.2.1 1 j0 13 _ (kp_r hkb hkp e3) (by decide) hj0)
    refine me_opt (j := j2) (kp_r hkb hkp e3) ?_
    refine lv_iload_n hx hb d_M_form_158 rfl (lv_at hl 3 rfl) ?_
    obtain ⟨g4, h⟩ := gd_ob h
    refine me_lald hx hb hK hP hwf hj2 (kp_z hkb.z hkp.z g4) d_M_form_159 ?_
    obtain ⟨r5, er5, h⟩ := bd_ob h
    refine me_pani' (r0 := r5) (fg_runS (wc := []) (tc := []) (A2 := A) (As := [.long (mL M1 16 j2 y3.toNatClampNeg)]) (rest := [.int (y3 + 1)]) ⟨hx, hb, hml, hown, hts⟩ (c_M_offsetOf l D r5 (mL M1 16 j2 y3.toNatClampNeg) er5 _) (by show fg_nm y_M_offsetOf 1; decide +kernel) u_2013 u_2014 u_192 u_2015 ⟨Nat.le_of_ble_eq_true rfl, Nat.le_of_ble_eq_true rfl⟩ hX me_P0 (hK.sub (tys' := []) [] rfl) me_D0 rfl hl.1 (Nat.le_of_ble_eq_true rfl) d_M_form_160 ⟨Nat.le_of_ble_eq_true rfl, Nat.le_of_ble_eq_true rfl⟩) hP hD hK hS hA rfl rfl (fun H locs hw hP hD hS => ?_)
    refine lv_iadd hx hb d_M_form_163 ?_
    obtain ⟨v6, ev6, h⟩ := st_ob h
    refine fg_topi (y := v6) ev6.symm ?_
    refine lv_istore (lv' := [(5, .int v6), (0, .ref (ad 1 j0)), (1, .int x1), (2, .int y2), (3, .int y3)]) hx hb d_M_form_164 hl (by decide) rfl (fun ls hl => ?_)
    refine lv_iload hx hb d_M_form_166 (lv_at hl 0 rfl) ?_
    refine lv_if_lt (tgt := 202) hx hb d_M_form_168 (by decide) (fun c7 => ?_) (fun c7 => ?_)
    · have h := if_t c7 h
      refine lv_iconst (v := 5) hx hb d_M_form_202 (by decide) ?_
      exact me_reti (me_kp M0) h hx hb hr hlocks hwf hkp hP hK hD hS d_M_form_203
    have h := if_f c7 h
    refine lv_iload hx hb d_M_form_171 (lv_at hl 0 rfl) ?_
    refine lv_iload_n hx hb d_M_form_173 rfl (lv_at hl 2 rfl) ?_
    refine lv_icmp_ge (tgt := 202) hx hb d_M_form_174 (by decide) (fun c8 => ?_) (fun c8 => ?_)
    · have h := if_t c8 h
      refine lv_iconst (v := 5) hx hb d_M_form_202 (by decide) ?_
      exact me_reti (me_kp M0) h hx hb hr hlocks hwf hkp hP hK hD hS d_M_form_203
    have h := if_f c8 h
    refine lv_aload_n hx hb d_M_form_177 rfl (lv_at hl 1 rfl) ?_
    refine g_M_32 hx hb hts hown hK hP hwf hj0 (hts _ u_1773) d_M_form_178 ?_
    obtain ⟨j9, e10, h⟩ := bd_ob h
    have hj9 : j9 < N 15 := (hwf.2.1 1 j0 32 _ (kp_r hkb hkp e10) (by decide) hj0)
    refine me_opt (j := j9) (kp_r hkb hkp e10) ?_
    refine lv_iload hx hb d_M_form_181 (lv_at hl 0 rfl) ?_
    refine lv_if_lt (tgt := 197) hx hb d_M_form_183 (by decide) (fun c11 => ?_) (fun c11 => ?_)
    · have h := if_t c11 h
      refine lv_iconst (v := 0) hx hb d_M_form_197 (by decide) ?_
      obtain ⟨g12, h⟩ := gd_ob h
      refine me_zald hx hb hK hP hwf hj9 (me_in (i := (0 : Int32)) (k := 0) (by decide) (by decide) (kp_c hkb.z hkp.z g12)) d_M_form_198 ?_
      refine fg_topi (y := mI M1 15 j9 0) (congrArg _ (by decide)) ?_
      have z13 := hwf.2.2.2 15 j9 0 rfl
      refine lv_if_eq (tgt := 204) hx hb d_M_form_199 (by decide) (fun c14 => ?_) (fun c14 => ?_)
      · have h := if_t c14 h
        refine lv_aload_n hx hb d_M_form_204 rfl (lv_at hl 1 rfl) ?_
        refine g_M_33 hx hb hts hown hK hP hwf hj0 (hts _ u_1774) d_M_form_205 ?_
        obtain ⟨j15, e16, h⟩ := bd_ob h
        have hj15 : j15 < N 15 := (hwf.2.1 1 j0 33 _ (kp_r hkb hkp e16) (by decide) hj0)
        refine me_opt (j := j15) (kp_r hkb hkp e16) ?_
        refine lv_iload hx hb d_M_form_208 (lv_at hl 0 rfl) ?_
        refine lv_iconst (v := 1) hx hb d_M_form_210 (by decide) ?_
        obtain ⟨g17, h⟩ := gd_ob h
        obtain ⟨M18, eM18, h⟩ := st_ob h
        refine me_zast eM18 hx hb hK hP hD hwf hS hj15 (kp_z hkb.z hkp.z g17) d_M_form_211 (fun H locs hP hD hwf hS => ?_)
        have hkp := kp_I eM18 hkp
        refine lv_iinc (v := y3 + 1) (lv' := [(3, .int (y3 + 1)), (5, .int v6), (0, .ref (ad 1 j0)), (1, .int x1), (2, .int y2)]) hx hb d_M_form_212 hl (k := 4) rfl (by rfl) (by decide) rfl (fun ls hl => ?_)
        refine lv_goto (tgt := 97) hx hb d_M_form_215 (by decide) ?_
        exact hk97 M18 y2 (y3 + 1) _ _ _ h hwf hkp hP hD hS (lv_sub hl [2, 3, 4, 0] rfl)
      have h := if_f c14 h
      refine lv_iconst (v := 5) hx hb d_M_form_202 (by decide) ?_
      exact me_reti (me_kp M0) h hx hb hr hlocks hwf hkp hP hK hD hS d_M_form_203
    have h := if_f c11 h
    refine lv_iload hx hb d_M_form_186 (lv_at hl 0 rfl) ?_
    refine lv_iload_n hx hb d_M_form_188 rfl (lv_at hl 2 rfl) ?_
    refine lv_icmp_ge (tgt := 197) hx hb d_M_form_189 (by decide) (fun c19 => ?_) (fun c19 => ?_)
    · have h := if_t c19 h
      refine lv_iconst (v := 0) hx hb d_M_form_197 (by decide) ?_
      obtain ⟨g20, h⟩ := gd_ob h
      refine me_zald hx hb hK hP hwf hj9 (me_in (i := (0 : Int32)) (k := 0) (by decide) (by decide) (kp_c hkb.z hkp.z g20)) d_M_form_198 ?_
      refine fg_topi (y := mI M1 15 j9 0) (congrArg _ (by decide)) ?_
      have z21 := hwf.2.2.2 15 j9 0 rfl
      refine lv_if_eq (tgt := 204) hx hb d_M_form_199 (by decide) (fun c22 => ?_) (fun c22 => ?_)
      · have h := if_t c22 h
        refine lv_aload_n hx hb d_M_form_204 rfl (lv_at hl 1 rfl) ?_
        refine g_M_33 hx hb hts hown hK hP hwf hj0 (hts _ u_1774) d_M_form_205 ?_
        obtain ⟨j23, e24, h⟩ := bd_ob h
        have hj23 : j23 < N 15 := (hwf.2.1 1 j0 33 _ (kp_r hkb hkp e24) (by decide) hj0)
        refine me_opt (j := j23) (kp_r hkb hkp e24) ?_
        refine lv_iload hx hb d_M_form_208 (lv_at hl 0 rfl) ?_
        refine lv_iconst (v := 1) hx hb d_M_form_210 (by decide) ?_
        obtain ⟨g25, h⟩ := gd_ob h
        obtain ⟨M26, eM26, h⟩ := st_ob h
        refine me_zast eM26 hx hb hK hP hD hwf hS hj23 (kp_z hkb.z hkp.z g25) d_M_form_211 (fun H locs hP hD hwf hS => ?_)
        have hkp := kp_I eM26 hkp
        refine lv_iinc (v := y3 + 1) (lv' := [(3, .int (y3 + 1)), (5, .int v6), (0, .ref (ad 1 j0)), (1, .int x1), (2, .int y2)]) hx hb d_M_form_212 hl (k := 4) rfl (by rfl) (by decide) rfl (fun ls hl => ?_)
        refine lv_goto (tgt := 97) hx hb d_M_form_215 (by decide) ?_
        exact hk97 M26 y2 (y3 + 1) _ _ _ h hwf hkp hP hD hS (lv_sub hl [2, 3, 4, 0] rfl)
      have h := if_f c22 h
      refine lv_iconst (v := 5) hx hb d_M_form_202 (by decide) ?_
      exact me_reti (me_kp M0) h hx hb hr hlocks hwf hkp hP hK hD hS d_M_form_203
    have h := if_f c19 h
    refine lv_iload hx hb d_M_form_192 (lv_at hl 0 rfl) ?_
    refine lv_goto (tgt := 198) hx hb d_M_form_194 (by decide) ?_
    obtain ⟨g27, h⟩ := gd_ob h
    refine me_zald hx hb hK hP hwf hj9 (kp_z hkb.z hkp.z g27) d_M_form_198 ?_
    have z28 := hwf.2.2.2 15 j9 v6.toNatClampNeg rfl
    refine lv_if_eq (tgt := 204) hx hb d_M_form_199 (by decide) (fun c29 => ?_) (fun c29 => ?_)
    · have h := if_t c29 h
      refine lv_aload_n hx hb d_M_form_204 rfl (lv_at hl 1 rfl) ?_
      refine g_M_33 hx hb hts hown hK hP hwf hj0 (hts _ u_1774) d_M_form_205 ?_
      obtain ⟨j30, e31, h⟩ := bd_ob h
      have hj30 : j30 < N 15 := (hwf.2.1 1 j0 33 _ (kp_r hkb hkp e31) (by decide) hj0)
      refine me_opt (j := j30) (kp_r hkb hkp e31) ?_
      refine lv_iload hx hb d_M_form_208 (lv_at hl 0 rfl) ?_
      refine lv_iconst (v := 1) hx hb d_M_form_210 (by decide) ?_
      obtain ⟨g32, h⟩ := gd_ob h
      obtain ⟨M33, eM33, h⟩ := st_ob h
      refine me_zast eM33 hx hb hK hP hD hwf hS hj30 (kp_z hkb.z hkp.z g32) d_M_form_211 (fun H locs hP hD hwf hS => ?_)
      have hkp := kp_I eM33 hkp
      refine lv_iinc (v := y3 + 1) (lv' := [(3, .int (y3 + 1)), (5, .int v6), (0, .ref (ad 1 j0)), (1, .int x1), (2, .int y2)]) hx hb d_M_form_212 hl (k := 4) rfl (by rfl) (by decide) rfl (fun ls hl => ?_)
      refine lv_goto (tgt := 97) hx hb d_M_form_215 (by decide) ?_
      exact hk97 M33 y2 (y3 + 1) _ _ _ h hwf hkp hP hD hS (lv_sub hl [2, 3, 4, 0] rfl)
    have h := if_f c29 h
    refine lv_iconst (v := 5) hx hb d_M_form_202 (by decide) ?_
    exact me_reti (me_kp M0) h hx hb hr hlocks hwf hkp hP hK hD hS d_M_form_203
  have b_127 : ∀ (k97 : me_M → Int32 → Int32 → Option (me_M × Int32)) (hk97 : ∀ (M : me_M) (y2 : Int32) (y3 : Int32) (H : Heap) (locs : List Loc) (ls : Array Slot), k97 M y2 y3 = (some (MZ, RZ)) → me_wf N M → me_kp M0 M → va_P D classes (me_W ad ca M) H → va_D A (me_W ad ca M) → va_S A s.heap H locs → lv_has ls 6 [(0, .ref (ad 1 j0)), (1, .int x1), (2, .int y2), (3, .int y3)] → W p l e rm_M_form s m [.ref (ad 1 j0), .int x1].toArray below meth c H locs 0 0 (MQ below (q_M_form D ad ca N M0 MZ RZ A) [.ref (ad 1 j0), .int x1].toArray s rm_M_form.cells rm_M_form.slots A) (F0 m 97 ls [])), ∀ (M : me_M) (y2 : Int32) (y3 : Int32) (s0 : Int32) (H : Heap) (locs : List Loc) (ls : Array Slot), f_M_form_b127 k97 j0 x1 M y2 y3 s0 = (some (MZ, RZ)) → me_wf N M → me_kp M0 M → va_P D classes (me_W ad ca M) H → va_D A (me_W ad ca M) → va_S A s.heap H locs → lv_has ls 6 [(0, .ref (ad 1 j0)), (1, .int x1), (2, .int y2), (3, .int y3)] → W p l e rm_M_form s m [.ref (ad 1 j0), .int x1].toArray below meth c H locs 0 0 (MQ below (q_M_form D ad ca N M0 MZ RZ A) [.ref (ad 1 j0), .int x1].toArray s rm_M_form.cells rm_M_form.slots A) (F0 m 127 ls [.int s0]) := by
    intro k97 hk97 M y2 y3 s0 H locs ls h hwf hkp hP hD hS hl
    unfold f_M_form_b127 at h
    have hkb := hkp
    refine lv_istore (lv' := [(4, .int s0), (0, .ref (ad 1 j0)), (1, .int x1), (2, .int y2), (3, .int y3)]) hx hb d_M_form_127 hl (by decide) rfl (fun ls hl => ?_)
    refine lv_iload hx hb d_M_form_129 (lv_at hl 0 rfl) ?_
    refine lv_bipush (v := 10) hx hb d_M_form_131 (by decide) ?_
    refine lv_icmp_eq (tgt := 146) hx hb d_M_form_133 (by decide) (fun c34 => ?_) (fun c34 => ?_)
    · have h := if_t c34 h
      exact b_146 _ hk97 M y2 y3 _ _ _ h hwf hkp hP hD hS (lv_sub hl [1, 2, 3, 4] rfl)
    have h := if_f c34 h
    refine lv_iload hx hb d_M_form_136 (lv_at hl 0 rfl) ?_
    refine lv_bipush (v := 11) hx hb d_M_form_138 (by decide) ?_
    refine lv_icmp_eq (tgt := 146) hx hb d_M_form_140 (by decide) (fun c35 => ?_) (fun c35 => ?_)
    · have h := if_t c35 h
      exact b_146 _ hk97 M y2 y3 _ _ _ h hwf hkp hP hD hS (lv_sub hl [1, 2, 3, 4] rfl)
    have h := if_f c35 h
    refine lv_goto (tgt := 212) hx hb d_M_form_143 (by decide) ?_
    refine lv_iinc (v := y3 + 1) (lv' := [(3, .int (y3 + 1)), (4, .int s0), (0, .ref (ad 1 j0)), (1, .int x1), (2, .int y2)]) hx hb d_M_form_212 hl (k := 4) rfl (by rfl) (by decide) rfl (fun ls hl => ?_)
    refine lv_goto (tgt := 97) hx hb d_M_form_215 (by decide) ?_
    exact hk97 M y2 (y3 + 1) _ _ _ h hwf hkp hP hD hS (lv_sub hl [2, 3, 4, 0] rfl)
  have b_97 : ∀ (fu : Nat), ∀ (M : me_M) (y2 : Int32) (y3 : Int32) (H : Heap) (locs : List Loc) (ls : Array Slot), f_M_form_l97 j0 x1 fu M y2 y3 = (some (MZ, RZ)) → me_wf N M → me_kp M0 M → va_P D classes (me_W ad ca M) H → va_D A (me_W ad ca M) → va_S A s.heap H locs → lv_has ls 6 [(0, .ref (ad 1 j0)), (1, .int x1), (2, .int y2), (3, .int y3)] → W p l e rm_M_form s m [.ref (ad 1 j0), .int x1].toArray below meth c H locs 0 0 (MQ below (q_M_form D ad ca N M0 MZ RZ A) [.ref (ad 1 j0), .int x1].toArray s rm_M_form.cells rm_M_form.slots A) (F0 m 97 ls []) := by
    intro fu
    induction fu with
    | zero =>
      intro M y2 y3 H locs ls h hwf hkp hP hD hS hl
      cases h
    | succ fu ih =>
      intro M y2 y3 H locs ls h hwf hkp hP hD hS hl
      unfold f_M_form_l97 at h
      have hkb := hkp
      refine lv_iload_n hx hb d_M_form_97 rfl (lv_at hl 3 rfl) ?_
      refine lv_iload_n hx hb d_M_form_98 rfl (lv_at hl 1 rfl) ?_
      refine lv_icmp_ge (tgt := 218) hx hb d_M_form_99 (by decide) (fun c36 => ?_) (fun c36 => ?_)
      · have h := if_t c36 h
        refine lv_aload_n hx hb d_M_form_218 rfl (lv_at hl 0 rfl) ?_
        refine lv_iload_n hx hb d_M_form_219 rfl (lv_at hl 2 rfl) ?_
        obtain ⟨M37, eM37, h⟩ := st_ob h
        refine p_M_21 eM37 hx hb hts hown hK hP hD hwf hS hj0 (hts _ u_1762) d_M_form_220 (fun H locs hP hD hwf hS => ?_)
        have hkp := kp_I eM37 hkp
        refine lv_aload_n hx hb d_M_form_223 rfl (lv_at hl 0 rfl) ?_
        refine g_M_13 hx hb hts hown hK hP hwf hj0 (hts _ u_1754) d_M_form_224 ?_
        obtain ⟨j38, e39, h⟩ := bd_ob h
        have hj38 : j38 < N 16 := (hwf.2.1 1 j0 13 _ (kp_r hkb hkp e39) (by decide) hj0)
        refine me_opt (j := j38) (kp_r hkb hkp e39) ?_
        refine lv_iload_n hx hb d_M_form_227 rfl (lv_at hl 2 rfl) ?_
        obtain ⟨g40, h⟩ := gd_ob h
        refine me_lald hx hb hK hP hwf hj38 (kp_z hkb.z hkp.z g40) d_M_form_228 ?_
        obtain ⟨r41, er41, h⟩ := bd_ob h
        refine me_pani' (r0 := r41) (fg_runS (wc := []) (tc := []) (A2 := A) (As := [.long (mL M37 16 j38 y2.toNatClampNeg)]) (rest := []) ⟨hx, hb, hml, hown, hts⟩ (c_M_opOf l D r41 (mL M37 16 j38 y2.toNatClampNeg) er41 _) (by show fg_nm y_M_opOf 1; decide +kernel) u_1997 u_1998 u_192 u_1999 ⟨Nat.le_of_ble_eq_true rfl, Nat.le_of_ble_eq_true rfl⟩ hX me_P0 (hK.sub (tys' := []) [] rfl) me_D0 rfl hl.1 (Nat.le_of_ble_eq_true rfl) d_M_form_229 ⟨Nat.le_of_ble_eq_true rfl, Nat.le_of_ble_eq_true rfl⟩) hP hD hK hS hA rfl rfl (fun H locs hw hP hD hS => ?_)
        obtain ⟨r42, er42, h⟩ := bd_ob h
        refine me_pani' (r0 := r42) (fg_runS (wc := []) (tc := []) (A2 := A) (As := [.int r41]) (rest := []) ⟨hx, hb, hml, hown, hts⟩ (c_M_instruction l D r42 r41 er42 _) (by show fg_nm y_M_instruction 1; decide +kernel) u_2000 u_2001 u_192 u_2002 ⟨Nat.le_of_ble_eq_true rfl, Nat.le_of_ble_eq_true rfl⟩ hX me_P0 (hK.sub (tys' := []) [] rfl) me_D0 rfl hl.1 (Nat.le_of_ble_eq_true rfl) d_M_form_232 ⟨Nat.le_of_ble_eq_true rfl, Nat.le_of_ble_eq_true rfl⟩) hP hD hK hS hA rfl rfl (fun H locs hw hP hD hS => ?_)
        refine lv_istore_n (lv' := [(3, .int r42), (0, .ref (ad 1 j0)), (1, .int x1), (2, .int y2)]) hx hb d_M_form_235 rfl hl (by decide) rfl (fun ls hl => ?_)
        refine lv_iload_n hx hb d_M_form_236 rfl (lv_at hl 0 rfl) ?_
        refine lv_bipush (v := 13) hx hb d_M_form_237 (by decide) ?_
        refine lv_icmp_eq (tgt := 248) hx hb d_M_form_239 (by decide) (fun c43 => ?_) (fun c43 => ?_)
        · have h := if_t c43 h
          refine lv_iconst (v := 0) hx hb d_M_form_248 (by decide) ?_
          refine lv_goto (tgt := 254) hx hb d_M_form_249 (by decide) ?_
          exact me_reti (me_kp M0) h hx hb hr hlocks hwf hkp hP hK hD hS d_M_form_254
        have h := if_f c43 h
        refine lv_iload_n hx hb d_M_form_242 rfl (lv_at hl 0 rfl) ?_
        refine lv_bipush (v := 10) hx hb d_M_form_243 (by decide) ?_
        refine lv_icmp_ne (tgt := 252) hx hb d_M_form_245 (by decide) (fun c44 => ?_) (fun c44 => ?_)
        · have h := if_f c44 h
          refine lv_bipush (v := 6) hx hb d_M_form_252 (by decide) ?_
          exact me_reti (me_kp M0) h hx hb hr hlocks hwf hkp hP hK hD hS d_M_form_254
        have h := if_t c44 h
        refine lv_iconst (v := 0) hx hb d_M_form_248 (by decide) ?_
        refine lv_goto (tgt := 254) hx hb d_M_form_249 (by decide) ?_
        exact me_reti (me_kp M0) h hx hb hr hlocks hwf hkp hP hK hD hS d_M_form_254
      have h := if_f c36 h
      refine lv_aload_n hx hb d_M_form_102 rfl (lv_at hl 0 rfl) ?_
      refine g_M_32 hx hb hts hown hK hP hwf hj0 (hts _ u_1773) d_M_form_103 ?_
      obtain ⟨j45, e46, h⟩ := bd_ob h
      have hj45 : j45 < N 15 := (hwf.2.1 1 j0 32 _ e46 (by decide) hj0)
      refine me_opt (j := j45) e46 ?_
      refine lv_iload_n hx hb d_M_form_106 rfl (lv_at hl 3 rfl) ?_
      obtain ⟨g47, h⟩ := gd_ob h
      refine me_zald hx hb hK hP hwf hj45 g47 d_M_form_107 ?_
      have z48 := hwf.2.2.2 15 j45 y3.toNatClampNeg rfl
      refine lv_if_eq (tgt := 115) hx hb d_M_form_108 (by decide) (fun c49 => ?_) (fun c49 => ?_)
      · have h := if_t c49 h
        refine lv_aload_n hx hb d_M_form_115 rfl (lv_at hl 0 rfl) ?_
        refine g_M_13 hx hb hts hown hK hP hwf hj0 (hts _ u_1754) d_M_form_116 ?_
        obtain ⟨j50, e51, h⟩ := bd_ob h
        have hj50 : j50 < N 16 := (hwf.2.1 1 j0 13 _ e51 (by decide) hj0)
        refine me_opt (j := j50) e51 ?_
        refine lv_iload_n hx hb d_M_form_119 rfl (lv_at hl 3 rfl) ?_
        obtain ⟨g52, h⟩ := gd_ob h
        refine me_lald hx hb hK hP hwf hj50 g52 d_M_form_120 ?_
        obtain ⟨r53, er53, h⟩ := bd_ob h
        refine me_pani' (r0 := r53) (fg_runS (wc := []) (tc := []) (A2 := A) (As := [.long (mL M 16 j50 y3.toNatClampNeg)]) (rest := []) ⟨hx, hb, hml, hown, hts⟩ (c_M_opOf l D r53 (mL M 16 j50 y3.toNatClampNeg) er53 _) (by show fg_nm y_M_opOf 1; decide +kernel) u_1997 u_1998 u_192 u_1999 ⟨Nat.le_of_ble_eq_true rfl, Nat.le_of_ble_eq_true rfl⟩ hX me_P0 (hK.sub (tys' := []) [] rfl) me_D0 rfl hl.1 (Nat.le_of_ble_eq_true rfl) d_M_form_121 ⟨Nat.le_of_ble_eq_true rfl, Nat.le_of_ble_eq_true rfl⟩) hP hD hK hS hA rfl rfl (fun H locs hw hP hD hS => ?_)
        obtain ⟨r54, er54, h⟩ := bd_ob h
        refine me_pani' (r0 := r54) (fg_runS (wc := []) (tc := []) (A2 := A) (As := [.int r53]) (rest := []) ⟨hx, hb, hml, hown, hts⟩ (c_M_instruction l D r54 r53 er54 _) (by show fg_nm y_M_instruction 1; decide +kernel) u_2000 u_2001 u_192 u_2002 ⟨Nat.le_of_ble_eq_true rfl, Nat.le_of_ble_eq_true rfl⟩ hX me_P0 (hK.sub (tys' := []) [] rfl) me_D0 rfl hl.1 (Nat.le_of_ble_eq_true rfl) d_M_form_124 ⟨Nat.le_of_ble_eq_true rfl, Nat.le_of_ble_eq_true rfl⟩) hP hD hK hS hA rfl rfl (fun H locs hw hP hD hS => ?_)
        exact b_127 _ ih M y2 y3 r54 _ _ _ h hwf hkp hP hD hS (lv_sub hl [0, 1, 2, 3] rfl)
      have h := if_f c49 h
      refine lv_iconst (v := 0) hx hb d_M_form_111 (by decide) ?_
      refine lv_goto (tgt := 127) hx hb d_M_form_112 (by decide) ?_
      exact b_127 _ ih M y2 y3 (0 : Int32) _ _ _ h hwf hkp hP hD hS (lv_sub hl [0, 1, 2, 3] rfl)
  have b_36 : ∀ (fu : Nat), ∀ (M : me_M) (y2 : Int32) (y3 : Int32) (H : Heap) (locs : List Loc) (ls : Array Slot), f_M_form_l36 j0 x1 fu M y2 y3 = (some (MZ, RZ)) → me_wf N M → me_kp M0 M → va_P D classes (me_W ad ca M) H → va_D A (me_W ad ca M) → va_S A s.heap H locs → lv_has ls 6 [(0, .ref (ad 1 j0)), (1, .int x1), (2, .int y2), (3, .int y3)] → W p l e rm_M_form s m [.ref (ad 1 j0), .int x1].toArray below meth c H locs 0 0 (MQ below (q_M_form D ad ca N M0 MZ RZ A) [.ref (ad 1 j0), .int x1].toArray s rm_M_form.cells rm_M_form.slots A) (F0 m 36 ls []) := by
    intro fu
    induction fu with
    | zero =>
      intro M y2 y3 H locs ls h hwf hkp hP hD hS hl
      cases h
    | succ fu ih =>
      intro M y2 y3 H locs ls h hwf hkp hP hD hS hl
      unfold f_M_form_l36 at h
      have hkb := hkp
      refine lv_iload_n hx hb d_M_form_36 rfl (lv_at hl 3 rfl) ?_
      refine lv_iload_n hx hb d_M_form_37 rfl (lv_at hl 1 rfl) ?_
      refine lv_icmp_ge (tgt := 95) hx hb d_M_form_38 (by decide) (fun c55 => ?_) (fun c55 => ?_)
      · have h := if_t c55 h
        refine lv_iconst (v := 0) hx hb d_M_form_95 (by decide) ?_
        refine lv_istore_n (lv' := [(3, .int 0), (0, .ref (ad 1 j0)), (1, .int x1), (2, .int y2)]) hx hb d_M_form_96 rfl hl (by decide) rfl (fun ls hl => ?_)
        exact b_97 _ M y2 (0 : Int32) _ _ _ h hwf hkp hP hD hS (lv_sub hl [1, 2, 3, 0] rfl)
      have h := if_f c55 h
      refine lv_aload_n hx hb d_M_form_41 rfl (lv_at hl 0 rfl) ?_
      refine lv_iload_n hx hb d_M_form_42 rfl (lv_at hl 3 rfl) ?_
      obtain ⟨M56, eM56, h⟩ := st_ob h
      refine p_M_21 eM56 hx hb hts hown hK hP hD hwf hS hj0 (hts _ u_1762) d_M_form_43 (fun H locs hP hD hwf hS => ?_)
      have hkp := kp_I eM56 hkp
      refine lv_iload_n hx hb d_M_form_46 rfl (lv_at hl 3 rfl) ?_
      refine lv_istore_n (lv' := [(2, .int y3), (0, .ref (ad 1 j0)), (1, .int x1), (3, .int y3)]) hx hb d_M_form_47 rfl hl (by decide) rfl (fun ls hl => ?_)
      refine lv_aload_n hx hb d_M_form_48 rfl (lv_at hl 1 rfl) ?_
      refine lv_iload_n hx hb d_M_form_49 rfl (lv_at hl 3 rfl) ?_
      obtain ⟨M57, r58, eM57, h⟩ := b2_ob h
      refine me_theni0 (M1 := M57) (me_runV (C := "FilterGuardModel") (As := [.int y3]) (rest := []) ⟨hx, hb, hml, hown, hts⟩ (c_M_formFault l D ad ca N M56 M57 r58 j0 y3 eM57 hwf hj0 _) rfl (by show fg_nm y_M_formFault 1; decide +kernel) u_1989 u_1991 u_87 u_192 u_1992 ⟨Nat.le_of_ble_eq_true rfl, Nat.le_of_ble_eq_true rfl⟩ hX hz hK hP hD hwf hS hA hj0 (by decide) rfl rfl rfl hl.1 (Nat.le_of_ble_eq_true rfl) d_M_form_50 ⟨Nat.le_of_ble_eq_true rfl, Nat.le_of_ble_eq_true rfl⟩) hP hD hK hS hA rfl rfl (fun H locs hw hP hD hS => ?_)
      obtain ⟨hwf, hk9⟩ := hw
      have hkp := hkp.tr hk9
      refine lv_istore (lv' := [(4, .int r58), (2, .int y3), (0, .ref (ad 1 j0)), (1, .int x1), (3, .int y3)]) hx hb d_M_form_53 hl (by decide) rfl (fun ls hl => ?_)
      refine lv_iload hx hb d_M_form_55 (lv_at hl 0 rfl) ?_
      refine lv_if_le (tgt := 63) hx hb d_M_form_57 (by decide) (fun c59 => ?_) (fun c59 => ?_)
      · have h := if_t c59 h
        refine lv_aload_n hx hb d_M_form_63 rfl (lv_at hl 2 rfl) ?_
        refine g_M_13 hx hb hts hown hK hP hwf hj0 (hts _ u_1754) d_M_form_64 ?_
        obtain ⟨j60, e61, h⟩ := bd_ob h
        have hj60 : j60 < N 16 := (hwf.2.1 1 j0 13 _ (kp_r hkb hkp e61) (by decide) hj0)
        refine me_opt (j := j60) (kp_r hkb hkp e61) ?_
        refine lv_iload_n hx hb d_M_form_67 rfl (lv_at hl 4 rfl) ?_
        obtain ⟨g62, h⟩ := gd_ob h
        refine me_lald hx hb hK hP hwf hj60 (kp_z hkb.z hkp.z g62) d_M_form_68 ?_
        obtain ⟨r63, er63, h⟩ := bd_ob h
        refine me_pani' (r0 := r63) (fg_runS (wc := []) (tc := []) (A2 := A) (As := [.long (mL M57 16 j60 y3.toNatClampNeg)]) (rest := []) ⟨hx, hb, hml, hown, hts⟩ (c_M_opOf l D r63 (mL M57 16 j60 y3.toNatClampNeg) er63 _) (by show fg_nm y_M_opOf 1; decide +kernel) u_1997 u_1998 u_192 u_1999 ⟨Nat.le_of_ble_eq_true rfl, Nat.le_of_ble_eq_true rfl⟩ hX me_P0 (hK.sub (tys' := []) [] rfl) me_D0 rfl hl.1 (Nat.le_of_ble_eq_true rfl) d_M_form_69 ⟨Nat.le_of_ble_eq_true rfl, Nat.le_of_ble_eq_true rfl⟩) hP hD hK hS hA rfl rfl (fun H locs hw hP hD hS => ?_)
        obtain ⟨r64, er64, h⟩ := bd_ob h
        refine me_pani' (r0 := r64) (fg_runS (wc := []) (tc := []) (A2 := A) (As := [.int r63]) (rest := []) ⟨hx, hb, hml, hown, hts⟩ (c_M_instruction l D r64 r63 er64 _) (by show fg_nm y_M_instruction 1; decide +kernel) u_2000 u_2001 u_192 u_2002 ⟨Nat.le_of_ble_eq_true rfl, Nat.le_of_ble_eq_true rfl⟩ hX me_P0 (hK.sub (tys' := []) [] rfl) me_D0 rfl hl.1 (Nat.le_of_ble_eq_true rfl) d_M_form_72 ⟨Nat.le_of_ble_eq_true rfl, Nat.le_of_ble_eq_true rfl⟩) hP hD hK hS hA rfl rfl (fun H locs hw hP hD hS => ?_)
        refine lv_iconst (v := 1) hx hb d_M_form_75 (by decide) ?_
        refine lv_icmp_ne (tgt := 89) hx hb d_M_form_76 (by decide) (fun c65 => ?_) (fun c65 => ?_)
        · have h := if_f c65 h
          refine lv_iinc (v := y3 + 1) (lv' := [(3, .int (y3 + 1)), (4, .int r58), (2, .int y3), (0, .ref (ad 1 j0)), (1, .int x1)]) hx hb d_M_form_89 hl (k := 4) rfl (by rfl) (by decide) rfl (fun ls hl => ?_)
          refine lv_goto (tgt := 36) hx hb d_M_form_92 (by decide) ?_
          exact ih M57 y3 (y3 + 1) _ _ _ h hwf hkp hP hD hS (lv_sub hl [3, 4, 2, 0] rfl)
        have h := if_t c65 h
        refine lv_iinc (v := y3 + 1) (lv' := [(3, .int (y3 + 1)), (4, .int r58), (2, .int y3), (0, .ref (ad 1 j0)), (1, .int x1)]) hx hb d_M_form_79 hl (k := 4) rfl (by rfl) (by decide) rfl (fun ls hl => ?_)
        refine lv_aload_n hx hb d_M_form_82 rfl (lv_at hl 3 rfl) ?_
        refine g_M_32 hx hb hts hown hK hP hwf hj0 (hts _ u_1773) d_M_form_83 ?_
        obtain ⟨j66, e67, h⟩ := bd_ob h
        have hj66 : j66 < N 15 := (hwf.2.1 1 j0 32 _ (kp_r hkb hkp e67) (by decide) hj0)
        refine me_opt (j := j66) (kp_r hkb hkp e67) ?_
        refine lv_iload_n hx hb d_M_form_86 rfl (lv_at hl 0 rfl) ?_
        refine lv_iconst (v := 1) hx hb d_M_form_87 (by decide) ?_
        obtain ⟨g68, h⟩ := gd_ob h
        obtain ⟨M69, eM69, h⟩ := st_ob h
        refine me_zast eM69 hx hb hK hP hD hwf hS hj66 (kp_z hkb.z hkp.z g68) d_M_form_88 (fun H locs hP hD hwf hS => ?_)
        have hkp := kp_I eM69 hkp
        refine lv_iinc (v := (y3 + 1) + 1) (lv' := [(3, .int ((y3 + 1) + 1)), (4, .int r58), (2, .int y3), (0, .ref (ad 1 j0)), (1, .int x1)]) hx hb d_M_form_89 hl (k := 0) rfl (by rfl) (by decide) rfl (fun ls hl => ?_)
        refine lv_goto (tgt := 36) hx hb d_M_form_92 (by decide) ?_
        exact ih M69 y3 ((y3 + 1) + 1) _ _ _ h hwf hkp hP hD hS (lv_sub hl [3, 4, 2, 0] rfl)
      have h := if_f c59 h
      refine lv_iload hx hb d_M_form_60 (lv_at hl 0 rfl) ?_
      exact me_reti (me_kp M0) h hx hb hr hlocks hwf hkp hP hK hD hS d_M_form_62
  have b_7 : ∀ (fu : Nat), ∀ (M : me_M) (y2 : Int32) (H : Heap) (locs : List Loc) (ls : Array Slot), f_M_form_l7 j0 x1 fu M y2 = (some (MZ, RZ)) → me_wf N M → me_kp M0 M → va_P D classes (me_W ad ca M) H → va_D A (me_W ad ca M) → va_S A s.heap H locs → lv_has ls 6 [(0, .ref (ad 1 j0)), (1, .int x1), (2, .int y2)] → W p l e rm_M_form s m [.ref (ad 1 j0), .int x1].toArray below meth c H locs 0 0 (MQ below (q_M_form D ad ca N M0 MZ RZ A) [.ref (ad 1 j0), .int x1].toArray s rm_M_form.cells rm_M_form.slots A) (F0 m 7 ls []) := by
    intro fu
    induction fu with
    | zero =>
      intro M y2 H locs ls h hwf hkp hP hD hS hl
      cases h
    | succ fu ih =>
      intro M y2 H locs ls h hwf hkp hP hD hS hl
      unfold f_M_form_l7 at h
      have hkb := hkp
      refine lv_iload_n hx hb d_M_form_7 rfl (lv_at hl 2 rfl) ?_
      refine lv_iload_n hx hb d_M_form_8 rfl (lv_at hl 1 rfl) ?_
      refine lv_icmp_ge (tgt := 32) hx hb d_M_form_9 (by decide) (fun c70 => ?_) (fun c70 => ?_)
      · have h := if_t c70 h
        refine lv_iconst (v := 0) hx hb d_M_form_32 (by decide) ?_
        refine lv_istore_n (lv' := [(2, .int 0), (0, .ref (ad 1 j0)), (1, .int x1)]) hx hb d_M_form_33 rfl hl (by decide) rfl (fun ls hl => ?_)
        refine lv_iconst (v := 0) hx hb d_M_form_34 (by decide) ?_
        refine lv_istore_n (lv' := [(3, .int 0), (2, .int 0), (0, .ref (ad 1 j0)), (1, .int x1)]) hx hb d_M_form_35 rfl hl (by decide) rfl (fun ls hl => ?_)
        exact b_36 _ M (0 : Int32) (0 : Int32) _ _ _ h hwf hkp hP hD hS (lv_sub hl [2, 3, 1, 0] rfl)
      have h := if_f c70 h
      refine lv_aload_n hx hb d_M_form_12 rfl (lv_at hl 0 rfl) ?_
      refine g_M_32 hx hb hts hown hK hP hwf hj0 (hts _ u_1773) d_M_form_13 ?_
      obtain ⟨j71, e72, h⟩ := bd_ob h
      have hj71 : j71 < N 15 := (hwf.2.1 1 j0 32 _ e72 (by decide) hj0)
      refine me_opt (j := j71) e72 ?_
      refine lv_iload_n hx hb d_M_form_16 rfl (lv_at hl 2 rfl) ?_
      refine lv_iconst (v := 0) hx hb d_M_form_17 (by decide) ?_
      obtain ⟨g73, h⟩ := gd_ob h
      obtain ⟨M74, eM74, h⟩ := st_ob h
      refine me_zast eM74 hx hb hK hP hD hwf hS hj71 g73 d_M_form_18 (fun H locs hP hD hwf hS => ?_)
      have hkp := kp_I eM74 hkp
      refine lv_aload_n hx hb d_M_form_19 rfl (lv_at hl 0 rfl) ?_
      refine g_M_33 hx hb hts hown hK hP hwf hj0 (hts _ u_1774) d_M_form_20 ?_
      obtain ⟨j75, e76, h⟩ := bd_ob h
      have hj75 : j75 < N 15 := (hwf.2.1 1 j0 33 _ (kp_r hkb hkp e76) (by decide) hj0)
      refine me_opt (j := j75) (kp_r hkb hkp e76) ?_
      refine lv_iload_n hx hb d_M_form_23 rfl (lv_at hl 2 rfl) ?_
      refine lv_iconst (v := 0) hx hb d_M_form_24 (by decide) ?_
      obtain ⟨g77, h⟩ := gd_ob h
      obtain ⟨M78, eM78, h⟩ := st_ob h
      refine me_zast eM78 hx hb hK hP hD hwf hS hj75 (kp_z hkb.z hkp.z g77) d_M_form_25 (fun H locs hP hD hwf hS => ?_)
      have hkp := kp_I eM78 hkp
      refine lv_iinc (v := y2 + 1) (lv' := [(2, .int (y2 + 1)), (0, .ref (ad 1 j0)), (1, .int x1)]) hx hb d_M_form_26 hl (k := 2) rfl (by rfl) (by decide) rfl (fun ls hl => ?_)
      refine lv_goto (tgt := 7) hx hb d_M_form_29 (by decide) ?_
      exact ih M78 (y2 + 1) _ _ _ h hwf hkp hP hD hS (lv_sub hl [1, 2, 0] rfl)
  refine lv_aload_n hx hb d_M_form_0 rfl (lv_at hl 0 rfl) ?_
  refine lv_iload_n hx hb d_M_form_1 rfl (lv_at hl 1 rfl) ?_
  obtain ⟨M79, eM79, h⟩ := st_ob h
  refine p_M_12 eM79 hx hb hts hown hK hP hD hwf hS hj0 (hts _ u_1753) d_M_form_2 (fun H locs hP hD hwf hS => ?_)
  have hkp := kp_I eM79 hkp
  refine lv_iconst (v := 0) hx hb d_M_form_5 (by decide) ?_
  refine lv_istore_n (lv' := [(2, .int 0), (0, .ref (ad 1 j0)), (1, .int x1)]) hx hb d_M_form_6 rfl hl (by decide) rfl (fun ls hl => ?_)
  exact b_7 _ M79 (0 : Int32) _ _ _ h hwf hkp hP hD hS (lv_sub hl [1, 2, 0] rfl)
