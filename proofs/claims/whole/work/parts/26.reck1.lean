abbrev y_Reckoner_add : MethodName := ⟨"FilterGuard$Reckoner", "add", "(LFilterGuard$Num;LFilterGuard$Num;)V"⟩
theorem d_Reckoner_add_0 : decode prog_9_method_7_code 0 = .ok (.aload_n 1, 1) := by decide +kernel
theorem d_Reckoner_add_1 : decode prog_9_method_7_code 1 = .ok (.getfield 49, 3) := by decide +kernel
theorem u_368 : Cond.fieldLink "FilterGuard$Reckoner" 49 "FilterGuard$Num" "value" "J" ∈ fg_g := fg_in (List.mem_of_getElem? (i := 368) (by decide +kernel)) rfl
theorem d_Reckoner_add_4 : decode prog_9_method_7_code 4 = .ok (.aload_n 2, 1) := by decide +kernel
theorem d_Reckoner_add_5 : decode prog_9_method_7_code 5 = .ok (.getfield 49, 3) := by decide +kernel
theorem d_Reckoner_add_8 : decode prog_9_method_7_code 8 = .ok (.ladd, 1) := by decide +kernel
theorem d_Reckoner_add_9 : decode prog_9_method_7_code 9 = .ok (.lstore_n 3, 1) := by decide +kernel
theorem d_Reckoner_add_10 : decode prog_9_method_7_code 10 = .ok (.aload_n 1, 1) := by decide +kernel
theorem d_Reckoner_add_11 : decode prog_9_method_7_code 11 = .ok (.getfield 87, 3) := by decide +kernel
theorem u_372 : Cond.fieldLink "FilterGuard$Reckoner" 87 "FilterGuard$Num" "mask" "J" ∈ fg_g := fg_in (List.mem_of_getElem? (i := 372) (by decide +kernel)) rfl
theorem d_Reckoner_add_14 : decode prog_9_method_7_code 14 = .ok (.aload_n 2, 1) := by decide +kernel
theorem d_Reckoner_add_15 : decode prog_9_method_7_code 15 = .ok (.getfield 87, 3) := by decide +kernel
theorem d_Reckoner_add_18 : decode prog_9_method_7_code 18 = .ok (.ladd, 1) := by decide +kernel
theorem d_Reckoner_add_19 : decode prog_9_method_7_code 19 = .ok (.lload_n 3, 1) := by decide +kernel
theorem d_Reckoner_add_20 : decode prog_9_method_7_code 20 = .ok (.ladd, 1) := by decide +kernel
theorem d_Reckoner_add_21 : decode prog_9_method_7_code 21 = .ok (.lload_n 3, 1) := by decide +kernel
theorem d_Reckoner_add_22 : decode prog_9_method_7_code 22 = .ok (.lxor, 1) := by decide +kernel
theorem d_Reckoner_add_23 : decode prog_9_method_7_code 23 = .ok (.aload_n 1, 1) := by decide +kernel
theorem d_Reckoner_add_24 : decode prog_9_method_7_code 24 = .ok (.getfield 87, 3) := by decide +kernel
theorem d_Reckoner_add_27 : decode prog_9_method_7_code 27 = .ok (.lor, 1) := by decide +kernel
theorem d_Reckoner_add_28 : decode prog_9_method_7_code 28 = .ok (.aload_n 2, 1) := by decide +kernel
theorem d_Reckoner_add_29 : decode prog_9_method_7_code 29 = .ok (.getfield 87, 3) := by decide +kernel
theorem d_Reckoner_add_32 : decode prog_9_method_7_code 32 = .ok (.lor, 1) := by decide +kernel
theorem d_Reckoner_add_33 : decode prog_9_method_7_code 33 = .ok (.lstore 5, 2) := by decide +kernel
theorem d_Reckoner_add_35 : decode prog_9_method_7_code 35 = .ok (.aload_n 0, 1) := by decide +kernel
theorem d_Reckoner_add_36 : decode prog_9_method_7_code 36 = .ok (.getfield 21, 3) := by decide +kernel
theorem d_Reckoner_add_39 : decode prog_9_method_7_code 39 = .ok (.lload_n 3, 1) := by decide +kernel
theorem d_Reckoner_add_40 : decode prog_9_method_7_code 40 = .ok (.lload 5, 2) := by decide +kernel
theorem d_Reckoner_add_42 : decode prog_9_method_7_code 42 = .ok (.ldc2_w 90, 3) := by decide +kernel
theorem u_1139 : Cond.constantLong "FilterGuard$Reckoner" 90 (-1) ∈ fg_g := fg_in (List.mem_of_getElem? (i := 1139) (by decide +kernel)) rfl
theorem d_Reckoner_add_45 : decode prog_9_method_7_code 45 = .ok (.lxor, 1) := by decide +kernel
theorem d_Reckoner_add_46 : decode prog_9_method_7_code 46 = .ok (.land, 1) := by decide +kernel
theorem d_Reckoner_add_47 : decode prog_9_method_7_code 47 = .ok (.lload 5, 2) := by decide +kernel
theorem d_Reckoner_add_49 : decode prog_9_method_7_code 49 = .ok (.invokevirtual 92, 3) := by decide +kernel
theorem u_1140 : Cond.methodLink "FilterGuard$Reckoner" 92 ⟨"FilterGuard$Num", "bits", "(JJ)V"⟩ ∈ fg_g := fg_in (List.mem_of_getElem? (i := 1140) (by decide +kernel)) rfl
theorem u_1143 : Cond.code ⟨"FilterGuard$Num", "bits", "(JJ)V"⟩ prog_8_method_5_code 5 none ∈ fg_g := fg_in (List.mem_of_getElem? (i := 1143) (by decide +kernel)) rfl
theorem u_1141 : Cond.instanceMethod ⟨"FilterGuard$Num", "bits", "(JJ)V"⟩ ∈ fg_g := fg_in (List.mem_of_getElem? (i := 1141) (by decide +kernel)) rfl
theorem u_1142 : Cond.selects "FilterGuard$Num" ⟨"FilterGuard$Num", "bits", "(JJ)V"⟩ ⟨"FilterGuard$Num", "bits", "(JJ)V"⟩ ∈ fg_g := fg_in (List.mem_of_getElem? (i := 1142) (by decide +kernel)) rfl
theorem d_Reckoner_add_52 : decode prog_9_method_7_code 52 = .ok (.aload_n 1, 1) := by decide +kernel
theorem d_Reckoner_add_53 : decode prog_9_method_7_code 53 = .ok (.getfield 122, 3) := by decide +kernel
theorem u_377 : Cond.fieldLink "FilterGuard$Reckoner" 122 "FilterGuard$Num" "greatest" "J" ∈ fg_g := fg_in (List.mem_of_getElem? (i := 377) (by decide +kernel)) rfl
theorem d_Reckoner_add_56 : decode prog_9_method_7_code 56 = .ok (.aload_n 2, 1) := by decide +kernel
theorem d_Reckoner_add_57 : decode prog_9_method_7_code 57 = .ok (.getfield 122, 3) := by decide +kernel
theorem d_Reckoner_add_60 : decode prog_9_method_7_code 60 = .ok (.ladd, 1) := by decide +kernel
theorem d_Reckoner_add_61 : decode prog_9_method_7_code 61 = .ok (.aload_n 1, 1) := by decide +kernel
theorem d_Reckoner_add_62 : decode prog_9_method_7_code 62 = .ok (.getfield 122, 3) := by decide +kernel
theorem d_Reckoner_add_65 : decode prog_9_method_7_code 65 = .ok (.invokestatic 134, 3) := by decide +kernel
theorem u_1144 : Cond.methodLink "FilterGuard$Reckoner" 134 ⟨"FilterGuard$Num", "isBelow", "(JJ)Z"⟩ ∈ fg_g := fg_in (List.mem_of_getElem? (i := 1144) (by decide +kernel)) rfl
theorem d_Reckoner_add_68 : decode prog_9_method_7_code 68 = .ok (.ifCond .ne 28, 3) := by decide +kernel
theorem d_Reckoner_add_96 : decode prog_9_method_7_code 96 = .ok (.aload_n 1, 1) := by decide +kernel
theorem d_Reckoner_add_97 : decode prog_9_method_7_code 97 = .ok (.getfield 128, 3) := by decide +kernel
theorem u_380 : Cond.fieldLink "FilterGuard$Reckoner" 128 "FilterGuard$Num" "signedLeast" "J" ∈ fg_g := fg_in (List.mem_of_getElem? (i := 380) (by decide +kernel)) rfl
theorem d_Reckoner_add_100 : decode prog_9_method_7_code 100 = .ok (.aload_n 2, 1) := by decide +kernel
theorem d_Reckoner_add_101 : decode prog_9_method_7_code 101 = .ok (.getfield 128, 3) := by decide +kernel
theorem d_Reckoner_add_104 : decode prog_9_method_7_code 104 = .ok (.ladd, 1) := by decide +kernel
theorem d_Reckoner_add_105 : decode prog_9_method_7_code 105 = .ok (.lstore 7, 2) := by decide +kernel
theorem d_Reckoner_add_107 : decode prog_9_method_7_code 107 = .ok (.aload_n 1, 1) := by decide +kernel
theorem d_Reckoner_add_108 : decode prog_9_method_7_code 108 = .ok (.getfield 131, 3) := by decide +kernel
theorem u_382 : Cond.fieldLink "FilterGuard$Reckoner" 131 "FilterGuard$Num" "signedGreatest" "J" ∈ fg_g := fg_in (List.mem_of_getElem? (i := 382) (by decide +kernel)) rfl
theorem d_Reckoner_add_111 : decode prog_9_method_7_code 111 = .ok (.aload_n 2, 1) := by decide +kernel
theorem d_Reckoner_add_112 : decode prog_9_method_7_code 112 = .ok (.getfield 131, 3) := by decide +kernel
theorem d_Reckoner_add_115 : decode prog_9_method_7_code 115 = .ok (.ladd, 1) := by decide +kernel
theorem d_Reckoner_add_116 : decode prog_9_method_7_code 116 = .ok (.lstore 9, 2) := by decide +kernel
theorem d_Reckoner_add_118 : decode prog_9_method_7_code 118 = .ok (.aload_n 1, 1) := by decide +kernel
theorem d_Reckoner_add_119 : decode prog_9_method_7_code 119 = .ok (.getfield 128, 3) := by decide +kernel
theorem d_Reckoner_add_122 : decode prog_9_method_7_code 122 = .ok (.lload 7, 2) := by decide +kernel
theorem d_Reckoner_add_124 : decode prog_9_method_7_code 124 = .ok (.lxor, 1) := by decide +kernel
theorem d_Reckoner_add_125 : decode prog_9_method_7_code 125 = .ok (.aload_n 2, 1) := by decide +kernel
theorem d_Reckoner_add_126 : decode prog_9_method_7_code 126 = .ok (.getfield 128, 3) := by decide +kernel
theorem d_Reckoner_add_129 : decode prog_9_method_7_code 129 = .ok (.lload 7, 2) := by decide +kernel
theorem d_Reckoner_add_131 : decode prog_9_method_7_code 131 = .ok (.lxor, 1) := by decide +kernel
theorem d_Reckoner_add_132 : decode prog_9_method_7_code 132 = .ok (.land, 1) := by decide +kernel
theorem d_Reckoner_add_133 : decode prog_9_method_7_code 133 = .ok (.lconst 0, 1) := by decide +kernel
theorem d_Reckoner_add_134 : decode prog_9_method_7_code 134 = .ok (.lcmp, 1) := by decide +kernel
theorem d_Reckoner_add_135 : decode prog_9_method_7_code 135 = .ok (.ifCond .ge 7, 3) := by decide +kernel
theorem d_Reckoner_add_142 : decode prog_9_method_7_code 142 = .ok (.iconst 0, 1) := by decide +kernel
theorem d_Reckoner_add_143 : decode prog_9_method_7_code 143 = .ok (.istore 11, 2) := by decide +kernel
theorem d_Reckoner_add_145 : decode prog_9_method_7_code 145 = .ok (.aload_n 1, 1) := by decide +kernel
theorem d_Reckoner_add_146 : decode prog_9_method_7_code 146 = .ok (.getfield 131, 3) := by decide +kernel
theorem d_Reckoner_add_149 : decode prog_9_method_7_code 149 = .ok (.lload 9, 2) := by decide +kernel
theorem d_Reckoner_add_151 : decode prog_9_method_7_code 151 = .ok (.lxor, 1) := by decide +kernel
theorem d_Reckoner_add_152 : decode prog_9_method_7_code 152 = .ok (.aload_n 2, 1) := by decide +kernel
theorem d_Reckoner_add_153 : decode prog_9_method_7_code 153 = .ok (.getfield 131, 3) := by decide +kernel
theorem d_Reckoner_add_156 : decode prog_9_method_7_code 156 = .ok (.lload 9, 2) := by decide +kernel
theorem d_Reckoner_add_158 : decode prog_9_method_7_code 158 = .ok (.lxor, 1) := by decide +kernel
theorem d_Reckoner_add_159 : decode prog_9_method_7_code 159 = .ok (.land, 1) := by decide +kernel
theorem d_Reckoner_add_160 : decode prog_9_method_7_code 160 = .ok (.lconst 0, 1) := by decide +kernel
theorem d_Reckoner_add_161 : decode prog_9_method_7_code 161 = .ok (.lcmp, 1) := by decide +kernel
theorem d_Reckoner_add_162 : decode prog_9_method_7_code 162 = .ok (.ifCond .ge 7, 3) := by decide +kernel
theorem d_Reckoner_add_169 : decode prog_9_method_7_code 169 = .ok (.iconst 0, 1) := by decide +kernel
theorem d_Reckoner_add_170 : decode prog_9_method_7_code 170 = .ok (.istore 12, 2) := by decide +kernel
theorem d_Reckoner_add_172 : decode prog_9_method_7_code 172 = .ok (.iload 11, 2) := by decide +kernel
theorem d_Reckoner_add_174 : decode prog_9_method_7_code 174 = .ok (.ifCond .ne 26, 3) := by decide +kernel
theorem d_Reckoner_add_177 : decode prog_9_method_7_code 177 = .ok (.iload 12, 2) := by decide +kernel
theorem d_Reckoner_add_179 : decode prog_9_method_7_code 179 = .ok (.ifCond .ne 21, 3) := by decide +kernel
theorem d_Reckoner_add_182 : decode prog_9_method_7_code 182 = .ok (.aload_n 0, 1) := by decide +kernel
theorem d_Reckoner_add_183 : decode prog_9_method_7_code 183 = .ok (.getfield 21, 3) := by decide +kernel
theorem d_Reckoner_add_186 : decode prog_9_method_7_code 186 = .ok (.lload 7, 2) := by decide +kernel
theorem d_Reckoner_add_188 : decode prog_9_method_7_code 188 = .ok (.putfield 128, 3) := by decide +kernel
theorem d_Reckoner_add_191 : decode prog_9_method_7_code 191 = .ok (.aload_n 0, 1) := by decide +kernel
theorem d_Reckoner_add_192 : decode prog_9_method_7_code 192 = .ok (.getfield 21, 3) := by decide +kernel
theorem d_Reckoner_add_195 : decode prog_9_method_7_code 195 = .ok (.lload 9, 2) := by decide +kernel
theorem d_Reckoner_add_197 : decode prog_9_method_7_code 197 = .ok (.putfield 131, 3) := by decide +kernel
theorem d_Reckoner_add_200 : decode prog_9_method_7_code 200 = .ok (.return_, 1) := by decide +kernel
theorem d_Reckoner_add_165 : decode prog_9_method_7_code 165 = .ok (.iconst 1, 1) := by decide +kernel
theorem d_Reckoner_add_166 : decode prog_9_method_7_code 166 = .ok (.goto 4, 3) := by decide +kernel
theorem d_Reckoner_add_138 : decode prog_9_method_7_code 138 = .ok (.iconst 1, 1) := by decide +kernel
theorem d_Reckoner_add_139 : decode prog_9_method_7_code 139 = .ok (.goto 4, 3) := by decide +kernel
theorem d_Reckoner_add_71 : decode prog_9_method_7_code 71 = .ok (.aload_n 0, 1) := by decide +kernel
theorem d_Reckoner_add_72 : decode prog_9_method_7_code 72 = .ok (.getfield 21, 3) := by decide +kernel
theorem d_Reckoner_add_75 : decode prog_9_method_7_code 75 = .ok (.aload_n 1, 1) := by decide +kernel
theorem d_Reckoner_add_76 : decode prog_9_method_7_code 76 = .ok (.getfield 96, 3) := by decide +kernel
theorem u_374 : Cond.fieldLink "FilterGuard$Reckoner" 96 "FilterGuard$Num" "least" "J" ∈ fg_g := fg_in (List.mem_of_getElem? (i := 374) (by decide +kernel)) rfl
theorem d_Reckoner_add_79 : decode prog_9_method_7_code 79 = .ok (.aload_n 2, 1) := by decide +kernel
theorem d_Reckoner_add_80 : decode prog_9_method_7_code 80 = .ok (.getfield 96, 3) := by decide +kernel
theorem d_Reckoner_add_83 : decode prog_9_method_7_code 83 = .ok (.ladd, 1) := by decide +kernel
theorem d_Reckoner_add_84 : decode prog_9_method_7_code 84 = .ok (.aload_n 1, 1) := by decide +kernel
theorem d_Reckoner_add_85 : decode prog_9_method_7_code 85 = .ok (.getfield 122, 3) := by decide +kernel
theorem d_Reckoner_add_88 : decode prog_9_method_7_code 88 = .ok (.aload_n 2, 1) := by decide +kernel
theorem d_Reckoner_add_89 : decode prog_9_method_7_code 89 = .ok (.getfield 122, 3) := by decide +kernel
theorem d_Reckoner_add_92 : decode prog_9_method_7_code 92 = .ok (.ladd, 1) := by decide +kernel
theorem d_Reckoner_add_93 : decode prog_9_method_7_code 93 = .ok (.invokevirtual 125, 3) := by decide +kernel
theorem u_1145 : Cond.methodLink "FilterGuard$Reckoner" 125 ⟨"FilterGuard$Num", "range", "(JJ)V"⟩ ∈ fg_g := fg_in (List.mem_of_getElem? (i := 1145) (by decide +kernel)) rfl
theorem u_1148 : Cond.code ⟨"FilterGuard$Num", "range", "(JJ)V"⟩ prog_8_method_4_code 5 none ∈ fg_g := fg_in (List.mem_of_getElem? (i := 1148) (by decide +kernel)) rfl
theorem u_1146 : Cond.instanceMethod ⟨"FilterGuard$Num", "range", "(JJ)V"⟩ ∈ fg_g := fg_in (List.mem_of_getElem? (i := 1146) (by decide +kernel)) rfl
theorem u_1147 : Cond.selects "FilterGuard$Num" ⟨"FilterGuard$Num", "range", "(JJ)V"⟩ ⟨"FilterGuard$Num", "range", "(JJ)V"⟩ ∈ fg_g := fg_in (List.mem_of_getElem? (i := 1147) (by decide +kernel)) rfl
def rm_Reck_add : Room := { frames := 2, cells := 0, slots := 0, locals := 60 }
abbrev q_Reck_add (D : va_G) (h0 : Nat) (a1 : Nat) (a2 : Nat) (a3 : Nat) (a4 : Nat) (a5 : Nat) (h1 : Nat) (n1 : Int64) (n2 : Int64) (n3 : Int64) (n4 : Int64) (n5 : Int64) (n6 : Int64) (h2 : Nat) (o1 : Int64) (o2 : Int64) (o3 : Int64) (o4 : Int64) (o5 : Int64) (o6 : Int64) (A : Nat → Prop) : Array Value → Jvm.State → Outcome → Jvm.State → Prop := va_Qv (fun (u : Int64 × Int64 × Int64 × Int64 × Int64 × Int64) => fn_add n1 n2 n3 n4 n5 n6 o1 o2 o3 o4 o5 o6 = (u.1, u.2.1, u.2.2.1, u.2.2.2.1, u.2.2.2.2.1, u.2.2.2.2.2)) (fg_B D A (fun (u : Int64 × Int64 × Int64 × Int64 × Int64 × Int64) => [(h0, .inr (8, [.ref a1, .ref a2, .ref a3, .ref a4, .ref a5])), (a3, .inr (11, [.long u.1, .long u.2.1, .long u.2.2.1, .long u.2.2.2.1, .long u.2.2.2.2.1, .long u.2.2.2.2.2])), (h1, .inr (11, [.long n1, .long n2, .long n3, .long n4, .long n5, .long n6])), (h2, .inr (11, [.long o1, .long o2, .long o3, .long o4, .long o5, .long o6]))]) (fun (u : Int64 × Int64 × Int64 × Int64 × Int64 × Int64) => [])) A
set_option maxHeartbeats 4000000 in
set_option maxRecDepth 100000 in
theorem c_Reck_add (l : Launch) (D : va_G) (h0 : Nat) (a1 : Nat) (a2 : Nat) (a3 : Nat) (a4 : Nat) (a5 : Nat) (h1 : Nat) (n1 : Int64) (n2 : Int64) (n3 : Int64) (n4 : Int64) (n5 : Int64) (n6 : Int64) (h2 : Nat) (o1 : Int64) (o2 : Int64) (o3 : Int64) (o4 : Int64) (o5 : Int64) (o6 : Int64) (sz : Nat) : Met l y_Reckoner_add (fg_w y_Reckoner_add prog_9_method_7_code 13 none) rm_Reck_add (va_Pc [.ref h0, .ref h1, .ref h2] (fg_P D [] [(h0, .inr (8, [.ref a1, .ref a2, .ref a3, .ref a4, .ref a5])), (a3, .inr (11, [.long 0, .long (-1), .long 0, .long (-1), .long (-9223372036854775808), .long 9223372036854775807])), (h1, .inr (11, [.long n1, .long n2, .long n3, .long n4, .long n5, .long n6])), (h2, .inr (11, [.long o1, .long o2, .long o3, .long o4, .long o5, .long o6]))] sz)) (q_Reck_add D h0 a1 a2 a3 a4 a5 h1 n1 n2 n3 n4 n5 n6 h2 o1 o2 o3 o4 o5 o6 (va_A [(h0, .inr (8, [.ref a1, .ref a2, .ref a3, .ref a4, .ref a5])), (a3, .inr (11, [.long 0, .long (-1), .long 0, .long (-1), .long (-9223372036854775808), .long 9223372036854775807])), (h1, .inr (11, [.long n1, .long n2, .long n3, .long n4, .long n5, .long n6])), (h2, .inr (11, [.long o1, .long o2, .long o3, .long o4, .long o5, .long o6]))] sz)) rm_Reck_add.cells rm_Reck_add.slots (va_A [(h0, .inr (8, [.ref a1, .ref a2, .ref a3, .ref a4, .ref a5])), (a3, .inr (11, [.long 0, .long (-1), .long 0, .long (-1), .long (-9223372036854775808), .long 9223372036854775807])), (h1, .inr (11, [.long n1, .long n2, .long n3, .long n4, .long n5, .long n6])), (h2, .inr (11, [.long o1, .long o2, .long o3, .long o4, .long o5, .long o6]))] sz) := by
  refine fg_enter (fun A => q_Reck_add D h0 a1 a2 a3 a4 a5 h1 n1 n2 n3 n4 n5 n6 h2 o1 o2 o3 o4 o5 o6 A) (by decide +kernel) (Nat.le_of_ble_eq_true rfl) ?_
  intro p e s m below meth c ls A hx hb hml hown hts hr hlocks hin hP hK hD hS hA hX hl
  have hl : lv_has ls 13 [(0, .ref h0), (1, .ref h1), (2, .ref h2)] := hl
  refine lv_aload_n hx hb d_Reckoner_add_0 rfl (lv_at hl 1 rfl) ?_
  refine va_get (D := D) (ci := 11) (v := .long n1) (C := "FilterGuard$Num") (T := F_Num) (N := 6) hx hb hts i_Num hown hK hP 2 rfl rfl 0 (by decide) (hts _ u_368) (fun _ h9 => h9) rfl d_Reckoner_add_1 ?_
  refine lv_aload_n hx hb d_Reckoner_add_4 rfl (lv_at hl 2 rfl) ?_
  refine va_get (D := D) (ci := 11) (v := .long o1) (C := "FilterGuard$Num") (T := F_Num) (N := 6) hx hb hts i_Num hown hK hP 3 rfl rfl 0 (by decide) (hts _ u_368) (fun _ h9 => h9) rfl d_Reckoner_add_5 ?_
  refine lv_ladd hx hb d_Reckoner_add_8 ?_
  refine lv_lstore_n (lv' := [(3, .long (n1 + o1)), (0, .ref h0), (1, .ref h1), (2, .ref h2)]) hx hb d_Reckoner_add_9 rfl hl (by decide) rfl (fun ls hl => ?_)
  refine lv_aload_n hx hb d_Reckoner_add_10 rfl (lv_at hl 2 rfl) ?_
  refine va_get (D := D) (ci := 11) (v := .long n2) (C := "FilterGuard$Num") (T := F_Num) (N := 6) hx hb hts i_Num hown hK hP 2 rfl rfl 1 (by decide) (hts _ u_372) (fun _ h9 => h9) rfl d_Reckoner_add_11 ?_
  refine lv_aload_n hx hb d_Reckoner_add_14 rfl (lv_at hl 3 rfl) ?_
  refine va_get (D := D) (ci := 11) (v := .long o2) (C := "FilterGuard$Num") (T := F_Num) (N := 6) hx hb hts i_Num hown hK hP 3 rfl rfl 1 (by decide) (hts _ u_372) (fun _ h9 => h9) rfl d_Reckoner_add_15 ?_
  refine lv_ladd hx hb d_Reckoner_add_18 ?_
  refine lv_lload_n hx hb d_Reckoner_add_19 rfl (lv_at hl 0 rfl) ?_
  refine lv_ladd hx hb d_Reckoner_add_20 ?_
  refine lv_lload_n hx hb d_Reckoner_add_21 rfl (lv_at hl 0 rfl) ?_
  refine lv_lxor hx hb d_Reckoner_add_22 ?_
  refine lv_aload_n hx hb d_Reckoner_add_23 rfl (lv_at hl 2 rfl) ?_
  refine va_get (D := D) (ci := 11) (v := .long n2) (C := "FilterGuard$Num") (T := F_Num) (N := 6) hx hb hts i_Num hown hK hP 2 rfl rfl 1 (by decide) (hts _ u_372) (fun _ h9 => h9) rfl d_Reckoner_add_24 ?_
  refine lv_lor hx hb d_Reckoner_add_27 ?_
  refine lv_aload_n hx hb d_Reckoner_add_28 rfl (lv_at hl 3 rfl) ?_
  refine va_get (D := D) (ci := 11) (v := .long o2) (C := "FilterGuard$Num") (T := F_Num) (N := 6) hx hb hts i_Num hown hK hP 3 rfl rfl 1 (by decide) (hts _ u_372) (fun _ h9 => h9) rfl d_Reckoner_add_29 ?_
  refine lv_lor hx hb d_Reckoner_add_32 ?_
  refine lv_lstore (lv' := [(5, .long (((((n2 + o2) + (n1 + o1)) ^^^ (n1 + o1)) ||| n2) ||| o2)), (3, .long (n1 + o1)), (0, .ref h0), (1, .ref h1), (2, .ref h2)]) hx hb d_Reckoner_add_33 hl (by decide) rfl (fun ls hl => ?_)
  refine lv_aload_n hx hb d_Reckoner_add_35 rfl (lv_at hl 2 rfl) ?_
  refine va_get (D := D) (ci := 8) (v := .ref a3) (C := "FilterGuard$Reckoner") (T := F_Reckoner) (N := 5) hx hb hts i_Reckoner hown hK hP 0 rfl rfl 2 (by decide) (hts _ u_398) (fun _ h9 => h9) rfl d_Reckoner_add_36 ?_
  refine lv_lload_n hx hb d_Reckoner_add_39 rfl (lv_at hl 1 rfl) ?_
  refine lv_lload hx hb d_Reckoner_add_40 (lv_at hl 0 rfl) ?_
  refine lv_ldc2 hx hb hown (hts _ u_1139) d_Reckoner_add_42 ?_
  refine lv_lxor hx hb d_Reckoner_add_45 ?_
  refine lv_land hx hb d_Reckoner_add_46 ?_
  refine lv_lload hx hb d_Reckoner_add_47 (lv_at hl 0 rfl) ?_
  refine fg_thenv (wr := [(h0, .inr (8, [.ref a1, .ref a2, .ref a3, .ref a4, .ref a5])), (h1, .inr (11, [.long n1, .long n2, .long n3, .long n4, .long n5, .long n6])), (h2, .inr (11, [.long o1, .long o2, .long o3, .long o4, .long o5, .long o6]))]) (fg_runV (C := "FilterGuard$Num") (As := [.long ((n1 + o1) &&& ((((((n2 + o2) + (n1 + o1)) ^^^ (n1 + o1)) ||| n2) ||| o2) ^^^ (-1))), .long (((((n2 + o2) + (n1 + o1)) ^^^ (n1 + o1)) ||| n2) ||| o2)]) (rest := []) (ci := 11) (q0 := 0) ⟨hx, hb, hml, hown, hts⟩ (c_Num_bits l D a3 0 (-1) 0 (-1) (-9223372036854775808) 9223372036854775807 ((n1 + o1) &&& ((((((n2 + o2) + (n1 + o1)) ^^^ (n1 + o1)) ||| n2) ||| o2) ^^^ (-1))) (((((n2 + o2) + (n1 + o1)) ^^^ (n1 + o1)) ||| n2) ||| o2) s.heap.size) rfl (by show fg_nm y_Num_bits 2; decide +kernel) u_1140 u_1141 u_1142 u_187 u_1143 ⟨Nat.le_of_ble_eq_true rfl, Nat.le_of_ble_eq_true rfl⟩ hX (hP.sub (ws' := [(a3, .inr (11, [.long 0, .long (-1), .long 0, .long (-1), .long (-9223372036854775808), .long 9223372036854775807]))]) [1] rfl) (hK.sub (tys' := []) [] rfl) (hD.sub (ws' := [(a3, .inr (11, [.long 0, .long (-1), .long 0, .long (-1), .long (-9223372036854775808), .long 9223372036854775807]))]) [1] (by decide) rfl) rfl rfl rfl rfl hl.1 (Nat.le_of_ble_eq_true rfl) d_Reckoner_add_49 ⟨(Nat.le_of_ble_eq_true rfl), (Nat.le_of_ble_eq_true rfl)⟩) hP hD hK hS hA [1] [0, 2, 3] rfl rfl (by decide) (by decide) (fun  u H locs hw49_0 hP hD hK hS => ?_)
  try dsimp only at hw49_0
  have hP : va_P D classes [(h0, .inr (8, [.ref a1, .ref a2, .ref a3, .ref a4, .ref a5])), (h1, .inr (11, [.long n1, .long n2, .long n3, .long n4, .long n5, .long n6])), (h2, .inr (11, [.long o1, .long o2, .long o3, .long o4, .long o5, .long o6])), (a3, .inr (11, [.long ((n1 + o1) &&& ((((((n2 + o2) + (n1 + o1)) ^^^ (n1 + o1)) ||| n2) ||| o2) ^^^ (-1))), .long (((((n2 + o2) + (n1 + o1)) ^^^ (n1 + o1)) ||| n2) ||| o2), .long 0, .long (-1), .long (-9223372036854775808), .long 9223372036854775807]))] H := hP
  have hD : va_D A [(h0, .inr (8, [.ref a1, .ref a2, .ref a3, .ref a4, .ref a5])), (h1, .inr (11, [.long n1, .long n2, .long n3, .long n4, .long n5, .long n6])), (h2, .inr (11, [.long o1, .long o2, .long o3, .long o4, .long o5, .long o6])), (a3, .inr (11, [.long ((n1 + o1) &&& ((((((n2 + o2) + (n1 + o1)) ^^^ (n1 + o1)) ||| n2) ||| o2) ^^^ (-1))), .long (((((n2 + o2) + (n1 + o1)) ^^^ (n1 + o1)) ||| n2) ||| o2), .long 0, .long (-1), .long (-9223372036854775808), .long 9223372036854775807]))] := hD
  have hK : va_K D classes [] s := hK
  refine W.widen (k := 0) (n := 0) (Nat.le_of_ble_eq_true rfl) (Nat.le_of_ble_eq_true rfl) ?_
  refine lv_aload_n hx hb d_Reckoner_add_52 rfl (lv_at hl 3 rfl) ?_
  refine va_get (D := D) (ci := 11) (v := .long n4) (C := "FilterGuard$Num") (T := F_Num) (N := 6) hx hb hts i_Num hown hK hP 1 rfl rfl 3 (by decide) (hts _ u_377) (fun _ h9 => h9) rfl d_Reckoner_add_53 ?_
  refine lv_aload_n hx hb d_Reckoner_add_56 rfl (lv_at hl 4 rfl) ?_
  refine va_get (D := D) (ci := 11) (v := .long o4) (C := "FilterGuard$Num") (T := F_Num) (N := 6) hx hb hts i_Num hown hK hP 2 rfl rfl 3 (by decide) (hts _ u_377) (fun _ h9 => h9) rfl d_Reckoner_add_57 ?_
  refine lv_ladd hx hb d_Reckoner_add_60 ?_
  refine lv_aload_n hx hb d_Reckoner_add_61 rfl (lv_at hl 3 rfl) ?_
  refine va_get (D := D) (ci := 11) (v := .long n4) (C := "FilterGuard$Num") (T := F_Num) (N := 6) hx hb hts i_Num hown hK hP 1 rfl rfl 3 (by decide) (hts _ u_377) (fun _ h9 => h9) rfl d_Reckoner_add_62 ?_
  refine fg_theni (wr := [(h0, .inr (8, [.ref a1, .ref a2, .ref a3, .ref a4, .ref a5])), (h1, .inr (11, [.long n1, .long n2, .long n3, .long n4, .long n5, .long n6])), (h2, .inr (11, [.long o1, .long o2, .long o3, .long o4, .long o5, .long o6])), (a3, .inr (11, [.long ((n1 + o1) &&& ((((((n2 + o2) + (n1 + o1)) ^^^ (n1 + o1)) ||| n2) ||| o2) ^^^ (-1))), .long (((((n2 + o2) + (n1 + o1)) ^^^ (n1 + o1)) ||| n2) ||| o2), .long 0, .long (-1), .long (-9223372036854775808), .long 9223372036854775807]))]) (fg_runS (As := [.long (n4 + o4), .long n4]) (rest := []) ⟨hx, hb, hml, hown, hts⟩ (c_Num_isBelow l D (n4 + o4) n4 H.size) (by show fg_nm y_Num_isBelow 2; decide +kernel) u_1144 u_1063 u_187 u_1064 ⟨Nat.le_of_ble_eq_true rfl, Nat.le_of_ble_eq_true rfl⟩ hX (hP.sub (ws' := []) [] rfl) (hK.sub (tys' := []) [] rfl) (hD.sub (ws' := []) [] (by decide) rfl) rfl hl.1 (Nat.le_of_ble_eq_true rfl) d_Reckoner_add_65 ⟨(Nat.le_of_ble_eq_true rfl), (Nat.le_of_ble_eq_true rfl)⟩) hP hD hK hS hA [] [0, 1, 2, 3] rfl rfl (by decide) (by decide) (fun r65_2 u H locs hw65_1 hP hD hK hS => ?_)
  try dsimp only at hw65_1
  have hP : va_P D classes [(h0, .inr (8, [.ref a1, .ref a2, .ref a3, .ref a4, .ref a5])), (h1, .inr (11, [.long n1, .long n2, .long n3, .long n4, .long n5, .long n6])), (h2, .inr (11, [.long o1, .long o2, .long o3, .long o4, .long o5, .long o6])), (a3, .inr (11, [.long ((n1 + o1) &&& ((((((n2 + o2) + (n1 + o1)) ^^^ (n1 + o1)) ||| n2) ||| o2) ^^^ (-1))), .long (((((n2 + o2) + (n1 + o1)) ^^^ (n1 + o1)) ||| n2) ||| o2), .long 0, .long (-1), .long (-9223372036854775808), .long 9223372036854775807]))] H := hP
  have hD : va_D A [(h0, .inr (8, [.ref a1, .ref a2, .ref a3, .ref a4, .ref a5])), (h1, .inr (11, [.long n1, .long n2, .long n3, .long n4, .long n5, .long n6])), (h2, .inr (11, [.long o1, .long o2, .long o3, .long o4, .long o5, .long o6])), (a3, .inr (11, [.long ((n1 + o1) &&& ((((((n2 + o2) + (n1 + o1)) ^^^ (n1 + o1)) ||| n2) ||| o2) ^^^ (-1))), .long (((((n2 + o2) + (n1 + o1)) ^^^ (n1 + o1)) ||| n2) ||| o2), .long 0, .long (-1), .long (-9223372036854775808), .long 9223372036854775807]))] := hD
  have hK : va_K D classes [] s := hK
  refine W.widen (k := 0) (n := 0) (Nat.le_of_ble_eq_true rfl) (Nat.le_of_ble_eq_true rfl) ?_
  refine lv_if_ne (tgt := 96) hx hb d_Reckoner_add_68 (by decide) (fun c_3 => ?_) (fun c_3 => ?_)
  · have gc_3 : (fn_lt (n4 + o4) n4) := fg_ifnz hw65_1 c_3
    refine lv_aload_n hx hb d_Reckoner_add_96 rfl (lv_at hl 3 rfl) ?_
    refine va_get (D := D) (ci := 11) (v := .long n5) (C := "FilterGuard$Num") (T := F_Num) (N := 6) hx hb hts i_Num hown hK hP 1 rfl rfl 4 (by decide) (hts _ u_380) (fun _ h9 => h9) rfl d_Reckoner_add_97 ?_
    refine lv_aload_n hx hb d_Reckoner_add_100 rfl (lv_at hl 4 rfl) ?_
    refine va_get (D := D) (ci := 11) (v := .long o5) (C := "FilterGuard$Num") (T := F_Num) (N := 6) hx hb hts i_Num hown hK hP 2 rfl rfl 4 (by decide) (hts _ u_380) (fun _ h9 => h9) rfl d_Reckoner_add_101 ?_
    refine lv_ladd hx hb d_Reckoner_add_104 ?_
    refine lv_lstore (lv' := [(7, .long (n5 + o5)), (5, .long (((((n2 + o2) + (n1 + o1)) ^^^ (n1 + o1)) ||| n2) ||| o2)), (3, .long (n1 + o1)), (0, .ref h0), (1, .ref h1), (2, .ref h2)]) hx hb d_Reckoner_add_105 hl (by decide) rfl (fun ls hl => ?_)
    refine lv_aload_n hx hb d_Reckoner_add_107 rfl (lv_at hl 4 rfl) ?_
    refine va_get (D := D) (ci := 11) (v := .long n6) (C := "FilterGuard$Num") (T := F_Num) (N := 6) hx hb hts i_Num hown hK hP 1 rfl rfl 5 (by decide) (hts _ u_382) (fun _ h9 => h9) rfl d_Reckoner_add_108 ?_
    refine lv_aload_n hx hb d_Reckoner_add_111 rfl (lv_at hl 5 rfl) ?_
    refine va_get (D := D) (ci := 11) (v := .long o6) (C := "FilterGuard$Num") (T := F_Num) (N := 6) hx hb hts i_Num hown hK hP 2 rfl rfl 5 (by decide) (hts _ u_382) (fun _ h9 => h9) rfl d_Reckoner_add_112 ?_
    refine lv_ladd hx hb d_Reckoner_add_115 ?_
    refine lv_lstore (lv' := [(9, .long (n6 + o6)), (7, .long (n5 + o5)), (5, .long (((((n2 + o2) + (n1 + o1)) ^^^ (n1 + o1)) ||| n2) ||| o2)), (3, .long (n1 + o1)), (0, .ref h0), (1, .ref h1), (2, .ref h2)]) hx hb d_Reckoner_add_116 hl (by decide) rfl (fun ls hl => ?_)
    refine lv_aload_n hx hb d_Reckoner_add_118 rfl (lv_at hl 5 rfl) ?_
    refine va_get (D := D) (ci := 11) (v := .long n5) (C := "FilterGuard$Num") (T := F_Num) (N := 6) hx hb hts i_Num hown hK hP 1 rfl rfl 4 (by decide) (hts _ u_380) (fun _ h9 => h9) rfl d_Reckoner_add_119 ?_
    refine lv_lload hx hb d_Reckoner_add_122 (lv_at hl 1 rfl) ?_
    refine lv_lxor hx hb d_Reckoner_add_124 ?_
    refine lv_aload_n hx hb d_Reckoner_add_125 rfl (lv_at hl 6 rfl) ?_
    refine va_get (D := D) (ci := 11) (v := .long o5) (C := "FilterGuard$Num") (T := F_Num) (N := 6) hx hb hts i_Num hown hK hP 2 rfl rfl 4 (by decide) (hts _ u_380) (fun _ h9 => h9) rfl d_Reckoner_add_126 ?_
    refine lv_lload hx hb d_Reckoner_add_129 (lv_at hl 1 rfl) ?_
    refine lv_lxor hx hb d_Reckoner_add_131 ?_
    refine lv_land hx hb d_Reckoner_add_132 ?_
    refine lv_lconst (v := 0) hx hb d_Reckoner_add_133 (by decide) ?_
    refine W.lcmp hx hb d_Reckoner_add_134 ?_
    refine lv_if_ge (tgt := 142) hx hb d_Reckoner_add_135 (by decide) (fun c_4 => ?_) (fun c_4 => ?_)
    · have gc_4 : ¬ ((n5 ^^^ (n5 + o5)) &&& (o5 ^^^ (n5 + o5))) < 0 := Int64.not_lt.mpr ((lg_cmp_ge _ _).mp c_4)
      refine lv_iconst (v := 0) hx hb d_Reckoner_add_142 (by decide) ?_
      refine lv_istore (lv' := [(11, .int 0), (9, .long (n6 + o6)), (7, .long (n5 + o5)), (5, .long (((((n2 + o2) + (n1 + o1)) ^^^ (n1 + o1)) ||| n2) ||| o2)), (3, .long (n1 + o1)), (0, .ref h0), (1, .ref h1), (2, .ref h2)]) hx hb d_Reckoner_add_143 hl (by decide) rfl (fun ls hl => ?_)
      refine lv_aload_n hx hb d_Reckoner_add_145 rfl (lv_at hl 6 rfl) ?_
      refine va_get (D := D) (ci := 11) (v := .long n6) (C := "FilterGuard$Num") (T := F_Num) (N := 6) hx hb hts i_Num hown hK hP 1 rfl rfl 5 (by decide) (hts _ u_382) (fun _ h9 => h9) rfl d_Reckoner_add_146 ?_
      refine lv_lload hx hb d_Reckoner_add_149 (lv_at hl 1 rfl) ?_
      refine lv_lxor hx hb d_Reckoner_add_151 ?_
      refine lv_aload_n hx hb d_Reckoner_add_152 rfl (lv_at hl 7 rfl) ?_
      refine va_get (D := D) (ci := 11) (v := .long o6) (C := "FilterGuard$Num") (T := F_Num) (N := 6) hx hb hts i_Num hown hK hP 2 rfl rfl 5 (by decide) (hts _ u_382) (fun _ h9 => h9) rfl d_Reckoner_add_153 ?_
      refine lv_lload hx hb d_Reckoner_add_156 (lv_at hl 1 rfl) ?_
      refine lv_lxor hx hb d_Reckoner_add_158 ?_
      refine lv_land hx hb d_Reckoner_add_159 ?_
      refine lv_lconst (v := 0) hx hb d_Reckoner_add_160 (by decide) ?_
      refine W.lcmp hx hb d_Reckoner_add_161 ?_
      refine lv_if_ge (tgt := 169) hx hb d_Reckoner_add_162 (by decide) (fun c_5 => ?_) (fun c_5 => ?_)
      · have gc_5 : ¬ ((n6 ^^^ (n6 + o6)) &&& (o6 ^^^ (n6 + o6))) < 0 := Int64.not_lt.mpr ((lg_cmp_ge _ _).mp c_5)
        refine lv_iconst (v := 0) hx hb d_Reckoner_add_169 (by decide) ?_
        refine lv_istore (lv' := [(12, .int 0), (11, .int 0), (9, .long (n6 + o6)), (7, .long (n5 + o5)), (5, .long (((((n2 + o2) + (n1 + o1)) ^^^ (n1 + o1)) ||| n2) ||| o2)), (3, .long (n1 + o1)), (0, .ref h0), (1, .ref h1), (2, .ref h2)]) hx hb d_Reckoner_add_170 hl (by decide) rfl (fun ls hl => ?_)
        refine lv_iload hx hb d_Reckoner_add_172 (lv_at hl 1 rfl) ?_
        refine lv_if_ne (tgt := 200) hx hb d_Reckoner_add_174 (by decide) (fun c_6 => absurd (by decide) c_6) (fun c_6 => ?_)
        refine lv_iload hx hb d_Reckoner_add_177 (lv_at hl 0 rfl) ?_
        refine lv_if_ne (tgt := 200) hx hb d_Reckoner_add_179 (by decide) (fun c_7 => absurd (by decide) c_7) (fun c_7 => ?_)
        refine lv_aload_n hx hb d_Reckoner_add_182 rfl (lv_at hl 6 rfl) ?_
        refine va_get (D := D) (ci := 8) (v := .ref a3) (C := "FilterGuard$Reckoner") (T := F_Reckoner) (N := 5) hx hb hts i_Reckoner hown hK hP 0 rfl rfl 2 (by decide) (hts _ u_398) (fun _ h9 => h9) rfl d_Reckoner_add_183 ?_
        refine lv_lload hx hb d_Reckoner_add_186 (lv_at hl 3 rfl) ?_
        refine va_put (D := D) (ci := 11) (v := .long (n5 + o5)) (ty := .long) (C := "FilterGuard$Num") (T := F_Num) (N := 6) hx hb hts i_Num t_Num t_Num_ok n_Num hown hK hP hD hS 3 rfl rfl 4 (by decide) (hts _ u_380) (fun _ h9 => h9) rfl (by decide +kernel) rfl rfl (Nat.le_of_ble_eq_true rfl) d_Reckoner_add_188 (fun H locs hP hD hS => ?_)
        have hP : va_P D classes [(h0, .inr (8, [.ref a1, .ref a2, .ref a3, .ref a4, .ref a5])), (h1, .inr (11, [.long n1, .long n2, .long n3, .long n4, .long n5, .long n6])), (h2, .inr (11, [.long o1, .long o2, .long o3, .long o4, .long o5, .long o6])), (a3, .inr (11, [.long ((n1 + o1) &&& ((((((n2 + o2) + (n1 + o1)) ^^^ (n1 + o1)) ||| n2) ||| o2) ^^^ (-1))), .long (((((n2 + o2) + (n1 + o1)) ^^^ (n1 + o1)) ||| n2) ||| o2), .long 0, .long (-1), .long (n5 + o5), .long 9223372036854775807]))] H := hP
        have hD : va_D A [(h0, .inr (8, [.ref a1, .ref a2, .ref a3, .ref a4, .ref a5])), (h1, .inr (11, [.long n1, .long n2, .long n3, .long n4, .long n5, .long n6])), (h2, .inr (11, [.long o1, .long o2, .long o3, .long o4, .long o5, .long o6])), (a3, .inr (11, [.long ((n1 + o1) &&& ((((((n2 + o2) + (n1 + o1)) ^^^ (n1 + o1)) ||| n2) ||| o2) ^^^ (-1))), .long (((((n2 + o2) + (n1 + o1)) ^^^ (n1 + o1)) ||| n2) ||| o2), .long 0, .long (-1), .long (n5 + o5), .long 9223372036854775807]))] := hD
        refine lv_aload_n hx hb d_Reckoner_add_191 rfl (lv_at hl 6 rfl) ?_
        refine va_get (D := D) (ci := 8) (v := .ref a3) (C := "FilterGuard$Reckoner") (T := F_Reckoner) (N := 5) hx hb hts i_Reckoner hown hK hP 0 rfl rfl 2 (by decide) (hts _ u_398) (fun _ h9 => h9) rfl d_Reckoner_add_192 ?_
        refine lv_lload hx hb d_Reckoner_add_195 (lv_at hl 2 rfl) ?_
        refine va_put (D := D) (ci := 11) (v := .long (n6 + o6)) (ty := .long) (C := "FilterGuard$Num") (T := F_Num) (N := 6) hx hb hts i_Num t_Num t_Num_ok n_Num hown hK hP hD hS 3 rfl rfl 5 (by decide) (hts _ u_382) (fun _ h9 => h9) rfl (by decide +kernel) rfl rfl (Nat.le_of_ble_eq_true rfl) d_Reckoner_add_197 (fun H locs hP hD hS => ?_)
        have hP : va_P D classes [(h0, .inr (8, [.ref a1, .ref a2, .ref a3, .ref a4, .ref a5])), (h1, .inr (11, [.long n1, .long n2, .long n3, .long n4, .long n5, .long n6])), (h2, .inr (11, [.long o1, .long o2, .long o3, .long o4, .long o5, .long o6])), (a3, .inr (11, [.long ((n1 + o1) &&& ((((((n2 + o2) + (n1 + o1)) ^^^ (n1 + o1)) ||| n2) ||| o2) ^^^ (-1))), .long (((((n2 + o2) + (n1 + o1)) ^^^ (n1 + o1)) ||| n2) ||| o2), .long 0, .long (-1), .long (n5 + o5), .long (n6 + o6)]))] H := hP
        have hD : va_D A [(h0, .inr (8, [.ref a1, .ref a2, .ref a3, .ref a4, .ref a5])), (h1, .inr (11, [.long n1, .long n2, .long n3, .long n4, .long n5, .long n6])), (h2, .inr (11, [.long o1, .long o2, .long o3, .long o4, .long o5, .long o6])), (a3, .inr (11, [.long ((n1 + o1) &&& ((((((n2 + o2) + (n1 + o1)) ^^^ (n1 + o1)) ||| n2) ||| o2) ^^^ (-1))), .long (((((n2 + o2) + (n1 + o1)) ^^^ (n1 + o1)) ||| n2) ||| o2), .long 0, .long (-1), .long (n5 + o5), .long (n6 + o6)]))] := hD
        exact fg_retv (((n1 + o1) &&& ((((((n2 + o2) + (n1 + o1)) ^^^ (n1 + o1)) ||| n2) ||| o2) ^^^ (-1))), (((((n2 + o2) + (n1 + o1)) ^^^ (n1 + o1)) ||| n2) ||| o2), 0, (-1), n5 + o5, n6 + o6) hx hb hr hlocks (by unfold fn_add; (repeat rw [if_pos gc_3]); (repeat rw [if_neg gc_4]); (repeat rw [if_neg gc_5]); try rfl) (hP.sub (ws' := [(h0, .inr (8, [.ref a1, .ref a2, .ref a3, .ref a4, .ref a5])), (a3, .inr (11, [.long ((n1 + o1) &&& ((((((n2 + o2) + (n1 + o1)) ^^^ (n1 + o1)) ||| n2) ||| o2) ^^^ (-1))), .long (((((n2 + o2) + (n1 + o1)) ^^^ (n1 + o1)) ||| n2) ||| o2), .long 0, .long (-1), .long (n5 + o5), .long (n6 + o6)])), (h1, .inr (11, [.long n1, .long n2, .long n3, .long n4, .long n5, .long n6])), (h2, .inr (11, [.long o1, .long o2, .long o3, .long o4, .long o5, .long o6]))]) [0, 3, 1, 2] rfl) (hK.sub (tys' := []) [] rfl) (hD.sub (ws' := [(h0, .inr (8, [.ref a1, .ref a2, .ref a3, .ref a4, .ref a5])), (a3, .inr (11, [.long ((n1 + o1) &&& ((((((n2 + o2) + (n1 + o1)) ^^^ (n1 + o1)) ||| n2) ||| o2) ^^^ (-1))), .long (((((n2 + o2) + (n1 + o1)) ^^^ (n1 + o1)) ||| n2) ||| o2), .long 0, .long (-1), .long (n5 + o5), .long (n6 + o6)])), (h1, .inr (11, [.long n1, .long n2, .long n3, .long n4, .long n5, .long n6])), (h2, .inr (11, [.long o1, .long o2, .long o3, .long o4, .long o5, .long o6]))]) [0, 3, 1, 2] (by decide) rfl) hS (Nat.le_of_ble_eq_true rfl) (Nat.le_of_ble_eq_true rfl) d_Reckoner_add_200
      · have gc_5 : ((n6 ^^^ (n6 + o6)) &&& (o6 ^^^ (n6 + o6))) < 0 := Int64.not_le.mp (fun z => c_5 ((lg_cmp_ge _ _).mpr z))
        refine lv_iconst (v := 1) hx hb d_Reckoner_add_165 (by decide) ?_
        refine lv_goto (tgt := 170) hx hb d_Reckoner_add_166 (by decide) ?_
        refine lv_istore (lv' := [(12, .int 1), (11, .int 0), (9, .long (n6 + o6)), (7, .long (n5 + o5)), (5, .long (((((n2 + o2) + (n1 + o1)) ^^^ (n1 + o1)) ||| n2) ||| o2)), (3, .long (n1 + o1)), (0, .ref h0), (1, .ref h1), (2, .ref h2)]) hx hb d_Reckoner_add_170 hl (by decide) rfl (fun ls hl => ?_)
        refine lv_iload hx hb d_Reckoner_add_172 (lv_at hl 1 rfl) ?_
        refine lv_if_ne (tgt := 200) hx hb d_Reckoner_add_174 (by decide) (fun c_8 => absurd (by decide) c_8) (fun c_8 => ?_)
        refine lv_iload hx hb d_Reckoner_add_177 (lv_at hl 0 rfl) ?_
        refine lv_if_ne (tgt := 200) hx hb d_Reckoner_add_179 (by decide) (fun c_9 => ?_) (fun c_9 => absurd c_9 (by decide))
        exact fg_retv (((n1 + o1) &&& ((((((n2 + o2) + (n1 + o1)) ^^^ (n1 + o1)) ||| n2) ||| o2) ^^^ (-1))), (((((n2 + o2) + (n1 + o1)) ^^^ (n1 + o1)) ||| n2) ||| o2), 0, (-1), (-9223372036854775808), 9223372036854775807) hx hb hr hlocks (by unfold fn_add; (repeat rw [if_pos gc_3]); (repeat rw [if_neg gc_4]); (repeat rw [if_pos gc_5]); try rfl) (hP.sub (ws' := [(h0, .inr (8, [.ref a1, .ref a2, .ref a3, .ref a4, .ref a5])), (a3, .inr (11, [.long ((n1 + o1) &&& ((((((n2 + o2) + (n1 + o1)) ^^^ (n1 + o1)) ||| n2) ||| o2) ^^^ (-1))), .long (((((n2 + o2) + (n1 + o1)) ^^^ (n1 + o1)) ||| n2) ||| o2), .long 0, .long (-1), .long (-9223372036854775808), .long 9223372036854775807])), (h1, .inr (11, [.long n1, .long n2, .long n3, .long n4, .long n5, .long n6])), (h2, .inr (11, [.long o1, .long o2, .long o3, .long o4, .long o5, .long o6]))]) [0, 3, 1, 2] rfl) (hK.sub (tys' := []) [] rfl) (hD.sub (ws' := [(h0, .inr (8, [.ref a1, .ref a2, .ref a3, .ref a4, .ref a5])), (a3, .inr (11, [.long ((n1 + o1) &&& ((((((n2 + o2) + (n1 + o1)) ^^^ (n1 + o1)) ||| n2) ||| o2) ^^^ (-1))), .long (((((n2 + o2) + (n1 + o1)) ^^^ (n1 + o1)) ||| n2) ||| o2), .long 0, .long (-1), .long (-9223372036854775808), .long 9223372036854775807])), (h1, .inr (11, [.long n1, .long n2, .long n3, .long n4, .long n5, .long n6])), (h2, .inr (11, [.long o1, .long o2, .long o3, .long o4, .long o5, .long o6]))]) [0, 3, 1, 2] (by decide) rfl) hS (Nat.le_of_ble_eq_true rfl) (Nat.le_of_ble_eq_true rfl) d_Reckoner_add_200
    · have gc_4 : ((n5 ^^^ (n5 + o5)) &&& (o5 ^^^ (n5 + o5))) < 0 := Int64.not_le.mp (fun z => c_4 ((lg_cmp_ge _ _).mpr z))
      refine lv_iconst (v := 1) hx hb d_Reckoner_add_138 (by decide) ?_
      refine lv_goto (tgt := 143) hx hb d_Reckoner_add_139 (by decide) ?_
      refine lv_istore (lv' := [(11, .int 1), (9, .long (n6 + o6)), (7, .long (n5 + o5)), (5, .long (((((n2 + o2) + (n1 + o1)) ^^^ (n1 + o1)) ||| n2) ||| o2)), (3, .long (n1 + o1)), (0, .ref h0), (1, .ref h1), (2, .ref h2)]) hx hb d_Reckoner_add_143 hl (by decide) rfl (fun ls hl => ?_)
      refine lv_aload_n hx hb d_Reckoner_add_145 rfl (lv_at hl 6 rfl) ?_
      refine va_get (D := D) (ci := 11) (v := .long n6) (C := "FilterGuard$Num") (T := F_Num) (N := 6) hx hb hts i_Num hown hK hP 1 rfl rfl 5 (by decide) (hts _ u_382) (fun _ h9 => h9) rfl d_Reckoner_add_146 ?_
      refine lv_lload hx hb d_Reckoner_add_149 (lv_at hl 1 rfl) ?_
      refine lv_lxor hx hb d_Reckoner_add_151 ?_
      refine lv_aload_n hx hb d_Reckoner_add_152 rfl (lv_at hl 7 rfl) ?_
      refine va_get (D := D) (ci := 11) (v := .long o6) (C := "FilterGuard$Num") (T := F_Num) (N := 6) hx hb hts i_Num hown hK hP 2 rfl rfl 5 (by decide) (hts _ u_382) (fun _ h9 => h9) rfl d_Reckoner_add_153 ?_
      refine lv_lload hx hb d_Reckoner_add_156 (lv_at hl 1 rfl) ?_
      refine lv_lxor hx hb d_Reckoner_add_158 ?_
      refine lv_land hx hb d_Reckoner_add_159 ?_
      refine lv_lconst (v := 0) hx hb d_Reckoner_add_160 (by decide) ?_
      refine W.lcmp hx hb d_Reckoner_add_161 ?_
      refine lv_if_ge (tgt := 169) hx hb d_Reckoner_add_162 (by decide) (fun c_10 => ?_) (fun c_10 => ?_)
      · have gc_10 : ¬ ((n6 ^^^ (n6 + o6)) &&& (o6 ^^^ (n6 + o6))) < 0 := Int64.not_lt.mpr ((lg_cmp_ge _ _).mp c_10)
        refine lv_iconst (v := 0) hx hb d_Reckoner_add_169 (by decide) ?_
        refine lv_istore (lv' := [(12, .int 0), (11, .int 1), (9, .long (n6 + o6)), (7, .long (n5 + o5)), (5, .long (((((n2 + o2) + (n1 + o1)) ^^^ (n1 + o1)) ||| n2) ||| o2)), (3, .long (n1 + o1)), (0, .ref h0), (1, .ref h1), (2, .ref h2)]) hx hb d_Reckoner_add_170 hl (by decide) rfl (fun ls hl => ?_)
        refine lv_iload hx hb d_Reckoner_add_172 (lv_at hl 1 rfl) ?_
        refine lv_if_ne (tgt := 200) hx hb d_Reckoner_add_174 (by decide) (fun c_11 => ?_) (fun c_11 => absurd c_11 (by decide))
        exact fg_retv (((n1 + o1) &&& ((((((n2 + o2) + (n1 + o1)) ^^^ (n1 + o1)) ||| n2) ||| o2) ^^^ (-1))), (((((n2 + o2) + (n1 + o1)) ^^^ (n1 + o1)) ||| n2) ||| o2), 0, (-1), (-9223372036854775808), 9223372036854775807) hx hb hr hlocks (by unfold fn_add; (repeat rw [if_pos gc_3]); (repeat rw [if_pos gc_4]); (repeat rw [if_neg gc_10]); try rfl) (hP.sub (ws' := [(h0, .inr (8, [.ref a1, .ref a2, .ref a3, .ref a4, .ref a5])), (a3, .inr (11, [.long ((n1 + o1) &&& ((((((n2 + o2) + (n1 + o1)) ^^^ (n1 + o1)) ||| n2) ||| o2) ^^^ (-1))), .long (((((n2 + o2) + (n1 + o1)) ^^^ (n1 + o1)) ||| n2) ||| o2), .long 0, .long (-1), .long (-9223372036854775808), .long 9223372036854775807])), (h1, .inr (11, [.long n1, .long n2, .long n3, .long n4, .long n5, .long n6])), (h2, .inr (11, [.long o1, .long o2, .long o3, .long o4, .long o5, .long o6]))]) [0, 3, 1, 2] rfl) (hK.sub (tys' := []) [] rfl) (hD.sub (ws' := [(h0, .inr (8, [.ref a1, .ref a2, .ref a3, .ref a4, .ref a5])), (a3, .inr (11, [.long ((n1 + o1) &&& ((((((n2 + o2) + (n1 + o1)) ^^^ (n1 + o1)) ||| n2) ||| o2) ^^^ (-1))), .long (((((n2 + o2) + (n1 + o1)) ^^^ (n1 + o1)) ||| n2) ||| o2), .long 0, .long (-1), .long (-9223372036854775808), .long 9223372036854775807])), (h1, .inr (11, [.long n1, .long n2, .long n3, .long n4, .long n5, .long n6])), (h2, .inr (11, [.long o1, .long o2, .long o3, .long o4, .long o5, .long o6]))]) [0, 3, 1, 2] (by decide) rfl) hS (Nat.le_of_ble_eq_true rfl) (Nat.le_of_ble_eq_true rfl) d_Reckoner_add_200
      · have gc_10 : ((n6 ^^^ (n6 + o6)) &&& (o6 ^^^ (n6 + o6))) < 0 := Int64.not_le.mp (fun z => c_10 ((lg_cmp_ge _ _).mpr z))
        refine lv_iconst (v := 1) hx hb d_Reckoner_add_165 (by decide) ?_
        refine lv_goto (tgt := 170) hx hb d_Reckoner_add_166 (by decide) ?_
        refine lv_istore (lv' := [(12, .int 1), (11, .int 1), (9, .long (n6 + o6)), (7, .long (n5 + o5)), (5, .long (((((n2 + o2) + (n1 + o1)) ^^^ (n1 + o1)) ||| n2) ||| o2)), (3, .long (n1 + o1)), (0, .ref h0), (1, .ref h1), (2, .ref h2)]) hx hb d_Reckoner_add_170 hl (by decide) rfl (fun ls hl => ?_)
        refine lv_iload hx hb d_Reckoner_add_172 (lv_at hl 1 rfl) ?_
        refine lv_if_ne (tgt := 200) hx hb d_Reckoner_add_174 (by decide) (fun c_12 => ?_) (fun c_12 => absurd c_12 (by decide))
        exact fg_retv (((n1 + o1) &&& ((((((n2 + o2) + (n1 + o1)) ^^^ (n1 + o1)) ||| n2) ||| o2) ^^^ (-1))), (((((n2 + o2) + (n1 + o1)) ^^^ (n1 + o1)) ||| n2) ||| o2), 0, (-1), (-9223372036854775808), 9223372036854775807) hx hb hr hlocks (by unfold fn_add; (repeat rw [if_pos gc_3]); (repeat rw [if_pos gc_4]); (repeat rw [if_pos gc_10]); try rfl) (hP.sub (ws' := [(h0, .inr (8, [.ref a1, .ref a2, .ref a3, .ref a4, .ref a5])), (a3, .inr (11, [.long ((n1 + o1) &&& ((((((n2 + o2) + (n1 + o1)) ^^^ (n1 + o1)) ||| n2) ||| o2) ^^^ (-1))), .long (((((n2 + o2) + (n1 + o1)) ^^^ (n1 + o1)) ||| n2) ||| o2), .long 0, .long (-1), .long (-9223372036854775808), .long 9223372036854775807])), (h1, .inr (11, [.long n1, .long n2, .long n3, .long n4, .long n5, .long n6])), (h2, .inr (11, [.long o1, .long o2, .long o3, .long o4, .long o5, .long o6]))]) [0, 3, 1, 2] rfl) (hK.sub (tys' := []) [] rfl) (hD.sub (ws' := [(h0, .inr (8, [.ref a1, .ref a2, .ref a3, .ref a4, .ref a5])), (a3, .inr (11, [.long ((n1 + o1) &&& ((((((n2 + o2) + (n1 + o1)) ^^^ (n1 + o1)) ||| n2) ||| o2) ^^^ (-1))), .long (((((n2 + o2) + (n1 + o1)) ^^^ (n1 + o1)) ||| n2) ||| o2), .long 0, .long (-1), .long (-9223372036854775808), .long 9223372036854775807])), (h1, .inr (11, [.long n1, .long n2, .long n3, .long n4, .long n5, .long n6])), (h2, .inr (11, [.long o1, .long o2, .long o3, .long o4, .long o5, .long o6]))]) [0, 3, 1, 2] (by decide) rfl) hS (Nat.le_of_ble_eq_true rfl) (Nat.le_of_ble_eq_true rfl) d_Reckoner_add_200
  · have gc_3 : ¬ (fn_lt (n4 + o4) n4) := fg_ifz hw65_1 c_3
    refine lv_aload_n hx hb d_Reckoner_add_71 rfl (lv_at hl 2 rfl) ?_
    refine va_get (D := D) (ci := 8) (v := .ref a3) (C := "FilterGuard$Reckoner") (T := F_Reckoner) (N := 5) hx hb hts i_Reckoner hown hK hP 0 rfl rfl 2 (by decide) (hts _ u_398) (fun _ h9 => h9) rfl d_Reckoner_add_72 ?_
    refine lv_aload_n hx hb d_Reckoner_add_75 rfl (lv_at hl 3 rfl) ?_
    refine va_get (D := D) (ci := 11) (v := .long n3) (C := "FilterGuard$Num") (T := F_Num) (N := 6) hx hb hts i_Num hown hK hP 1 rfl rfl 2 (by decide) (hts _ u_374) (fun _ h9 => h9) rfl d_Reckoner_add_76 ?_
    refine lv_aload_n hx hb d_Reckoner_add_79 rfl (lv_at hl 4 rfl) ?_
    refine va_get (D := D) (ci := 11) (v := .long o3) (C := "FilterGuard$Num") (T := F_Num) (N := 6) hx hb hts i_Num hown hK hP 2 rfl rfl 2 (by decide) (hts _ u_374) (fun _ h9 => h9) rfl d_Reckoner_add_80 ?_
    refine lv_ladd hx hb d_Reckoner_add_83 ?_
    refine lv_aload_n hx hb d_Reckoner_add_84 rfl (lv_at hl 3 rfl) ?_
    refine va_get (D := D) (ci := 11) (v := .long n4) (C := "FilterGuard$Num") (T := F_Num) (N := 6) hx hb hts i_Num hown hK hP 1 rfl rfl 3 (by decide) (hts _ u_377) (fun _ h9 => h9) rfl d_Reckoner_add_85 ?_
    refine lv_aload_n hx hb d_Reckoner_add_88 rfl (lv_at hl 4 rfl) ?_
    refine va_get (D := D) (ci := 11) (v := .long o4) (C := "FilterGuard$Num") (T := F_Num) (N := 6) hx hb hts i_Num hown hK hP 2 rfl rfl 3 (by decide) (hts _ u_377) (fun _ h9 => h9) rfl d_Reckoner_add_89 ?_
    refine lv_ladd hx hb d_Reckoner_add_92 ?_
    refine fg_thenv (wr := [(h0, .inr (8, [.ref a1, .ref a2, .ref a3, .ref a4, .ref a5])), (h1, .inr (11, [.long n1, .long n2, .long n3, .long n4, .long n5, .long n6])), (h2, .inr (11, [.long o1, .long o2, .long o3, .long o4, .long o5, .long o6]))]) (fg_runV (C := "FilterGuard$Num") (As := [.long (n3 + o3), .long (n4 + o4)]) (rest := []) (ci := 11) (q0 := 0) ⟨hx, hb, hml, hown, hts⟩ (c_Num_range l D a3 ((n1 + o1) &&& ((((((n2 + o2) + (n1 + o1)) ^^^ (n1 + o1)) ||| n2) ||| o2) ^^^ (-1))) (((((n2 + o2) + (n1 + o1)) ^^^ (n1 + o1)) ||| n2) ||| o2) 0 (-1) (-9223372036854775808) 9223372036854775807 (n3 + o3) (n4 + o4) H.size) rfl (by show fg_nm y_Num_range 2; decide +kernel) u_1145 u_1146 u_1147 u_187 u_1148 ⟨Nat.le_of_ble_eq_true rfl, Nat.le_of_ble_eq_true rfl⟩ hX (hP.sub (ws' := [(a3, .inr (11, [.long ((n1 + o1) &&& ((((((n2 + o2) + (n1 + o1)) ^^^ (n1 + o1)) ||| n2) ||| o2) ^^^ (-1))), .long (((((n2 + o2) + (n1 + o1)) ^^^ (n1 + o1)) ||| n2) ||| o2), .long 0, .long (-1), .long (-9223372036854775808), .long 9223372036854775807]))]) [3] rfl) (hK.sub (tys' := []) [] rfl) (hD.sub (ws' := [(a3, .inr (11, [.long ((n1 + o1) &&& ((((((n2 + o2) + (n1 + o1)) ^^^ (n1 + o1)) ||| n2) ||| o2) ^^^ (-1))), .long (((((n2 + o2) + (n1 + o1)) ^^^ (n1 + o1)) ||| n2) ||| o2), .long 0, .long (-1), .long (-9223372036854775808), .long 9223372036854775807]))]) [3] (by decide) rfl) rfl rfl rfl rfl hl.1 (Nat.le_of_ble_eq_true rfl) d_Reckoner_add_93 ⟨(Nat.le_of_ble_eq_true rfl), (Nat.le_of_ble_eq_true rfl)⟩) hP hD hK hS hA [3] [0, 1, 2] rfl rfl (by decide) (by decide) (fun  u H locs hw93_12 hP hD hK hS => ?_)
    try dsimp only at hw93_12
    have hP : va_P D classes [(h0, .inr (8, [.ref a1, .ref a2, .ref a3, .ref a4, .ref a5])), (h1, .inr (11, [.long n1, .long n2, .long n3, .long n4, .long n5, .long n6])), (h2, .inr (11, [.long o1, .long o2, .long o3, .long o4, .long o5, .long o6])), (a3, .inr (11, [.long ((n1 + o1) &&& ((((((n2 + o2) + (n1 + o1)) ^^^ (n1 + o1)) ||| n2) ||| o2) ^^^ (-1))), .long (((((n2 + o2) + (n1 + o1)) ^^^ (n1 + o1)) ||| n2) ||| o2), .long (n3 + o3), .long (n4 + o4), .long (-9223372036854775808), .long 9223372036854775807]))] H := hP
    have hD : va_D A [(h0, .inr (8, [.ref a1, .ref a2, .ref a3, .ref a4, .ref a5])), (h1, .inr (11, [.long n1, .long n2, .long n3, .long n4, .long n5, .long n6])), (h2, .inr (11, [.long o1, .long o2, .long o3, .long o4, .long o5, .long o6])), (a3, .inr (11, [.long ((n1 + o1) &&& ((((((n2 + o2) + (n1 + o1)) ^^^ (n1 + o1)) ||| n2) ||| o2) ^^^ (-1))), .long (((((n2 + o2) + (n1 + o1)) ^^^ (n1 + o1)) ||| n2) ||| o2), .long (n3 + o3), .long (n4 + o4), .long (-9223372036854775808), .long 9223372036854775807]))] := hD
    have hK : va_K D classes [] s := hK
    refine W.widen (k := 0) (n := 0) (Nat.le_of_ble_eq_true rfl) (Nat.le_of_ble_eq_true rfl) ?_
    refine lv_aload_n hx hb d_Reckoner_add_96 rfl (lv_at hl 3 rfl) ?_
    refine va_get (D := D) (ci := 11) (v := .long n5) (C := "FilterGuard$Num") (T := F_Num) (N := 6) hx hb hts i_Num hown hK hP 1 rfl rfl 4 (by decide) (hts _ u_380) (fun _ h9 => h9) rfl d_Reckoner_add_97 ?_
    refine lv_aload_n hx hb d_Reckoner_add_100 rfl (lv_at hl 4 rfl) ?_
    refine va_get (D := D) (ci := 11) (v := .long o5) (C := "FilterGuard$Num") (T := F_Num) (N := 6) hx hb hts i_Num hown hK hP 2 rfl rfl 4 (by decide) (hts _ u_380) (fun _ h9 => h9) rfl d_Reckoner_add_101 ?_
    refine lv_ladd hx hb d_Reckoner_add_104 ?_
    refine lv_lstore (lv' := [(7, .long (n5 + o5)), (5, .long (((((n2 + o2) + (n1 + o1)) ^^^ (n1 + o1)) ||| n2) ||| o2)), (3, .long (n1 + o1)), (0, .ref h0), (1, .ref h1), (2, .ref h2)]) hx hb d_Reckoner_add_105 hl (by decide) rfl (fun ls hl => ?_)
    refine lv_aload_n hx hb d_Reckoner_add_107 rfl (lv_at hl 4 rfl) ?_
    refine va_get (D := D) (ci := 11) (v := .long n6) (C := "FilterGuard$Num") (T := F_Num) (N := 6) hx hb hts i_Num hown hK hP 1 rfl rfl 5 (by decide) (hts _ u_382) (fun _ h9 => h9) rfl d_Reckoner_add_108 ?_
    refine lv_aload_n hx hb d_Reckoner_add_111 rfl (lv_at hl 5 rfl) ?_
    refine va_get (D := D) (ci := 11) (v := .long o6) (C := "FilterGuard$Num") (T := F_Num) (N := 6) hx hb hts i_Num hown hK hP 2 rfl rfl 5 (by decide) (hts _ u_382) (fun _ h9 => h9) rfl d_Reckoner_add_112 ?_
    refine lv_ladd hx hb d_Reckoner_add_115 ?_
    refine lv_lstore (lv' := [(9, .long (n6 + o6)), (7, .long (n5 + o5)), (5, .long (((((n2 + o2) + (n1 + o1)) ^^^ (n1 + o1)) ||| n2) ||| o2)), (3, .long (n1 + o1)), (0, .ref h0), (1, .ref h1), (2, .ref h2)]) hx hb d_Reckoner_add_116 hl (by decide) rfl (fun ls hl => ?_)
    refine lv_aload_n hx hb d_Reckoner_add_118 rfl (lv_at hl 5 rfl) ?_
    refine va_get (D := D) (ci := 11) (v := .long n5) (C := "FilterGuard$Num") (T := F_Num) (N := 6) hx hb hts i_Num hown hK hP 1 rfl rfl 4 (by decide) (hts _ u_380) (fun _ h9 => h9) rfl d_Reckoner_add_119 ?_
    refine lv_lload hx hb d_Reckoner_add_122 (lv_at hl 1 rfl) ?_
    refine lv_lxor hx hb d_Reckoner_add_124 ?_
    refine lv_aload_n hx hb d_Reckoner_add_125 rfl (lv_at hl 6 rfl) ?_
    refine va_get (D := D) (ci := 11) (v := .long o5) (C := "FilterGuard$Num") (T := F_Num) (N := 6) hx hb hts i_Num hown hK hP 2 rfl rfl 4 (by decide) (hts _ u_380) (fun _ h9 => h9) rfl d_Reckoner_add_126 ?_
    refine lv_lload hx hb d_Reckoner_add_129 (lv_at hl 1 rfl) ?_
    refine lv_lxor hx hb d_Reckoner_add_131 ?_
    refine lv_land hx hb d_Reckoner_add_132 ?_
    refine lv_lconst (v := 0) hx hb d_Reckoner_add_133 (by decide) ?_
    refine W.lcmp hx hb d_Reckoner_add_134 ?_
    refine lv_if_ge (tgt := 142) hx hb d_Reckoner_add_135 (by decide) (fun c_14 => ?_) (fun c_14 => ?_)
    · have gc_14 : ¬ ((n5 ^^^ (n5 + o5)) &&& (o5 ^^^ (n5 + o5))) < 0 := Int64.not_lt.mpr ((lg_cmp_ge _ _).mp c_14)
      refine lv_iconst (v := 0) hx hb d_Reckoner_add_142 (by decide) ?_
      refine lv_istore (lv' := [(11, .int 0), (9, .long (n6 + o6)), (7, .long (n5 + o5)), (5, .long (((((n2 + o2) + (n1 + o1)) ^^^ (n1 + o1)) ||| n2) ||| o2)), (3, .long (n1 + o1)), (0, .ref h0), (1, .ref h1), (2, .ref h2)]) hx hb d_Reckoner_add_143 hl (by decide) rfl (fun ls hl => ?_)
      refine lv_aload_n hx hb d_Reckoner_add_145 rfl (lv_at hl 6 rfl) ?_
      refine va_get (D := D) (ci := 11) (v := .long n6) (C := "FilterGuard$Num") (T := F_Num) (N := 6) hx hb hts i_Num hown hK hP 1 rfl rfl 5 (by decide) (hts _ u_382) (fun _ h9 => h9) rfl d_Reckoner_add_146 ?_
      refine lv_lload hx hb d_Reckoner_add_149 (lv_at hl 1 rfl) ?_
      refine lv_lxor hx hb d_Reckoner_add_151 ?_
      refine lv_aload_n hx hb d_Reckoner_add_152 rfl (lv_at hl 7 rfl) ?_
      refine va_get (D := D) (ci := 11) (v := .long o6) (C := "FilterGuard$Num") (T := F_Num) (N := 6) hx hb hts i_Num hown hK hP 2 rfl rfl 5 (by decide) (hts _ u_382) (fun _ h9 => h9) rfl d_Reckoner_add_153 ?_
      refine lv_lload hx hb d_Reckoner_add_156 (lv_at hl 1 rfl) ?_
      refine lv_lxor hx hb d_Reckoner_add_158 ?_
      refine lv_land hx hb d_Reckoner_add_159 ?_
      refine lv_lconst (v := 0) hx hb d_Reckoner_add_160 (by decide) ?_
      refine W.lcmp hx hb d_Reckoner_add_161 ?_
      refine lv_if_ge (tgt := 169) hx hb d_Reckoner_add_162 (by decide) (fun c_15 => ?_) (fun c_15 => ?_)
      · have gc_15 : ¬ ((n6 ^^^ (n6 + o6)) &&& (o6 ^^^ (n6 + o6))) < 0 := Int64.not_lt.mpr ((lg_cmp_ge _ _).mp c_15)
        refine lv_iconst (v := 0) hx hb d_Reckoner_add_169 (by decide) ?_
        refine lv_istore (lv' := [(12, .int 0), (11, .int 0), (9, .long (n6 + o6)), (7, .long (n5 + o5)), (5, .long (((((n2 + o2) + (n1 + o1)) ^^^ (n1 + o1)) ||| n2) ||| o2)), (3, .long (n1 + o1)), (0, .ref h0), (1, .ref h1), (2, .ref h2)]) hx hb d_Reckoner_add_170 hl (by decide) rfl (fun ls hl => ?_)
        refine lv_iload hx hb d_Reckoner_add_172 (lv_at hl 1 rfl) ?_
        refine lv_if_ne (tgt := 200) hx hb d_Reckoner_add_174 (by decide) (fun c_16 => absurd (by decide) c_16) (fun c_16 => ?_)
        refine lv_iload hx hb d_Reckoner_add_177 (lv_at hl 0 rfl) ?_
        refine lv_if_ne (tgt := 200) hx hb d_Reckoner_add_179 (by decide) (fun c_17 => absurd (by decide) c_17) (fun c_17 => ?_)
        refine lv_aload_n hx hb d_Reckoner_add_182 rfl (lv_at hl 6 rfl) ?_
        refine va_get (D := D) (ci := 8) (v := .ref a3) (C := "FilterGuard$Reckoner") (T := F_Reckoner) (N := 5) hx hb hts i_Reckoner hown hK hP 0 rfl rfl 2 (by decide) (hts _ u_398) (fun _ h9 => h9) rfl d_Reckoner_add_183 ?_
        refine lv_lload hx hb d_Reckoner_add_186 (lv_at hl 3 rfl) ?_
        refine va_put (D := D) (ci := 11) (v := .long (n5 + o5)) (ty := .long) (C := "FilterGuard$Num") (T := F_Num) (N := 6) hx hb hts i_Num t_Num t_Num_ok n_Num hown hK hP hD hS 3 rfl rfl 4 (by decide) (hts _ u_380) (fun _ h9 => h9) rfl (by decide +kernel) rfl rfl (Nat.le_of_ble_eq_true rfl) d_Reckoner_add_188 (fun H locs hP hD hS => ?_)
        have hP : va_P D classes [(h0, .inr (8, [.ref a1, .ref a2, .ref a3, .ref a4, .ref a5])), (h1, .inr (11, [.long n1, .long n2, .long n3, .long n4, .long n5, .long n6])), (h2, .inr (11, [.long o1, .long o2, .long o3, .long o4, .long o5, .long o6])), (a3, .inr (11, [.long ((n1 + o1) &&& ((((((n2 + o2) + (n1 + o1)) ^^^ (n1 + o1)) ||| n2) ||| o2) ^^^ (-1))), .long (((((n2 + o2) + (n1 + o1)) ^^^ (n1 + o1)) ||| n2) ||| o2), .long (n3 + o3), .long (n4 + o4), .long (n5 + o5), .long 9223372036854775807]))] H := hP
        have hD : va_D A [(h0, .inr (8, [.ref a1, .ref a2, .ref a3, .ref a4, .ref a5])), (h1, .inr (11, [.long n1, .long n2, .long n3, .long n4, .long n5, .long n6])), (h2, .inr (11, [.long o1, .long o2, .long o3, .long o4, .long o5, .long o6])), (a3, .inr (11, [.long ((n1 + o1) &&& ((((((n2 + o2) + (n1 + o1)) ^^^ (n1 + o1)) ||| n2) ||| o2) ^^^ (-1))), .long (((((n2 + o2) + (n1 + o1)) ^^^ (n1 + o1)) ||| n2) ||| o2), .long (n3 + o3), .long (n4 + o4), .long (n5 + o5), .long 9223372036854775807]))] := hD
        refine lv_aload_n hx hb d_Reckoner_add_191 rfl (lv_at hl 6 rfl) ?_
        refine va_get (D := D) (ci := 8) (v := .ref a3) (C := "FilterGuard$Reckoner") (T := F_Reckoner) (N := 5) hx hb hts i_Reckoner hown hK hP 0 rfl rfl 2 (by decide) (hts _ u_398) (fun _ h9 => h9) rfl d_Reckoner_add_192 ?_
        refine lv_lload hx hb d_Reckoner_add_195 (lv_at hl 2 rfl) ?_
        refine va_put (D := D) (ci := 11) (v := .long (n6 + o6)) (ty := .long) (C := "FilterGuard$Num") (T := F_Num) (N := 6) hx hb hts i_Num t_Num t_Num_ok n_Num hown hK hP hD hS 3 rfl rfl 5 (by decide) (hts _ u_382) (fun _ h9 => h9) rfl (by decide +kernel) rfl rfl (Nat.le_of_ble_eq_true rfl) d_Reckoner_add_197 (fun H locs hP hD hS => ?_)
        have hP : va_P D classes [(h0, .inr (8, [.ref a1, .ref a2, .ref a3, .ref a4, .ref a5])), (h1, .inr (11, [.long n1, .long n2, .long n3, .long n4, .long n5, .long n6])), (h2, .inr (11, [.long o1, .long o2, .long o3, .long o4, .long o5, .long o6])), (a3, .inr (11, [.long ((n1 + o1) &&& ((((((n2 + o2) + (n1 + o1)) ^^^ (n1 + o1)) ||| n2) ||| o2) ^^^ (-1))), .long (((((n2 + o2) + (n1 + o1)) ^^^ (n1 + o1)) ||| n2) ||| o2), .long (n3 + o3), .long (n4 + o4), .long (n5 + o5), .long (n6 + o6)]))] H := hP
        have hD : va_D A [(h0, .inr (8, [.ref a1, .ref a2, .ref a3, .ref a4, .ref a5])), (h1, .inr (11, [.long n1, .long n2, .long n3, .long n4, .long n5, .long n6])), (h2, .inr (11, [.long o1, .long o2, .long o3, .long o4, .long o5, .long o6])), (a3, .inr (11, [.long ((n1 + o1) &&& ((((((n2 + o2) + (n1 + o1)) ^^^ (n1 + o1)) ||| n2) ||| o2) ^^^ (-1))), .long (((((n2 + o2) + (n1 + o1)) ^^^ (n1 + o1)) ||| n2) ||| o2), .long (n3 + o3), .long (n4 + o4), .long (n5 + o5), .long (n6 + o6)]))] := hD
        exact fg_retv (((n1 + o1) &&& ((((((n2 + o2) + (n1 + o1)) ^^^ (n1 + o1)) ||| n2) ||| o2) ^^^ (-1))), (((((n2 + o2) + (n1 + o1)) ^^^ (n1 + o1)) ||| n2) ||| o2), (n3 + o3), (n4 + o4), n5 + o5, n6 + o6) hx hb hr hlocks (by unfold fn_add; (repeat rw [if_neg gc_3]); (repeat rw [if_neg gc_14]); (repeat rw [if_neg gc_15]); try rfl) (hP.sub (ws' := [(h0, .inr (8, [.ref a1, .ref a2, .ref a3, .ref a4, .ref a5])), (a3, .inr (11, [.long ((n1 + o1) &&& ((((((n2 + o2) + (n1 + o1)) ^^^ (n1 + o1)) ||| n2) ||| o2) ^^^ (-1))), .long (((((n2 + o2) + (n1 + o1)) ^^^ (n1 + o1)) ||| n2) ||| o2), .long (n3 + o3), .long (n4 + o4), .long (n5 + o5), .long (n6 + o6)])), (h1, .inr (11, [.long n1, .long n2, .long n3, .long n4, .long n5, .long n6])), (h2, .inr (11, [.long o1, .long o2, .long o3, .long o4, .long o5, .long o6]))]) [0, 3, 1, 2] rfl) (hK.sub (tys' := []) [] rfl) (hD.sub (ws' := [(h0, .inr (8, [.ref a1, .ref a2, .ref a3, .ref a4, .ref a5])), (a3, .inr (11, [.long ((n1 + o1) &&& ((((((n2 + o2) + (n1 + o1)) ^^^ (n1 + o1)) ||| n2) ||| o2) ^^^ (-1))), .long (((((n2 + o2) + (n1 + o1)) ^^^ (n1 + o1)) ||| n2) ||| o2), .long (n3 + o3), .long (n4 + o4), .long (n5 + o5), .long (n6 + o6)])), (h1, .inr (11, [.long n1, .long n2, .long n3, .long n4, .long n5, .long n6])), (h2, .inr (11, [.long o1, .long o2, .long o3, .long o4, .long o5, .long o6]))]) [0, 3, 1, 2] (by decide) rfl) hS (Nat.le_of_ble_eq_true rfl) (Nat.le_of_ble_eq_true rfl) d_Reckoner_add_200
      · have gc_15 : ((n6 ^^^ (n6 + o6)) &&& (o6 ^^^ (n6 + o6))) < 0 := Int64.not_le.mp (fun z => c_15 ((lg_cmp_ge _ _).mpr z))
        refine lv_iconst (v := 1) hx hb d_Reckoner_add_165 (by decide) ?_
        refine lv_goto (tgt := 170) hx hb d_Reckoner_add_166 (by decide) ?_
        refine lv_istore (lv' := [(12, .int 1), (11, .int 0), (9, .long (n6 + o6)), (7, .long (n5 + o5)), (5, .long (((((n2 + o2) + (n1 + o1)) ^^^ (n1 + o1)) ||| n2) ||| o2)), (3, .long (n1 + o1)), (0, .ref h0), (1, .ref h1), (2, .ref h2)]) hx hb d_Reckoner_add_170 hl (by decide) rfl (fun ls hl => ?_)
        refine lv_iload hx hb d_Reckoner_add_172 (lv_at hl 1 rfl) ?_
        refine lv_if_ne (tgt := 200) hx hb d_Reckoner_add_174 (by decide) (fun c_18 => absurd (by decide) c_18) (fun c_18 => ?_)
        refine lv_iload hx hb d_Reckoner_add_177 (lv_at hl 0 rfl) ?_
        refine lv_if_ne (tgt := 200) hx hb d_Reckoner_add_179 (by decide) (fun c_19 => ?_) (fun c_19 => absurd c_19 (by decide))
        exact fg_retv (((n1 + o1) &&& ((((((n2 + o2) + (n1 + o1)) ^^^ (n1 + o1)) ||| n2) ||| o2) ^^^ (-1))), (((((n2 + o2) + (n1 + o1)) ^^^ (n1 + o1)) ||| n2) ||| o2), (n3 + o3), (n4 + o4), (-9223372036854775808), 9223372036854775807) hx hb hr hlocks (by unfold fn_add; (repeat rw [if_neg gc_3]); (repeat rw [if_neg gc_14]); (repeat rw [if_pos gc_15]); try rfl) (hP.sub (ws' := [(h0, .inr (8, [.ref a1, .ref a2, .ref a3, .ref a4, .ref a5])), (a3, .inr (11, [.long ((n1 + o1) &&& ((((((n2 + o2) + (n1 + o1)) ^^^ (n1 + o1)) ||| n2) ||| o2) ^^^ (-1))), .long (((((n2 + o2) + (n1 + o1)) ^^^ (n1 + o1)) ||| n2) ||| o2), .long (n3 + o3), .long (n4 + o4), .long (-9223372036854775808), .long 9223372036854775807])), (h1, .inr (11, [.long n1, .long n2, .long n3, .long n4, .long n5, .long n6])), (h2, .inr (11, [.long o1, .long o2, .long o3, .long o4, .long o5, .long o6]))]) [0, 3, 1, 2] rfl) (hK.sub (tys' := []) [] rfl) (hD.sub (ws' := [(h0, .inr (8, [.ref a1, .ref a2, .ref a3, .ref a4, .ref a5])), (a3, .inr (11, [.long ((n1 + o1) &&& ((((((n2 + o2) + (n1 + o1)) ^^^ (n1 + o1)) ||| n2) ||| o2) ^^^ (-1))), .long (((((n2 + o2) + (n1 + o1)) ^^^ (n1 + o1)) ||| n2) ||| o2), .long (n3 + o3), .long (n4 + o4), .long (-9223372036854775808), .long 9223372036854775807])), (h1, .inr (11, [.long n1, .long n2, .long n3, .long n4, .long n5, .long n6])), (h2, .inr (11, [.long o1, .long o2, .long o3, .long o4, .long o5, .long o6]))]) [0, 3, 1, 2] (by decide) rfl) hS (Nat.le_of_ble_eq_true rfl) (Nat.le_of_ble_eq_true rfl) d_Reckoner_add_200
    · have gc_14 : ((n5 ^^^ (n5 + o5)) &&& (o5 ^^^ (n5 + o5))) < 0 := Int64.not_le.mp (fun z => c_14 ((lg_cmp_ge _ _).mpr z))
      refine lv_iconst (v := 1) hx hb d_Reckoner_add_138 (by decide) ?_
      refine lv_goto (tgt := 143) hx hb d_Reckoner_add_139 (by decide) ?_
      refine lv_istore (lv' := [(11, .int 1), (9, .long (n6 + o6)), (7, .long (n5 + o5)), (5, .long (((((n2 + o2) + (n1 + o1)) ^^^ (n1 + o1)) ||| n2) ||| o2)), (3, .long (n1 + o1)), (0, .ref h0), (1, .ref h1), (2, .ref h2)]) hx hb d_Reckoner_add_143 hl (by decide) rfl (fun ls hl => ?_)
      refine lv_aload_n hx hb d_Reckoner_add_145 rfl (lv_at hl 6 rfl) ?_
      refine va_get (D := D) (ci := 11) (v := .long n6) (C := "FilterGuard$Num") (T := F_Num) (N := 6) hx hb hts i_Num hown hK hP 1 rfl rfl 5 (by decide) (hts _ u_382) (fun _ h9 => h9) rfl d_Reckoner_add_146 ?_
      refine lv_lload hx hb d_Reckoner_add_149 (lv_at hl 1 rfl) ?_
      refine lv_lxor hx hb d_Reckoner_add_151 ?_
      refine lv_aload_n hx hb d_Reckoner_add_152 rfl (lv_at hl 7 rfl) ?_
      refine va_get (D := D) (ci := 11) (v := .long o6) (C := "FilterGuard$Num") (T := F_Num) (N := 6) hx hb hts i_Num hown hK hP 2 rfl rfl 5 (by decide) (hts _ u_382) (fun _ h9 => h9) rfl d_Reckoner_add_153 ?_
      refine lv_lload hx hb d_Reckoner_add_156 (lv_at hl 1 rfl) ?_
      refine lv_lxor hx hb d_Reckoner_add_158 ?_
      refine lv_land hx hb d_Reckoner_add_159 ?_
      refine lv_lconst (v := 0) hx hb d_Reckoner_add_160 (by decide) ?_
      refine W.lcmp hx hb d_Reckoner_add_161 ?_
      refine lv_if_ge (tgt := 169) hx hb d_Reckoner_add_162 (by decide) (fun c_20 => ?_) (fun c_20 => ?_)
      · have gc_20 : ¬ ((n6 ^^^ (n6 + o6)) &&& (o6 ^^^ (n6 + o6))) < 0 := Int64.not_lt.mpr ((lg_cmp_ge _ _).mp c_20)
        refine lv_iconst (v := 0) hx hb d_Reckoner_add_169 (by decide) ?_
        refine lv_istore (lv' := [(12, .int 0), (11, .int 1), (9, .long (n6 + o6)), (7, .long (n5 + o5)), (5, .long (((((n2 + o2) + (n1 + o1)) ^^^ (n1 + o1)) ||| n2) ||| o2)), (3, .long (n1 + o1)), (0, .ref h0), (1, .ref h1), (2, .ref h2)]) hx hb d_Reckoner_add_170 hl (by decide) rfl (fun ls hl => ?_)
        refine lv_iload hx hb d_Reckoner_add_172 (lv_at hl 1 rfl) ?_
        refine lv_if_ne (tgt := 200) hx hb d_Reckoner_add_174 (by decide) (fun c_21 => ?_) (fun c_21 => absurd c_21 (by decide))
        exact fg_retv (((n1 + o1) &&& ((((((n2 + o2) + (n1 + o1)) ^^^ (n1 + o1)) ||| n2) ||| o2) ^^^ (-1))), (((((n2 + o2) + (n1 + o1)) ^^^ (n1 + o1)) ||| n2) ||| o2), (n3 + o3), (n4 + o4), (-9223372036854775808), 9223372036854775807) hx hb hr hlocks (by unfold fn_add; (repeat rw [if_neg gc_3]); (repeat rw [if_pos gc_14]); (repeat rw [if_neg gc_20]); try rfl) (hP.sub (ws' := [(h0, .inr (8, [.ref a1, .ref a2, .ref a3, .ref a4, .ref a5])), (a3, .inr (11, [.long ((n1 + o1) &&& ((((((n2 + o2) + (n1 + o1)) ^^^ (n1 + o1)) ||| n2) ||| o2) ^^^ (-1))), .long (((((n2 + o2) + (n1 + o1)) ^^^ (n1 + o1)) ||| n2) ||| o2), .long (n3 + o3), .long (n4 + o4), .long (-9223372036854775808), .long 9223372036854775807])), (h1, .inr (11, [.long n1, .long n2, .long n3, .long n4, .long n5, .long n6])), (h2, .inr (11, [.long o1, .long o2, .long o3, .long o4, .long o5, .long o6]))]) [0, 3, 1, 2] rfl) (hK.sub (tys' := []) [] rfl) (hD.sub (ws' := [(h0, .inr (8, [.ref a1, .ref a2, .ref a3, .ref a4, .ref a5])), (a3, .inr (11, [.long ((n1 + o1) &&& ((((((n2 + o2) + (n1 + o1)) ^^^ (n1 + o1)) ||| n2) ||| o2) ^^^ (-1))), .long (((((n2 + o2) + (n1 + o1)) ^^^ (n1 + o1)) ||| n2) ||| o2), .long (n3 + o3), .long (n4 + o4), .long (-9223372036854775808), .long 9223372036854775807])), (h1, .inr (11, [.long n1, .long n2, .long n3, .long n4, .long n5, .long n6])), (h2, .inr (11, [.long o1, .long o2, .long o3, .long o4, .long o5, .long o6]))]) [0, 3, 1, 2] (by decide) rfl) hS (Nat.le_of_ble_eq_true rfl) (Nat.le_of_ble_eq_true rfl) d_Reckoner_add_200
      · have gc_20 : ((n6 ^^^ (n6 + o6)) &&& (o6 ^^^ (n6 + o6))) < 0 := Int64.not_le.mp (fun z => c_20 ((lg_cmp_ge _ _).mpr z))
        refine lv_iconst (v := 1) hx hb d_Reckoner_add_165 (by decide) ?_
        refine lv_goto (tgt := 170) hx hb d_Reckoner_add_166 (by decide) ?_
        refine lv_istore (lv' := [(12, .int 1), (11, .int 1), (9, .long (n6 + o6)), (7, .long (n5 + o5)), (5, .long (((((n2 + o2) + (n1 + o1)) ^^^ (n1 + o1)) ||| n2) ||| o2)), (3, .long (n1 + o1)), (0, .ref h0), (1, .ref h1), (2, .ref h2)]) hx hb d_Reckoner_add_170 hl (by decide) rfl (fun ls hl => ?_)
        refine lv_iload hx hb d_Reckoner_add_172 (lv_at hl 1 rfl) ?_
        refine lv_if_ne (tgt := 200) hx hb d_Reckoner_add_174 (by decide) (fun c_22 => ?_) (fun c_22 => absurd c_22 (by decide))
        exact fg_retv (((n1 + o1) &&& ((((((n2 + o2) + (n1 + o1)) ^^^ (n1 + o1)) ||| n2) ||| o2) ^^^ (-1))), (((((n2 + o2) + (n1 + o1)) ^^^ (n1 + o1)) ||| n2) ||| o2), (n3 + o3), (n4 + o4), (-9223372036854775808), 9223372036854775807) hx hb hr hlocks (by unfold fn_add; (repeat rw [if_neg gc_3]); (repeat rw [if_pos gc_14]); (repeat rw [if_pos gc_20]); try rfl) (hP.sub (ws' := [(h0, .inr (8, [.ref a1, .ref a2, .ref a3, .ref a4, .ref a5])), (a3, .inr (11, [.long ((n1 + o1) &&& ((((((n2 + o2) + (n1 + o1)) ^^^ (n1 + o1)) ||| n2) ||| o2) ^^^ (-1))), .long (((((n2 + o2) + (n1 + o1)) ^^^ (n1 + o1)) ||| n2) ||| o2), .long (n3 + o3), .long (n4 + o4), .long (-9223372036854775808), .long 9223372036854775807])), (h1, .inr (11, [.long n1, .long n2, .long n3, .long n4, .long n5, .long n6])), (h2, .inr (11, [.long o1, .long o2, .long o3, .long o4, .long o5, .long o6]))]) [0, 3, 1, 2] rfl) (hK.sub (tys' := []) [] rfl) (hD.sub (ws' := [(h0, .inr (8, [.ref a1, .ref a2, .ref a3, .ref a4, .ref a5])), (a3, .inr (11, [.long ((n1 + o1) &&& ((((((n2 + o2) + (n1 + o1)) ^^^ (n1 + o1)) ||| n2) ||| o2) ^^^ (-1))), .long (((((n2 + o2) + (n1 + o1)) ^^^ (n1 + o1)) ||| n2) ||| o2), .long (n3 + o3), .long (n4 + o4), .long (-9223372036854775808), .long 9223372036854775807])), (h1, .inr (11, [.long n1, .long n2, .long n3, .long n4, .long n5, .long n6])), (h2, .inr (11, [.long o1, .long o2, .long o3, .long o4, .long o5, .long o6]))]) [0, 3, 1, 2] (by decide) rfl) hS (Nat.le_of_ble_eq_true rfl) (Nat.le_of_ble_eq_true rfl) d_Reckoner_add_200
def rm_Reck_add_s : Room := { frames := 2, cells := 0, slots := 0, locals := 60 }
abbrev q_Reck_add_s (D : va_G) (h0 : Nat) (a1 : Nat) (a2 : Nat) (a3 : Nat) (a4 : Nat) (a5 : Nat) (h1 : Nat) (n1 : Int64) (n2 : Int64) (n3 : Int64) (n4 : Int64) (n5 : Int64) (n6 : Int64) (A : Nat → Prop) : Array Value → Jvm.State → Outcome → Jvm.State → Prop := va_Qv (fun (u : Int64 × Int64 × Int64 × Int64 × Int64 × Int64) => fn_add n1 n2 n3 n4 n5 n6 n1 n2 n3 n4 n5 n6 = (u.1, u.2.1, u.2.2.1, u.2.2.2.1, u.2.2.2.2.1, u.2.2.2.2.2)) (fg_B D A (fun (u : Int64 × Int64 × Int64 × Int64 × Int64 × Int64) => [(h0, .inr (8, [.ref a1, .ref a2, .ref a3, .ref a4, .ref a5])), (a3, .inr (11, [.long u.1, .long u.2.1, .long u.2.2.1, .long u.2.2.2.1, .long u.2.2.2.2.1, .long u.2.2.2.2.2])), (h1, .inr (11, [.long n1, .long n2, .long n3, .long n4, .long n5, .long n6]))]) (fun (u : Int64 × Int64 × Int64 × Int64 × Int64 × Int64) => [])) A
set_option maxHeartbeats 4000000 in
set_option maxRecDepth 100000 in
theorem c_Reck_add_s (l : Launch) (D : va_G) (h0 : Nat) (a1 : Nat) (a2 : Nat) (a3 : Nat) (a4 : Nat) (a5 : Nat) (h1 : Nat) (n1 : Int64) (n2 : Int64) (n3 : Int64) (n4 : Int64) (n5 : Int64) (n6 : Int64) (sz : Nat) : Met l y_Reckoner_add (fg_w y_Reckoner_add prog_9_method_7_code 13 none) rm_Reck_add_s (va_Pc [.ref h0, .ref h1, .ref h1] (fg_P D [] [(h0, .inr (8, [.ref a1, .ref a2, .ref a3, .ref a4, .ref a5])), (a3, .inr (11, [.long 0, .long (-1), .long 0, .long (-1), .long (-9223372036854775808), .long 9223372036854775807])), (h1, .inr (11, [.long n1, .long n2, .long n3, .long n4, .long n5, .long n6]))] sz)) (q_Reck_add_s D h0 a1 a2 a3 a4 a5 h1 n1 n2 n3 n4 n5 n6 (va_A [(h0, .inr (8, [.ref a1, .ref a2, .ref a3, .ref a4, .ref a5])), (a3, .inr (11, [.long 0, .long (-1), .long 0, .long (-1), .long (-9223372036854775808), .long 9223372036854775807])), (h1, .inr (11, [.long n1, .long n2, .long n3, .long n4, .long n5, .long n6]))] sz)) rm_Reck_add_s.cells rm_Reck_add_s.slots (va_A [(h0, .inr (8, [.ref a1, .ref a2, .ref a3, .ref a4, .ref a5])), (a3, .inr (11, [.long 0, .long (-1), .long 0, .long (-1), .long (-9223372036854775808), .long 9223372036854775807])), (h1, .inr (11, [.long n1, .long n2, .long n3, .long n4, .long n5, .long n6]))] sz) := by
  refine fg_enter (fun A => q_Reck_add_s D h0 a1 a2 a3 a4 a5 h1 n1 n2 n3 n4 n5 n6 A) (by decide +kernel) (Nat.le_of_ble_eq_true rfl) ?_
  intro p e s m below meth c ls A hx hb hml hown hts hr hlocks hin hP hK hD hS hA hX hl
  have hl : lv_has ls 13 [(0, .ref h0), (1, .ref h1), (2, .ref h1)] := hl
  refine lv_aload_n hx hb d_Reckoner_add_0 rfl (lv_at hl 1 rfl) ?_
  refine va_get (D := D) (ci := 11) (v := .long n1) (C := "FilterGuard$Num") (T := F_Num) (N := 6) hx hb hts i_Num hown hK hP 2 rfl rfl 0 (by decide) (hts _ u_368) (fun _ h9 => h9) rfl d_Reckoner_add_1 ?_
  refine lv_aload_n hx hb d_Reckoner_add_4 rfl (lv_at hl 2 rfl) ?_
  refine va_get (D := D) (ci := 11) (v := .long n1) (C := "FilterGuard$Num") (T := F_Num) (N := 6) hx hb hts i_Num hown hK hP 2 rfl rfl 0 (by decide) (hts _ u_368) (fun _ h9 => h9) rfl d_Reckoner_add_5 ?_
  refine lv_ladd hx hb d_Reckoner_add_8 ?_
  refine lv_lstore_n (lv' := [(3, .long (n1 + n1)), (0, .ref h0), (1, .ref h1), (2, .ref h1)]) hx hb d_Reckoner_add_9 rfl hl (by decide) rfl (fun ls hl => ?_)
  refine lv_aload_n hx hb d_Reckoner_add_10 rfl (lv_at hl 2 rfl) ?_
  refine va_get (D := D) (ci := 11) (v := .long n2) (C := "FilterGuard$Num") (T := F_Num) (N := 6) hx hb hts i_Num hown hK hP 2 rfl rfl 1 (by decide) (hts _ u_372) (fun _ h9 => h9) rfl d_Reckoner_add_11 ?_
  refine lv_aload_n hx hb d_Reckoner_add_14 rfl (lv_at hl 3 rfl) ?_
  refine va_get (D := D) (ci := 11) (v := .long n2) (C := "FilterGuard$Num") (T := F_Num) (N := 6) hx hb hts i_Num hown hK hP 2 rfl rfl 1 (by decide) (hts _ u_372) (fun _ h9 => h9) rfl d_Reckoner_add_15 ?_
  refine lv_ladd hx hb d_Reckoner_add_18 ?_
  refine lv_lload_n hx hb d_Reckoner_add_19 rfl (lv_at hl 0 rfl) ?_
  refine lv_ladd hx hb d_Reckoner_add_20 ?_
  refine lv_lload_n hx hb d_Reckoner_add_21 rfl (lv_at hl 0 rfl) ?_
  refine lv_lxor hx hb d_Reckoner_add_22 ?_
  refine lv_aload_n hx hb d_Reckoner_add_23 rfl (lv_at hl 2 rfl) ?_
  refine va_get (D := D) (ci := 11) (v := .long n2) (C := "FilterGuard$Num") (T := F_Num) (N := 6) hx hb hts i_Num hown hK hP 2 rfl rfl 1 (by decide) (hts _ u_372) (fun _ h9 => h9) rfl d_Reckoner_add_24 ?_
  refine lv_lor hx hb d_Reckoner_add_27 ?_
  refine lv_aload_n hx hb d_Reckoner_add_28 rfl (lv_at hl 3 rfl) ?_
  refine va_get (D := D) (ci := 11) (v := .long n2) (C := "FilterGuard$Num") (T := F_Num) (N := 6) hx hb hts i_Num hown hK hP 2 rfl rfl 1 (by decide) (hts _ u_372) (fun _ h9 => h9) rfl d_Reckoner_add_29 ?_
  refine lv_lor hx hb d_Reckoner_add_32 ?_
  refine lv_lstore (lv' := [(5, .long (((((n2 + n2) + (n1 + n1)) ^^^ (n1 + n1)) ||| n2) ||| n2)), (3, .long (n1 + n1)), (0, .ref h0), (1, .ref h1), (2, .ref h1)]) hx hb d_Reckoner_add_33 hl (by decide) rfl (fun ls hl => ?_)
  refine lv_aload_n hx hb d_Reckoner_add_35 rfl (lv_at hl 2 rfl) ?_
  refine va_get (D := D) (ci := 8) (v := .ref a3) (C := "FilterGuard$Reckoner") (T := F_Reckoner) (N := 5) hx hb hts i_Reckoner hown hK hP 0 rfl rfl 2 (by decide) (hts _ u_398) (fun _ h9 => h9) rfl d_Reckoner_add_36 ?_
  refine lv_lload_n hx hb d_Reckoner_add_39 rfl (lv_at hl 1 rfl) ?_
  refine lv_lload hx hb d_Reckoner_add_40 (lv_at hl 0 rfl) ?_
  refine lv_ldc2 hx hb hown (hts _ u_1139) d_Reckoner_add_42 ?_
  refine lv_lxor hx hb d_Reckoner_add_45 ?_
  refine lv_land hx hb d_Reckoner_add_46 ?_
  refine lv_lload hx hb d_Reckoner_add_47 (lv_at hl 0 rfl) ?_
  refine fg_thenv (wr := [(h0, .inr (8, [.ref a1, .ref a2, .ref a3, .ref a4, .ref a5])), (h1, .inr (11, [.long n1, .long n2, .long n3, .long n4, .long n5, .long n6]))]) (fg_runV (C := "FilterGuard$Num") (As := [.long ((n1 + n1) &&& ((((((n2 + n2) + (n1 + n1)) ^^^ (n1 + n1)) ||| n2) ||| n2) ^^^ (-1))), .long (((((n2 + n2) + (n1 + n1)) ^^^ (n1 + n1)) ||| n2) ||| n2)]) (rest := []) (ci := 11) (q0 := 0) ⟨hx, hb, hml, hown, hts⟩ (c_Num_bits l D a3 0 (-1) 0 (-1) (-9223372036854775808) 9223372036854775807 ((n1 + n1) &&& ((((((n2 + n2) + (n1 + n1)) ^^^ (n1 + n1)) ||| n2) ||| n2) ^^^ (-1))) (((((n2 + n2) + (n1 + n1)) ^^^ (n1 + n1)) ||| n2) ||| n2) s.heap.size) rfl (by show fg_nm y_Num_bits 2; decide +kernel) u_1140 u_1141 u_1142 u_187 u_1143 ⟨Nat.le_of_ble_eq_true rfl, Nat.le_of_ble_eq_true rfl⟩ hX (hP.sub (ws' := [(a3, .inr (11, [.long 0, .long (-1), .long 0, .long (-1), .long (-9223372036854775808), .long 9223372036854775807]))]) [1] rfl) (hK.sub (tys' := []) [] rfl) (hD.sub (ws' := [(a3, .inr (11, [.long 0, .long (-1), .long 0, .long (-1), .long (-9223372036854775808), .long 9223372036854775807]))]) [1] (by decide) rfl) rfl rfl rfl rfl hl.1 (Nat.le_of_ble_eq_true rfl) d_Reckoner_add_49 ⟨(Nat.le_of_ble_eq_true rfl), (Nat.le_of_ble_eq_true rfl)⟩) hP hD hK hS hA [1] [0, 2] rfl rfl (by decide) (by decide) (fun  u H locs hw49_0 hP hD hK hS => ?_)
  try dsimp only at hw49_0
  have hP : va_P D classes [(h0, .inr (8, [.ref a1, .ref a2, .ref a3, .ref a4, .ref a5])), (h1, .inr (11, [.long n1, .long n2, .long n3, .long n4, .long n5, .long n6])), (a3, .inr (11, [.long ((n1 + n1) &&& ((((((n2 + n2) + (n1 + n1)) ^^^ (n1 + n1)) ||| n2) ||| n2) ^^^ (-1))), .long (((((n2 + n2) + (n1 + n1)) ^^^ (n1 + n1)) ||| n2) ||| n2), .long 0, .long (-1), .long (-9223372036854775808), .long 9223372036854775807]))] H := hP
  have hD : va_D A [(h0, .inr (8, [.ref a1, .ref a2, .ref a3, .ref a4, .ref a5])), (h1, .inr (11, [.long n1, .long n2, .long n3, .long n4, .long n5, .long n6])), (a3, .inr (11, [.long ((n1 + n1) &&& ((((((n2 + n2) + (n1 + n1)) ^^^ (n1 + n1)) ||| n2) ||| n2) ^^^ (-1))), .long (((((n2 + n2) + (n1 + n1)) ^^^ (n1 + n1)) ||| n2) ||| n2), .long 0, .long (-1), .long (-9223372036854775808), .long 9223372036854775807]))] := hD
  have hK : va_K D classes [] s := hK
  refine W.widen (k := 0) (n := 0) (Nat.le_of_ble_eq_true rfl) (Nat.le_of_ble_eq_true rfl) ?_
  refine lv_aload_n hx hb d_Reckoner_add_52 rfl (lv_at hl 3 rfl) ?_
  refine va_get (D := D) (ci := 11) (v := .long n4) (C := "FilterGuard$Num") (T := F_Num) (N := 6) hx hb hts i_Num hown hK hP 1 rfl rfl 3 (by decide) (hts _ u_377) (fun _ h9 => h9) rfl d_Reckoner_add_53 ?_
  refine lv_aload_n hx hb d_Reckoner_add_56 rfl (lv_at hl 4 rfl) ?_
  refine va_get (D := D) (ci := 11) (v := .long n4) (C := "FilterGuard$Num") (T := F_Num) (N := 6) hx hb hts i_Num hown hK hP 1 rfl rfl 3 (by decide) (hts _ u_377) (fun _ h9 => h9) rfl d_Reckoner_add_57 ?_
  refine lv_ladd hx hb d_Reckoner_add_60 ?_
  refine lv_aload_n hx hb d_Reckoner_add_61 rfl (lv_at hl 3 rfl) ?_
  refine va_get (D := D) (ci := 11) (v := .long n4) (C := "FilterGuard$Num") (T := F_Num) (N := 6) hx hb hts i_Num hown hK hP 1 rfl rfl 3 (by decide) (hts _ u_377) (fun _ h9 => h9) rfl d_Reckoner_add_62 ?_
  refine fg_theni (wr := [(h0, .inr (8, [.ref a1, .ref a2, .ref a3, .ref a4, .ref a5])), (h1, .inr (11, [.long n1, .long n2, .long n3, .long n4, .long n5, .long n6])), (a3, .inr (11, [.long ((n1 + n1) &&& ((((((n2 + n2) + (n1 + n1)) ^^^ (n1 + n1)) ||| n2) ||| n2) ^^^ (-1))), .long (((((n2 + n2) + (n1 + n1)) ^^^ (n1 + n1)) ||| n2) ||| n2), .long 0, .long (-1), .long (-9223372036854775808), .long 9223372036854775807]))]) (fg_runS (As := [.long (n4 + n4), .long n4]) (rest := []) ⟨hx, hb, hml, hown, hts⟩ (c_Num_isBelow l D (n4 + n4) n4 H.size) (by show fg_nm y_Num_isBelow 2; decide +kernel) u_1144 u_1063 u_187 u_1064 ⟨Nat.le_of_ble_eq_true rfl, Nat.le_of_ble_eq_true rfl⟩ hX (hP.sub (ws' := []) [] rfl) (hK.sub (tys' := []) [] rfl) (hD.sub (ws' := []) [] (by decide) rfl) rfl hl.1 (Nat.le_of_ble_eq_true rfl) d_Reckoner_add_65 ⟨(Nat.le_of_ble_eq_true rfl), (Nat.le_of_ble_eq_true rfl)⟩) hP hD hK hS hA [] [0, 1, 2] rfl rfl (by decide) (by decide) (fun r65_2 u H locs hw65_1 hP hD hK hS => ?_)
  try dsimp only at hw65_1
  have hP : va_P D classes [(h0, .inr (8, [.ref a1, .ref a2, .ref a3, .ref a4, .ref a5])), (h1, .inr (11, [.long n1, .long n2, .long n3, .long n4, .long n5, .long n6])), (a3, .inr (11, [.long ((n1 + n1) &&& ((((((n2 + n2) + (n1 + n1)) ^^^ (n1 + n1)) ||| n2) ||| n2) ^^^ (-1))), .long (((((n2 + n2) + (n1 + n1)) ^^^ (n1 + n1)) ||| n2) ||| n2), .long 0, .long (-1), .long (-9223372036854775808), .long 9223372036854775807]))] H := hP
  have hD : va_D A [(h0, .inr (8, [.ref a1, .ref a2, .ref a3, .ref a4, .ref a5])), (h1, .inr (11, [.long n1, .long n2, .long n3, .long n4, .long n5, .long n6])), (a3, .inr (11, [.long ((n1 + n1) &&& ((((((n2 + n2) + (n1 + n1)) ^^^ (n1 + n1)) ||| n2) ||| n2) ^^^ (-1))), .long (((((n2 + n2) + (n1 + n1)) ^^^ (n1 + n1)) ||| n2) ||| n2), .long 0, .long (-1), .long (-9223372036854775808), .long 9223372036854775807]))] := hD
  have hK : va_K D classes [] s := hK
  refine W.widen (k := 0) (n := 0) (Nat.le_of_ble_eq_true rfl) (Nat.le_of_ble_eq_true rfl) ?_
  refine lv_if_ne (tgt := 96) hx hb d_Reckoner_add_68 (by decide) (fun c_3 => ?_) (fun c_3 => ?_)
  · have gc_3 : (fn_lt (n4 + n4) n4) := fg_ifnz hw65_1 c_3
    refine lv_aload_n hx hb d_Reckoner_add_96 rfl (lv_at hl 3 rfl) ?_
    refine va_get (D := D) (ci := 11) (v := .long n5) (C := "FilterGuard$Num") (T := F_Num) (N := 6) hx hb hts i_Num hown hK hP 1 rfl rfl 4 (by decide) (hts _ u_380) (fun _ h9 => h9) rfl d_Reckoner_add_97 ?_
    refine lv_aload_n hx hb d_Reckoner_add_100 rfl (lv_at hl 4 rfl) ?_
    refine va_get (D := D) (ci := 11) (v := .long n5) (C := "FilterGuard$Num") (T := F_Num) (N := 6) hx hb hts i_Num hown hK hP 1 rfl rfl 4 (by decide) (hts _ u_380) (fun _ h9 => h9) rfl d_Reckoner_add_101 ?_
    refine lv_ladd hx hb d_Reckoner_add_104 ?_
    refine lv_lstore (lv' := [(7, .long (n5 + n5)), (5, .long (((((n2 + n2) + (n1 + n1)) ^^^ (n1 + n1)) ||| n2) ||| n2)), (3, .long (n1 + n1)), (0, .ref h0), (1, .ref h1), (2, .ref h1)]) hx hb d_Reckoner_add_105 hl (by decide) rfl (fun ls hl => ?_)
    refine lv_aload_n hx hb d_Reckoner_add_107 rfl (lv_at hl 4 rfl) ?_
    refine va_get (D := D) (ci := 11) (v := .long n6) (C := "FilterGuard$Num") (T := F_Num) (N := 6) hx hb hts i_Num hown hK hP 1 rfl rfl 5 (by decide) (hts _ u_382) (fun _ h9 => h9) rfl d_Reckoner_add_108 ?_
    refine lv_aload_n hx hb d_Reckoner_add_111 rfl (lv_at hl 5 rfl) ?_
    refine va_get (D := D) (ci := 11) (v := .long n6) (C := "FilterGuard$Num") (T := F_Num) (N := 6) hx hb hts i_Num hown hK hP 1 rfl rfl 5 (by decide) (hts _ u_382) (fun _ h9 => h9) rfl d_Reckoner_add_112 ?_
    refine lv_ladd hx hb d_Reckoner_add_115 ?_
    refine lv_lstore (lv' := [(9, .long (n6 + n6)), (7, .long (n5 + n5)), (5, .long (((((n2 + n2) + (n1 + n1)) ^^^ (n1 + n1)) ||| n2) ||| n2)), (3, .long (n1 + n1)), (0, .ref h0), (1, .ref h1), (2, .ref h1)]) hx hb d_Reckoner_add_116 hl (by decide) rfl (fun ls hl => ?_)
    refine lv_aload_n hx hb d_Reckoner_add_118 rfl (lv_at hl 5 rfl) ?_
    refine va_get (D := D) (ci := 11) (v := .long n5) (C := "FilterGuard$Num") (T := F_Num) (N := 6) hx hb hts i_Num hown hK hP 1 rfl rfl 4 (by decide) (hts _ u_380) (fun _ h9 => h9) rfl d_Reckoner_add_119 ?_
    refine lv_lload hx hb d_Reckoner_add_122 (lv_at hl 1 rfl) ?_
    refine lv_lxor hx hb d_Reckoner_add_124 ?_
    refine lv_aload_n hx hb d_Reckoner_add_125 rfl (lv_at hl 6 rfl) ?_
    refine va_get (D := D) (ci := 11) (v := .long n5) (C := "FilterGuard$Num") (T := F_Num) (N := 6) hx hb hts i_Num hown hK hP 1 rfl rfl 4 (by decide) (hts _ u_380) (fun _ h9 => h9) rfl d_Reckoner_add_126 ?_
    refine lv_lload hx hb d_Reckoner_add_129 (lv_at hl 1 rfl) ?_
    refine lv_lxor hx hb d_Reckoner_add_131 ?_
    refine lv_land hx hb d_Reckoner_add_132 ?_
    refine lv_lconst (v := 0) hx hb d_Reckoner_add_133 (by decide) ?_
    refine W.lcmp hx hb d_Reckoner_add_134 ?_
    refine lv_if_ge (tgt := 142) hx hb d_Reckoner_add_135 (by decide) (fun c_4 => ?_) (fun c_4 => ?_)
    · have gc_4 : ¬ ((n5 ^^^ (n5 + n5)) &&& (n5 ^^^ (n5 + n5))) < 0 := Int64.not_lt.mpr ((lg_cmp_ge _ _).mp c_4)
      refine lv_iconst (v := 0) hx hb d_Reckoner_add_142 (by decide) ?_
      refine lv_istore (lv' := [(11, .int 0), (9, .long (n6 + n6)), (7, .long (n5 + n5)), (5, .long (((((n2 + n2) + (n1 + n1)) ^^^ (n1 + n1)) ||| n2) ||| n2)), (3, .long (n1 + n1)), (0, .ref h0), (1, .ref h1), (2, .ref h1)]) hx hb d_Reckoner_add_143 hl (by decide) rfl (fun ls hl => ?_)
      refine lv_aload_n hx hb d_Reckoner_add_145 rfl (lv_at hl 6 rfl) ?_
      refine va_get (D := D) (ci := 11) (v := .long n6) (C := "FilterGuard$Num") (T := F_Num) (N := 6) hx hb hts i_Num hown hK hP 1 rfl rfl 5 (by decide) (hts _ u_382) (fun _ h9 => h9) rfl d_Reckoner_add_146 ?_
      refine lv_lload hx hb d_Reckoner_add_149 (lv_at hl 1 rfl) ?_
      refine lv_lxor hx hb d_Reckoner_add_151 ?_
      refine lv_aload_n hx hb d_Reckoner_add_152 rfl (lv_at hl 7 rfl) ?_
      refine va_get (D := D) (ci := 11) (v := .long n6) (C := "FilterGuard$Num") (T := F_Num) (N := 6) hx hb hts i_Num hown hK hP 1 rfl rfl 5 (by decide) (hts _ u_382) (fun _ h9 => h9) rfl d_Reckoner_add_153 ?_
      refine lv_lload hx hb d_Reckoner_add_156 (lv_at hl 1 rfl) ?_
      refine lv_lxor hx hb d_Reckoner_add_158 ?_
      refine lv_land hx hb d_Reckoner_add_159 ?_
      refine lv_lconst (v := 0) hx hb d_Reckoner_add_160 (by decide) ?_
      refine W.lcmp hx hb d_Reckoner_add_161 ?_
      refine lv_if_ge (tgt := 169) hx hb d_Reckoner_add_162 (by decide) (fun c_5 => ?_) (fun c_5 => ?_)
      · have gc_5 : ¬ ((n6 ^^^ (n6 + n6)) &&& (n6 ^^^ (n6 + n6))) < 0 := Int64.not_lt.mpr ((lg_cmp_ge _ _).mp c_5)
        refine lv_iconst (v := 0) hx hb d_Reckoner_add_169 (by decide) ?_
        refine lv_istore (lv' := [(12, .int 0), (11, .int 0), (9, .long (n6 + n6)), (7, .long (n5 + n5)), (5, .long (((((n2 + n2) + (n1 + n1)) ^^^ (n1 + n1)) ||| n2) ||| n2)), (3, .long (n1 + n1)), (0, .ref h0), (1, .ref h1), (2, .ref h1)]) hx hb d_Reckoner_add_170 hl (by decide) rfl (fun ls hl => ?_)
        refine lv_iload hx hb d_Reckoner_add_172 (lv_at hl 1 rfl) ?_
        refine lv_if_ne (tgt := 200) hx hb d_Reckoner_add_174 (by decide) (fun c_6 => absurd (by decide) c_6) (fun c_6 => ?_)
        refine lv_iload hx hb d_Reckoner_add_177 (lv_at hl 0 rfl) ?_
        refine lv_if_ne (tgt := 200) hx hb d_Reckoner_add_179 (by decide) (fun c_7 => absurd (by decide) c_7) (fun c_7 => ?_)
        refine lv_aload_n hx hb d_Reckoner_add_182 rfl (lv_at hl 6 rfl) ?_
        refine va_get (D := D) (ci := 8) (v := .ref a3) (C := "FilterGuard$Reckoner") (T := F_Reckoner) (N := 5) hx hb hts i_Reckoner hown hK hP 0 rfl rfl 2 (by decide) (hts _ u_398) (fun _ h9 => h9) rfl d_Reckoner_add_183 ?_
        refine lv_lload hx hb d_Reckoner_add_186 (lv_at hl 3 rfl) ?_
        refine va_put (D := D) (ci := 11) (v := .long (n5 + n5)) (ty := .long) (C := "FilterGuard$Num") (T := F_Num) (N := 6) hx hb hts i_Num t_Num t_Num_ok n_Num hown hK hP hD hS 2 rfl rfl 4 (by decide) (hts _ u_380) (fun _ h9 => h9) rfl (by decide +kernel) rfl rfl (Nat.le_of_ble_eq_true rfl) d_Reckoner_add_188 (fun H locs hP hD hS => ?_)
        have hP : va_P D classes [(h0, .inr (8, [.ref a1, .ref a2, .ref a3, .ref a4, .ref a5])), (h1, .inr (11, [.long n1, .long n2, .long n3, .long n4, .long n5, .long n6])), (a3, .inr (11, [.long ((n1 + n1) &&& ((((((n2 + n2) + (n1 + n1)) ^^^ (n1 + n1)) ||| n2) ||| n2) ^^^ (-1))), .long (((((n2 + n2) + (n1 + n1)) ^^^ (n1 + n1)) ||| n2) ||| n2), .long 0, .long (-1), .long (n5 + n5), .long 9223372036854775807]))] H := hP
        have hD : va_D A [(h0, .inr (8, [.ref a1, .ref a2, .ref a3, .ref a4, .ref a5])), (h1, .inr (11, [.long n1, .long n2, .long n3, .long n4, .long n5, .long n6])), (a3, .inr (11, [.long ((n1 + n1) &&& ((((((n2 + n2) + (n1 + n1)) ^^^ (n1 + n1)) ||| n2) ||| n2) ^^^ (-1))), .long (((((n2 + n2) + (n1 + n1)) ^^^ (n1 + n1)) ||| n2) ||| n2), .long 0, .long (-1), .long (n5 + n5), .long 9223372036854775807]))] := hD
        refine lv_aload_n hx hb d_Reckoner_add_191 rfl (lv_at hl 6 rfl) ?_
        refine va_get (D := D) (ci := 8) (v := .ref a3) (C := "FilterGuard$Reckoner") (T := F_Reckoner) (N := 5) hx hb hts i_Reckoner hown hK hP 0 rfl rfl 2 (by decide) (hts _ u_398) (fun _ h9 => h9) rfl d_Reckoner_add_192 ?_
        refine lv_lload hx hb d_Reckoner_add_195 (lv_at hl 2 rfl) ?_
        refine va_put (D := D) (ci := 11) (v := .long (n6 + n6)) (ty := .long) (C := "FilterGuard$Num") (T := F_Num) (N := 6) hx hb hts i_Num t_Num t_Num_ok n_Num hown hK hP hD hS 2 rfl rfl 5 (by decide) (hts _ u_382) (fun _ h9 => h9) rfl (by decide +kernel) rfl rfl (Nat.le_of_ble_eq_true rfl) d_Reckoner_add_197 (fun H locs hP hD hS => ?_)
        have hP : va_P D classes [(h0, .inr (8, [.ref a1, .ref a2, .ref a3, .ref a4, .ref a5])), (h1, .inr (11, [.long n1, .long n2, .long n3, .long n4, .long n5, .long n6])), (a3, .inr (11, [.long ((n1 + n1) &&& ((((((n2 + n2) + (n1 + n1)) ^^^ (n1 + n1)) ||| n2) ||| n2) ^^^ (-1))), .long (((((n2 + n2) + (n1 + n1)) ^^^ (n1 + n1)) ||| n2) ||| n2), .long 0, .long (-1), .long (n5 + n5), .long (n6 + n6)]))] H := hP
        have hD : va_D A [(h0, .inr (8, [.ref a1, .ref a2, .ref a3, .ref a4, .ref a5])), (h1, .inr (11, [.long n1, .long n2, .long n3, .long n4, .long n5, .long n6])), (a3, .inr (11, [.long ((n1 + n1) &&& ((((((n2 + n2) + (n1 + n1)) ^^^ (n1 + n1)) ||| n2) ||| n2) ^^^ (-1))), .long (((((n2 + n2) + (n1 + n1)) ^^^ (n1 + n1)) ||| n2) ||| n2), .long 0, .long (-1), .long (n5 + n5), .long (n6 + n6)]))] := hD
        exact fg_retv (((n1 + n1) &&& ((((((n2 + n2) + (n1 + n1)) ^^^ (n1 + n1)) ||| n2) ||| n2) ^^^ (-1))), (((((n2 + n2) + (n1 + n1)) ^^^ (n1 + n1)) ||| n2) ||| n2), 0, (-1), n5 + n5, n6 + n6) hx hb hr hlocks (by unfold fn_add; (repeat rw [if_pos gc_3]); (repeat rw [if_neg gc_4]); (repeat rw [if_neg gc_5]); try rfl) (hP.sub (ws' := [(h0, .inr (8, [.ref a1, .ref a2, .ref a3, .ref a4, .ref a5])), (a3, .inr (11, [.long ((n1 + n1) &&& ((((((n2 + n2) + (n1 + n1)) ^^^ (n1 + n1)) ||| n2) ||| n2) ^^^ (-1))), .long (((((n2 + n2) + (n1 + n1)) ^^^ (n1 + n1)) ||| n2) ||| n2), .long 0, .long (-1), .long (n5 + n5), .long (n6 + n6)])), (h1, .inr (11, [.long n1, .long n2, .long n3, .long n4, .long n5, .long n6]))]) [0, 2, 1] rfl) (hK.sub (tys' := []) [] rfl) (hD.sub (ws' := [(h0, .inr (8, [.ref a1, .ref a2, .ref a3, .ref a4, .ref a5])), (a3, .inr (11, [.long ((n1 + n1) &&& ((((((n2 + n2) + (n1 + n1)) ^^^ (n1 + n1)) ||| n2) ||| n2) ^^^ (-1))), .long (((((n2 + n2) + (n1 + n1)) ^^^ (n1 + n1)) ||| n2) ||| n2), .long 0, .long (-1), .long (n5 + n5), .long (n6 + n6)])), (h1, .inr (11, [.long n1, .long n2, .long n3, .long n4, .long n5, .long n6]))]) [0, 2, 1] (by decide) rfl) hS (Nat.le_of_ble_eq_true rfl) (Nat.le_of_ble_eq_true rfl) d_Reckoner_add_200
      · have gc_5 : ((n6 ^^^ (n6 + n6)) &&& (n6 ^^^ (n6 + n6))) < 0 := Int64.not_le.mp (fun z => c_5 ((lg_cmp_ge _ _).mpr z))
        refine lv_iconst (v := 1) hx hb d_Reckoner_add_165 (by decide) ?_
        refine lv_goto (tgt := 170) hx hb d_Reckoner_add_166 (by decide) ?_
        refine lv_istore (lv' := [(12, .int 1), (11, .int 0), (9, .long (n6 + n6)), (7, .long (n5 + n5)), (5, .long (((((n2 + n2) + (n1 + n1)) ^^^ (n1 + n1)) ||| n2) ||| n2)), (3, .long (n1 + n1)), (0, .ref h0), (1, .ref h1), (2, .ref h1)]) hx hb d_Reckoner_add_170 hl (by decide) rfl (fun ls hl => ?_)
        refine lv_iload hx hb d_Reckoner_add_172 (lv_at hl 1 rfl) ?_
        refine lv_if_ne (tgt := 200) hx hb d_Reckoner_add_174 (by decide) (fun c_8 => absurd (by decide) c_8) (fun c_8 => ?_)
        refine lv_iload hx hb d_Reckoner_add_177 (lv_at hl 0 rfl) ?_
        refine lv_if_ne (tgt := 200) hx hb d_Reckoner_add_179 (by decide) (fun c_9 => ?_) (fun c_9 => absurd c_9 (by decide))
        exact fg_retv (((n1 + n1) &&& ((((((n2 + n2) + (n1 + n1)) ^^^ (n1 + n1)) ||| n2) ||| n2) ^^^ (-1))), (((((n2 + n2) + (n1 + n1)) ^^^ (n1 + n1)) ||| n2) ||| n2), 0, (-1), (-9223372036854775808), 9223372036854775807) hx hb hr hlocks (by unfold fn_add; (repeat rw [if_pos gc_3]); (repeat rw [if_neg gc_4]); (repeat rw [if_pos gc_5]); try rfl) (hP.sub (ws' := [(h0, .inr (8, [.ref a1, .ref a2, .ref a3, .ref a4, .ref a5])), (a3, .inr (11, [.long ((n1 + n1) &&& ((((((n2 + n2) + (n1 + n1)) ^^^ (n1 + n1)) ||| n2) ||| n2) ^^^ (-1))), .long (((((n2 + n2) + (n1 + n1)) ^^^ (n1 + n1)) ||| n2) ||| n2), .long 0, .long (-1), .long (-9223372036854775808), .long 9223372036854775807])), (h1, .inr (11, [.long n1, .long n2, .long n3, .long n4, .long n5, .long n6]))]) [0, 2, 1] rfl) (hK.sub (tys' := []) [] rfl) (hD.sub (ws' := [(h0, .inr (8, [.ref a1, .ref a2, .ref a3, .ref a4, .ref a5])), (a3, .inr (11, [.long ((n1 + n1) &&& ((((((n2 + n2) + (n1 + n1)) ^^^ (n1 + n1)) ||| n2) ||| n2) ^^^ (-1))), .long (((((n2 + n2) + (n1 + n1)) ^^^ (n1 + n1)) ||| n2) ||| n2), .long 0, .long (-1), .long (-9223372036854775808), .long 9223372036854775807])), (h1, .inr (11, [.long n1, .long n2, .long n3, .long n4, .long n5, .long n6]))]) [0, 2, 1] (by decide) rfl) hS (Nat.le_of_ble_eq_true rfl) (Nat.le_of_ble_eq_true rfl) d_Reckoner_add_200
    · have gc_4 : ((n5 ^^^ (n5 + n5)) &&& (n5 ^^^ (n5 + n5))) < 0 := Int64.not_le.mp (fun z => c_4 ((lg_cmp_ge _ _).mpr z))
      refine lv_iconst (v := 1) hx hb d_Reckoner_add_138 (by decide) ?_
      refine lv_goto (tgt := 143) hx hb d_Reckoner_add_139 (by decide) ?_
      refine lv_istore (lv' := [(11, .int 1), (9, .long (n6 + n6)), (7, .long (n5 + n5)), (5, .long (((((n2 + n2) + (n1 + n1)) ^^^ (n1 + n1)) ||| n2) ||| n2)), (3, .long (n1 + n1)), (0, .ref h0), (1, .ref h1), (2, .ref h1)]) hx hb d_Reckoner_add_143 hl (by decide) rfl (fun ls hl => ?_)
      refine lv_aload_n hx hb d_Reckoner_add_145 rfl (lv_at hl 6 rfl) ?_
      refine va_get (D := D) (ci := 11) (v := .long n6) (C := "FilterGuard$Num") (T := F_Num) (N := 6) hx hb hts i_Num hown hK hP 1 rfl rfl 5 (by decide) (hts _ u_382) (fun _ h9 => h9) rfl d_Reckoner_add_146 ?_
      refine lv_lload hx hb d_Reckoner_add_149 (lv_at hl 1 rfl) ?_
      refine lv_lxor hx hb d_Reckoner_add_151 ?_
      refine lv_aload_n hx hb d_Reckoner_add_152 rfl (lv_at hl 7 rfl) ?_
      refine va_get (D := D) (ci := 11) (v := .long n6) (C := "FilterGuard$Num") (T := F_Num) (N := 6) hx hb hts i_Num hown hK hP 1 rfl rfl 5 (by decide) (hts _ u_382) (fun _ h9 => h9) rfl d_Reckoner_add_153 ?_
      refine lv_lload hx hb d_Reckoner_add_156 (lv_at hl 1 rfl) ?_
      refine lv_lxor hx hb d_Reckoner_add_158 ?_
      refine lv_land hx hb d_Reckoner_add_159 ?_
      refine lv_lconst (v := 0) hx hb d_Reckoner_add_160 (by decide) ?_
      refine W.lcmp hx hb d_Reckoner_add_161 ?_
      refine lv_if_ge (tgt := 169) hx hb d_Reckoner_add_162 (by decide) (fun c_10 => ?_) (fun c_10 => ?_)
      · have gc_10 : ¬ ((n6 ^^^ (n6 + n6)) &&& (n6 ^^^ (n6 + n6))) < 0 := Int64.not_lt.mpr ((lg_cmp_ge _ _).mp c_10)
        refine lv_iconst (v := 0) hx hb d_Reckoner_add_169 (by decide) ?_
        refine lv_istore (lv' := [(12, .int 0), (11, .int 1), (9, .long (n6 + n6)), (7, .long (n5 + n5)), (5, .long (((((n2 + n2) + (n1 + n1)) ^^^ (n1 + n1)) ||| n2) ||| n2)), (3, .long (n1 + n1)), (0, .ref h0), (1, .ref h1), (2, .ref h1)]) hx hb d_Reckoner_add_170 hl (by decide) rfl (fun ls hl => ?_)
        refine lv_iload hx hb d_Reckoner_add_172 (lv_at hl 1 rfl) ?_
        refine lv_if_ne (tgt := 200) hx hb d_Reckoner_add_174 (by decide) (fun c_11 => ?_) (fun c_11 => absurd c_11 (by decide))
        exact fg_retv (((n1 + n1) &&& ((((((n2 + n2) + (n1 + n1)) ^^^ (n1 + n1)) ||| n2) ||| n2) ^^^ (-1))), (((((n2 + n2) + (n1 + n1)) ^^^ (n1 + n1)) ||| n2) ||| n2), 0, (-1), (-9223372036854775808), 9223372036854775807) hx hb hr hlocks (by unfold fn_add; (repeat rw [if_pos gc_3]); (repeat rw [if_pos gc_4]); (repeat rw [if_neg gc_10]); try rfl) (hP.sub (ws' := [(h0, .inr (8, [.ref a1, .ref a2, .ref a3, .ref a4, .ref a5])), (a3, .inr (11, [.long ((n1 + n1) &&& ((((((n2 + n2) + (n1 + n1)) ^^^ (n1 + n1)) ||| n2) ||| n2) ^^^ (-1))), .long (((((n2 + n2) + (n1 + n1)) ^^^ (n1 + n1)) ||| n2) ||| n2), .long 0, .long (-1), .long (-9223372036854775808), .long 9223372036854775807])), (h1, .inr (11, [.long n1, .long n2, .long n3, .long n4, .long n5, .long n6]))]) [0, 2, 1] rfl) (hK.sub (tys' := []) [] rfl) (hD.sub (ws' := [(h0, .inr (8, [.ref a1, .ref a2, .ref a3, .ref a4, .ref a5])), (a3, .inr (11, [.long ((n1 + n1) &&& ((((((n2 + n2) + (n1 + n1)) ^^^ (n1 + n1)) ||| n2) ||| n2) ^^^ (-1))), .long (((((n2 + n2) + (n1 + n1)) ^^^ (n1 + n1)) ||| n2) ||| n2), .long 0, .long (-1), .long (-9223372036854775808), .long 9223372036854775807])), (h1, .inr (11, [.long n1, .long n2, .long n3, .long n4, .long n5, .long n6]))]) [0, 2, 1] (by decide) rfl) hS (Nat.le_of_ble_eq_true rfl) (Nat.le_of_ble_eq_true rfl) d_Reckoner_add_200
      · have gc_10 : ((n6 ^^^ (n6 + n6)) &&& (n6 ^^^ (n6 + n6))) < 0 := Int64.not_le.mp (fun z => c_10 ((lg_cmp_ge _ _).mpr z))
        refine lv_iconst (v := 1) hx hb d_Reckoner_add_165 (by decide) ?_
        refine lv_goto (tgt := 170) hx hb d_Reckoner_add_166 (by decide) ?_
        refine lv_istore (lv' := [(12, .int 1), (11, .int 1), (9, .long (n6 + n6)), (7, .long (n5 + n5)), (5, .long (((((n2 + n2) + (n1 + n1)) ^^^ (n1 + n1)) ||| n2) ||| n2)), (3, .long (n1 + n1)), (0, .ref h0), (1, .ref h1), (2, .ref h1)]) hx hb d_Reckoner_add_170 hl (by decide) rfl (fun ls hl => ?_)
        refine lv_iload hx hb d_Reckoner_add_172 (lv_at hl 1 rfl) ?_
        refine lv_if_ne (tgt := 200) hx hb d_Reckoner_add_174 (by decide) (fun c_12 => ?_) (fun c_12 => absurd c_12 (by decide))
        exact fg_retv (((n1 + n1) &&& ((((((n2 + n2) + (n1 + n1)) ^^^ (n1 + n1)) ||| n2) ||| n2) ^^^ (-1))), (((((n2 + n2) + (n1 + n1)) ^^^ (n1 + n1)) ||| n2) ||| n2), 0, (-1), (-9223372036854775808), 9223372036854775807) hx hb hr hlocks (by unfold fn_add; (repeat rw [if_pos gc_3]); (repeat rw [if_pos gc_4]); (repeat rw [if_pos gc_10]); try rfl) (hP.sub (ws' := [(h0, .inr (8, [.ref a1, .ref a2, .ref a3, .ref a4, .ref a5])), (a3, .inr (11, [.long ((n1 + n1) &&& ((((((n2 + n2) + (n1 + n1)) ^^^ (n1 + n1)) ||| n2) ||| n2) ^^^ (-1))), .long (((((n2 + n2) + (n1 + n1)) ^^^ (n1 + n1)) ||| n2) ||| n2), .long 0, .long (-1), .long (-9223372036854775808), .long 9223372036854775807])), (h1, .inr (11, [.long n1, .long n2, .long n3, .long n4, .long n5, .long n6]))]) [0, 2, 1] rfl) (hK.sub (tys' := []) [] rfl) (hD.sub (ws' := [(h0, .inr (8, [.ref a1, .ref a2, .ref a3, .ref a4, .ref a5])), (a3, .inr (11, [.long ((n1 + n1) &&& ((((((n2 + n2) + (n1 + n1)) ^^^ (n1 + n1)) ||| n2) ||| n2) ^^^ (-1))), .long (((((n2 + n2) + (n1 + n1)) ^^^ (n1 + n1)) ||| n2) ||| n2), .long 0, .long (-1), .long (-9223372036854775808), .long 9223372036854775807])), (h1, .inr (11, [.long n1, .long n2, .long n3, .long n4, .long n5, .long n6]))]) [0, 2, 1] (by decide) rfl) hS (Nat.le_of_ble_eq_true rfl) (Nat.le_of_ble_eq_true rfl) d_Reckoner_add_200
  · have gc_3 : ¬ (fn_lt (n4 + n4) n4) := fg_ifz hw65_1 c_3
    refine lv_aload_n hx hb d_Reckoner_add_71 rfl (lv_at hl 2 rfl) ?_
    refine va_get (D := D) (ci := 8) (v := .ref a3) (C := "FilterGuard$Reckoner") (T := F_Reckoner) (N := 5) hx hb hts i_Reckoner hown hK hP 0 rfl rfl 2 (by decide) (hts _ u_398) (fun _ h9 => h9) rfl d_Reckoner_add_72 ?_
    refine lv_aload_n hx hb d_Reckoner_add_75 rfl (lv_at hl 3 rfl) ?_
    refine va_get (D := D) (ci := 11) (v := .long n3) (C := "FilterGuard$Num") (T := F_Num) (N := 6) hx hb hts i_Num hown hK hP 1 rfl rfl 2 (by decide) (hts _ u_374) (fun _ h9 => h9) rfl d_Reckoner_add_76 ?_
    refine lv_aload_n hx hb d_Reckoner_add_79 rfl (lv_at hl 4 rfl) ?_
    refine va_get (D := D) (ci := 11) (v := .long n3) (C := "FilterGuard$Num") (T := F_Num) (N := 6) hx hb hts i_Num hown hK hP 1 rfl rfl 2 (by decide) (hts _ u_374) (fun _ h9 => h9) rfl d_Reckoner_add_80 ?_
    refine lv_ladd hx hb d_Reckoner_add_83 ?_
    refine lv_aload_n hx hb d_Reckoner_add_84 rfl (lv_at hl 3 rfl) ?_
    refine va_get (D := D) (ci := 11) (v := .long n4) (C := "FilterGuard$Num") (T := F_Num) (N := 6) hx hb hts i_Num hown hK hP 1 rfl rfl 3 (by decide) (hts _ u_377) (fun _ h9 => h9) rfl d_Reckoner_add_85 ?_
    refine lv_aload_n hx hb d_Reckoner_add_88 rfl (lv_at hl 4 rfl) ?_
    refine va_get (D := D) (ci := 11) (v := .long n4) (C := "FilterGuard$Num") (T := F_Num) (N := 6) hx hb hts i_Num hown hK hP 1 rfl rfl 3 (by decide) (hts _ u_377) (fun _ h9 => h9) rfl d_Reckoner_add_89 ?_
    refine lv_ladd hx hb d_Reckoner_add_92 ?_
    refine fg_thenv (wr := [(h0, .inr (8, [.ref a1, .ref a2, .ref a3, .ref a4, .ref a5])), (h1, .inr (11, [.long n1, .long n2, .long n3, .long n4, .long n5, .long n6]))]) (fg_runV (C := "FilterGuard$Num") (As := [.long (n3 + n3), .long (n4 + n4)]) (rest := []) (ci := 11) (q0 := 0) ⟨hx, hb, hml, hown, hts⟩ (c_Num_range l D a3 ((n1 + n1) &&& ((((((n2 + n2) + (n1 + n1)) ^^^ (n1 + n1)) ||| n2) ||| n2) ^^^ (-1))) (((((n2 + n2) + (n1 + n1)) ^^^ (n1 + n1)) ||| n2) ||| n2) 0 (-1) (-9223372036854775808) 9223372036854775807 (n3 + n3) (n4 + n4) H.size) rfl (by show fg_nm y_Num_range 2; decide +kernel) u_1145 u_1146 u_1147 u_187 u_1148 ⟨Nat.le_of_ble_eq_true rfl, Nat.le_of_ble_eq_true rfl⟩ hX (hP.sub (ws' := [(a3, .inr (11, [.long ((n1 + n1) &&& ((((((n2 + n2) + (n1 + n1)) ^^^ (n1 + n1)) ||| n2) ||| n2) ^^^ (-1))), .long (((((n2 + n2) + (n1 + n1)) ^^^ (n1 + n1)) ||| n2) ||| n2), .long 0, .long (-1), .long (-9223372036854775808), .long 9223372036854775807]))]) [2] rfl) (hK.sub (tys' := []) [] rfl) (hD.sub (ws' := [(a3, .inr (11, [.long ((n1 + n1) &&& ((((((n2 + n2) + (n1 + n1)) ^^^ (n1 + n1)) ||| n2) ||| n2) ^^^ (-1))), .long (((((n2 + n2) + (n1 + n1)) ^^^ (n1 + n1)) ||| n2) ||| n2), .long 0, .long (-1), .long (-9223372036854775808), .long 9223372036854775807]))]) [2] (by decide) rfl) rfl rfl rfl rfl hl.1 (Nat.le_of_ble_eq_true rfl) d_Reckoner_add_93 ⟨(Nat.le_of_ble_eq_true rfl), (Nat.le_of_ble_eq_true rfl)⟩) hP hD hK hS hA [2] [0, 1] rfl rfl (by decide) (by decide) (fun  u H locs hw93_12 hP hD hK hS => ?_)
    try dsimp only at hw93_12
    have hP : va_P D classes [(h0, .inr (8, [.ref a1, .ref a2, .ref a3, .ref a4, .ref a5])), (h1, .inr (11, [.long n1, .long n2, .long n3, .long n4, .long n5, .long n6])), (a3, .inr (11, [.long ((n1 + n1) &&& ((((((n2 + n2) + (n1 + n1)) ^^^ (n1 + n1)) ||| n2) ||| n2) ^^^ (-1))), .long (((((n2 + n2) + (n1 + n1)) ^^^ (n1 + n1)) ||| n2) ||| n2), .long (n3 + n3), .long (n4 + n4), .long (-9223372036854775808), .long 9223372036854775807]))] H := hP
    have hD : va_D A [(h0, .inr (8, [.ref a1, .ref a2, .ref a3, .ref a4, .ref a5])), (h1, .inr (11, [.long n1, .long n2, .long n3, .long n4, .long n5, .long n6])), (a3, .inr (11, [.long ((n1 + n1) &&& ((((((n2 + n2) + (n1 + n1)) ^^^ (n1 + n1)) ||| n2) ||| n2) ^^^ (-1))), .long (((((n2 + n2) + (n1 + n1)) ^^^ (n1 + n1)) ||| n2) ||| n2), .long (n3 + n3), .long (n4 + n4), .long (-9223372036854775808), .long 9223372036854775807]))] := hD
    have hK : va_K D classes [] s := hK
    refine W.widen (k := 0) (n := 0) (Nat.le_of_ble_eq_true rfl) (Nat.le_of_ble_eq_true rfl) ?_
    refine lv_aload_n hx hb d_Reckoner_add_96 rfl (lv_at hl 3 rfl) ?_
    refine va_get (D := D) (ci := 11) (v := .long n5) (C := "FilterGuard$Num") (T := F_Num) (N := 6) hx hb hts i_Num hown hK hP 1 rfl rfl 4 (by decide) (hts _ u_380) (fun _ h9 => h9) rfl d_Reckoner_add_97 ?_
    refine lv_aload_n hx hb d_Reckoner_add_100 rfl (lv_at hl 4 rfl) ?_
    refine va_get (D := D) (ci := 11) (v := .long n5) (C := "FilterGuard$Num") (T := F_Num) (N := 6) hx hb hts i_Num hown hK hP 1 rfl rfl 4 (by decide) (hts _ u_380) (fun _ h9 => h9) rfl d_Reckoner_add_101 ?_
    refine lv_ladd hx hb d_Reckoner_add_104 ?_
    refine lv_lstore (lv' := [(7, .long (n5 + n5)), (5, .long (((((n2 + n2) + (n1 + n1)) ^^^ (n1 + n1)) ||| n2) ||| n2)), (3, .long (n1 + n1)), (0, .ref h0), (1, .ref h1), (2, .ref h1)]) hx hb d_Reckoner_add_105 hl (by decide) rfl (fun ls hl => ?_)
    refine lv_aload_n hx hb d_Reckoner_add_107 rfl (lv_at hl 4 rfl) ?_
    refine va_get (D := D) (ci := 11) (v := .long n6) (C := "FilterGuard$Num") (T := F_Num) (N := 6) hx hb hts i_Num hown hK hP 1 rfl rfl 5 (by decide) (hts _ u_382) (fun _ h9 => h9) rfl d_Reckoner_add_108 ?_
    refine lv_aload_n hx hb d_Reckoner_add_111 rfl (lv_at hl 5 rfl) ?_
    refine va_get (D := D) (ci := 11) (v := .long n6) (C := "FilterGuard$Num") (T := F_Num) (N := 6) hx hb hts i_Num hown hK hP 1 rfl rfl 5 (by decide) (hts _ u_382) (fun _ h9 => h9) rfl d_Reckoner_add_112 ?_
    refine lv_ladd hx hb d_Reckoner_add_115 ?_
    refine lv_lstore (lv' := [(9, .long (n6 + n6)), (7, .long (n5 + n5)), (5, .long (((((n2 + n2) + (n1 + n1)) ^^^ (n1 + n1)) ||| n2) ||| n2)), (3, .long (n1 + n1)), (0, .ref h0), (1, .ref h1), (2, .ref h1)]) hx hb d_Reckoner_add_116 hl (by decide) rfl (fun ls hl => ?_)
    refine lv_aload_n hx hb d_Reckoner_add_118 rfl (lv_at hl 5 rfl) ?_
    refine va_get (D := D) (ci := 11) (v := .long n5) (C := "FilterGuard$Num") (T := F_Num) (N := 6) hx hb hts i_Num hown hK hP 1 rfl rfl 4 (by decide) (hts _ u_380) (fun _ h9 => h9) rfl d_Reckoner_add_119 ?_
    refine lv_lload hx hb d_Reckoner_add_122 (lv_at hl 1 rfl) ?_
    refine lv_lxor hx hb d_Reckoner_add_124 ?_
    refine lv_aload_n hx hb d_Reckoner_add_125 rfl (lv_at hl 6 rfl) ?_
    refine va_get (D := D) (ci := 11) (v := .long n5) (C := "FilterGuard$Num") (T := F_Num) (N := 6) hx hb hts i_Num hown hK hP 1 rfl rfl 4 (by decide) (hts _ u_380) (fun _ h9 => h9) rfl d_Reckoner_add_126 ?_
    refine lv_lload hx hb d_Reckoner_add_129 (lv_at hl 1 rfl) ?_
    refine lv_lxor hx hb d_Reckoner_add_131 ?_
    refine lv_land hx hb d_Reckoner_add_132 ?_
    refine lv_lconst (v := 0) hx hb d_Reckoner_add_133 (by decide) ?_
    refine W.lcmp hx hb d_Reckoner_add_134 ?_
    refine lv_if_ge (tgt := 142) hx hb d_Reckoner_add_135 (by decide) (fun c_14 => ?_) (fun c_14 => ?_)
    · have gc_14 : ¬ ((n5 ^^^ (n5 + n5)) &&& (n5 ^^^ (n5 + n5))) < 0 := Int64.not_lt.mpr ((lg_cmp_ge _ _).mp c_14)
      refine lv_iconst (v := 0) hx hb d_Reckoner_add_142 (by decide) ?_
      refine lv_istore (lv' := [(11, .int 0), (9, .long (n6 + n6)), (7, .long (n5 + n5)), (5, .long (((((n2 + n2) + (n1 + n1)) ^^^ (n1 + n1)) ||| n2) ||| n2)), (3, .long (n1 + n1)), (0, .ref h0), (1, .ref h1), (2, .ref h1)]) hx hb d_Reckoner_add_143 hl (by decide) rfl (fun ls hl => ?_)
      refine lv_aload_n hx hb d_Reckoner_add_145 rfl (lv_at hl 6 rfl) ?_
      refine va_get (D := D) (ci := 11) (v := .long n6) (C := "FilterGuard$Num") (T := F_Num) (N := 6) hx hb hts i_Num hown hK hP 1 rfl rfl 5 (by decide) (hts _ u_382) (fun _ h9 => h9) rfl d_Reckoner_add_146 ?_
      refine lv_lload hx hb d_Reckoner_add_149 (lv_at hl 1 rfl) ?_
      refine lv_lxor hx hb d_Reckoner_add_151 ?_
      refine lv_aload_n hx hb d_Reckoner_add_152 rfl (lv_at hl 7 rfl) ?_
      refine va_get (D := D) (ci := 11) (v := .long n6) (C := "FilterGuard$Num") (T := F_Num) (N := 6) hx hb hts i_Num hown hK hP 1 rfl rfl 5 (by decide) (hts _ u_382) (fun _ h9 => h9) rfl d_Reckoner_add_153 ?_
      refine lv_lload hx hb d_Reckoner_add_156 (lv_at hl 1 rfl) ?_
      refine lv_lxor hx hb d_Reckoner_add_158 ?_
      refine lv_land hx hb d_Reckoner_add_159 ?_
      refine lv_lconst (v := 0) hx hb d_Reckoner_add_160 (by decide) ?_
      refine W.lcmp hx hb d_Reckoner_add_161 ?_
      refine lv_if_ge (tgt := 169) hx hb d_Reckoner_add_162 (by decide) (fun c_15 => ?_) (fun c_15 => ?_)
      · have gc_15 : ¬ ((n6 ^^^ (n6 + n6)) &&& (n6 ^^^ (n6 + n6))) < 0 := Int64.not_lt.mpr ((lg_cmp_ge _ _).mp c_15)
        refine lv_iconst (v := 0) hx hb d_Reckoner_add_169 (by decide) ?_
        refine lv_istore (lv' := [(12, .int 0), (11, .int 0), (9, .long (n6 + n6)), (7, .long (n5 + n5)), (5, .long (((((n2 + n2) + (n1 + n1)) ^^^ (n1 + n1)) ||| n2) ||| n2)), (3, .long (n1 + n1)), (0, .ref h0), (1, .ref h1), (2, .ref h1)]) hx hb d_Reckoner_add_170 hl (by decide) rfl (fun ls hl => ?_)
        refine lv_iload hx hb d_Reckoner_add_172 (lv_at hl 1 rfl) ?_
        refine lv_if_ne (tgt := 200) hx hb d_Reckoner_add_174 (by decide) (fun c_16 => absurd (by decide) c_16) (fun c_16 => ?_)
        refine lv_iload hx hb d_Reckoner_add_177 (lv_at hl 0 rfl) ?_
        refine lv_if_ne (tgt := 200) hx hb d_Reckoner_add_179 (by decide) (fun c_17 => absurd (by decide) c_17) (fun c_17 => ?_)
        refine lv_aload_n hx hb d_Reckoner_add_182 rfl (lv_at hl 6 rfl) ?_
        refine va_get (D := D) (ci := 8) (v := .ref a3) (C := "FilterGuard$Reckoner") (T := F_Reckoner) (N := 5) hx hb hts i_Reckoner hown hK hP 0 rfl rfl 2 (by decide) (hts _ u_398) (fun _ h9 => h9) rfl d_Reckoner_add_183 ?_
        refine lv_lload hx hb d_Reckoner_add_186 (lv_at hl 3 rfl) ?_
        refine va_put (D := D) (ci := 11) (v := .long (n5 + n5)) (ty := .long) (C := "FilterGuard$Num") (T := F_Num) (N := 6) hx hb hts i_Num t_Num t_Num_ok n_Num hown hK hP hD hS 2 rfl rfl 4 (by decide) (hts _ u_380) (fun _ h9 => h9) rfl (by decide +kernel) rfl rfl (Nat.le_of_ble_eq_true rfl) d_Reckoner_add_188 (fun H locs hP hD hS => ?_)
        have hP : va_P D classes [(h0, .inr (8, [.ref a1, .ref a2, .ref a3, .ref a4, .ref a5])), (h1, .inr (11, [.long n1, .long n2, .long n3, .long n4, .long n5, .long n6])), (a3, .inr (11, [.long ((n1 + n1) &&& ((((((n2 + n2) + (n1 + n1)) ^^^ (n1 + n1)) ||| n2) ||| n2) ^^^ (-1))), .long (((((n2 + n2) + (n1 + n1)) ^^^ (n1 + n1)) ||| n2) ||| n2), .long (n3 + n3), .long (n4 + n4), .long (n5 + n5), .long 9223372036854775807]))] H := hP
        have hD : va_D A [(h0, .inr (8, [.ref a1, .ref a2, .ref a3, .ref a4, .ref a5])), (h1, .inr (11, [.long n1, .long n2, .long n3, .long n4, .long n5, .long n6])), (a3, .inr (11, [.long ((n1 + n1) &&& ((((((n2 + n2) + (n1 + n1)) ^^^ (n1 + n1)) ||| n2) ||| n2) ^^^ (-1))), .long (((((n2 + n2) + (n1 + n1)) ^^^ (n1 + n1)) ||| n2) ||| n2), .long (n3 + n3), .long (n4 + n4), .long (n5 + n5), .long 9223372036854775807]))] := hD
        refine lv_aload_n hx hb d_Reckoner_add_191 rfl (lv_at hl 6 rfl) ?_
        refine va_get (D := D) (ci := 8) (v := .ref a3) (C := "FilterGuard$Reckoner") (T := F_Reckoner) (N := 5) hx hb hts i_Reckoner hown hK hP 0 rfl rfl 2 (by decide) (hts _ u_398) (fun _ h9 => h9) rfl d_Reckoner_add_192 ?_
        refine lv_lload hx hb d_Reckoner_add_195 (lv_at hl 2 rfl) ?_
        refine va_put (D := D) (ci := 11) (v := .long (n6 + n6)) (ty := .long) (C := "FilterGuard$Num") (T := F_Num) (N := 6) hx hb hts i_Num t_Num t_Num_ok n_Num hown hK hP hD hS 2 rfl rfl 5 (by decide) (hts _ u_382) (fun _ h9 => h9) rfl (by decide +kernel) rfl rfl (Nat.le_of_ble_eq_true rfl) d_Reckoner_add_197 (fun H locs hP hD hS => ?_)
        have hP : va_P D classes [(h0, .inr (8, [.ref a1, .ref a2, .ref a3, .ref a4, .ref a5])), (h1, .inr (11, [.long n1, .long n2, .long n3, .long n4, .long n5, .long n6])), (a3, .inr (11, [.long ((n1 + n1) &&& ((((((n2 + n2) + (n1 + n1)) ^^^ (n1 + n1)) ||| n2) ||| n2) ^^^ (-1))), .long (((((n2 + n2) + (n1 + n1)) ^^^ (n1 + n1)) ||| n2) ||| n2), .long (n3 + n3), .long (n4 + n4), .long (n5 + n5), .long (n6 + n6)]))] H := hP
        have hD : va_D A [(h0, .inr (8, [.ref a1, .ref a2, .ref a3, .ref a4, .ref a5])), (h1, .inr (11, [.long n1, .long n2, .long n3, .long n4, .long n5, .long n6])), (a3, .inr (11, [.long ((n1 + n1) &&& ((((((n2 + n2) + (n1 + n1)) ^^^ (n1 + n1)) ||| n2) ||| n2) ^^^ (-1))), .long (((((n2 + n2) + (n1 + n1)) ^^^ (n1 + n1)) ||| n2) ||| n2), .long (n3 + n3), .long (n4 + n4), .long (n5 + n5), .long (n6 + n6)]))] := hD
        exact fg_retv (((n1 + n1) &&& ((((((n2 + n2) + (n1 + n1)) ^^^ (n1 + n1)) ||| n2) ||| n2) ^^^ (-1))), (((((n2 + n2) + (n1 + n1)) ^^^ (n1 + n1)) ||| n2) ||| n2), (n3 + n3), (n4 + n4), n5 + n5, n6 + n6) hx hb hr hlocks (by unfold fn_add; (repeat rw [if_neg gc_3]); (repeat rw [if_neg gc_14]); (repeat rw [if_neg gc_15]); try rfl) (hP.sub (ws' := [(h0, .inr (8, [.ref a1, .ref a2, .ref a3, .ref a4, .ref a5])), (a3, .inr (11, [.long ((n1 + n1) &&& ((((((n2 + n2) + (n1 + n1)) ^^^ (n1 + n1)) ||| n2) ||| n2) ^^^ (-1))), .long (((((n2 + n2) + (n1 + n1)) ^^^ (n1 + n1)) ||| n2) ||| n2), .long (n3 + n3), .long (n4 + n4), .long (n5 + n5), .long (n6 + n6)])), (h1, .inr (11, [.long n1, .long n2, .long n3, .long n4, .long n5, .long n6]))]) [0, 2, 1] rfl) (hK.sub (tys' := []) [] rfl) (hD.sub (ws' := [(h0, .inr (8, [.ref a1, .ref a2, .ref a3, .ref a4, .ref a5])), (a3, .inr (11, [.long ((n1 + n1) &&& ((((((n2 + n2) + (n1 + n1)) ^^^ (n1 + n1)) ||| n2) ||| n2) ^^^ (-1))), .long (((((n2 + n2) + (n1 + n1)) ^^^ (n1 + n1)) ||| n2) ||| n2), .long (n3 + n3), .long (n4 + n4), .long (n5 + n5), .long (n6 + n6)])), (h1, .inr (11, [.long n1, .long n2, .long n3, .long n4, .long n5, .long n6]))]) [0, 2, 1] (by decide) rfl) hS (Nat.le_of_ble_eq_true rfl) (Nat.le_of_ble_eq_true rfl) d_Reckoner_add_200
      · have gc_15 : ((n6 ^^^ (n6 + n6)) &&& (n6 ^^^ (n6 + n6))) < 0 := Int64.not_le.mp (fun z => c_15 ((lg_cmp_ge _ _).mpr z))
        refine lv_iconst (v := 1) hx hb d_Reckoner_add_165 (by decide) ?_
        refine lv_goto (tgt := 170) hx hb d_Reckoner_add_166 (by decide) ?_
        refine lv_istore (lv' := [(12, .int 1), (11, .int 0), (9, .long (n6 + n6)), (7, .long (n5 + n5)), (5, .long (((((n2 + n2) + (n1 + n1)) ^^^ (n1 + n1)) ||| n2) ||| n2)), (3, .long (n1 + n1)), (0, .ref h0), (1, .ref h1), (2, .ref h1)]) hx hb d_Reckoner_add_170 hl (by decide) rfl (fun ls hl => ?_)
        refine lv_iload hx hb d_Reckoner_add_172 (lv_at hl 1 rfl) ?_
        refine lv_if_ne (tgt := 200) hx hb d_Reckoner_add_174 (by decide) (fun c_18 => absurd (by decide) c_18) (fun c_18 => ?_)
        refine lv_iload hx hb d_Reckoner_add_177 (lv_at hl 0 rfl) ?_
        refine lv_if_ne (tgt := 200) hx hb d_Reckoner_add_179 (by decide) (fun c_19 => ?_) (fun c_19 => absurd c_19 (by decide))
        exact fg_retv (((n1 + n1) &&& ((((((n2 + n2) + (n1 + n1)) ^^^ (n1 + n1)) ||| n2) ||| n2) ^^^ (-1))), (((((n2 + n2) + (n1 + n1)) ^^^ (n1 + n1)) ||| n2) ||| n2), (n3 + n3), (n4 + n4), (-9223372036854775808), 9223372036854775807) hx hb hr hlocks (by unfold fn_add; (repeat rw [if_neg gc_3]); (repeat rw [if_neg gc_14]); (repeat rw [if_pos gc_15]); try rfl) (hP.sub (ws' := [(h0, .inr (8, [.ref a1, .ref a2, .ref a3, .ref a4, .ref a5])), (a3, .inr (11, [.long ((n1 + n1) &&& ((((((n2 + n2) + (n1 + n1)) ^^^ (n1 + n1)) ||| n2) ||| n2) ^^^ (-1))), .long (((((n2 + n2) + (n1 + n1)) ^^^ (n1 + n1)) ||| n2) ||| n2), .long (n3 + n3), .long (n4 + n4), .long (-9223372036854775808), .long 9223372036854775807])), (h1, .inr (11, [.long n1, .long n2, .long n3, .long n4, .long n5, .long n6]))]) [0, 2, 1] rfl) (hK.sub (tys' := []) [] rfl) (hD.sub (ws' := [(h0, .inr (8, [.ref a1, .ref a2, .ref a3, .ref a4, .ref a5])), (a3, .inr (11, [.long ((n1 + n1) &&& ((((((n2 + n2) + (n1 + n1)) ^^^ (n1 + n1)) ||| n2) ||| n2) ^^^ (-1))), .long (((((n2 + n2) + (n1 + n1)) ^^^ (n1 + n1)) ||| n2) ||| n2), .long (n3 + n3), .long (n4 + n4), .long (-9223372036854775808), .long 9223372036854775807])), (h1, .inr (11, [.long n1, .long n2, .long n3, .long n4, .long n5, .long n6]))]) [0, 2, 1] (by decide) rfl) hS (Nat.le_of_ble_eq_true rfl) (Nat.le_of_ble_eq_true rfl) d_Reckoner_add_200
    · have gc_14 : ((n5 ^^^ (n5 + n5)) &&& (n5 ^^^ (n5 + n5))) < 0 := Int64.not_le.mp (fun z => c_14 ((lg_cmp_ge _ _).mpr z))
      refine lv_iconst (v := 1) hx hb d_Reckoner_add_138 (by decide) ?_
      refine lv_goto (tgt := 143) hx hb d_Reckoner_add_139 (by decide) ?_
      refine lv_istore (lv' := [(11, .int 1), (9, .long (n6 + n6)), (7, .long (n5 + n5)), (5, .long (((((n2 + n2) + (n1 + n1)) ^^^ (n1 + n1)) ||| n2) ||| n2)), (3, .long (n1 + n1)), (0, .ref h0), (1, .ref h1), (2, .ref h1)]) hx hb d_Reckoner_add_143 hl (by decide) rfl (fun ls hl => ?_)
      refine lv_aload_n hx hb d_Reckoner_add_145 rfl (lv_at hl 6 rfl) ?_
      refine va_get (D := D) (ci := 11) (v := .long n6) (C := "FilterGuard$Num") (T := F_Num) (N := 6) hx hb hts i_Num hown hK hP 1 rfl rfl 5 (by decide) (hts _ u_382) (fun _ h9 => h9) rfl d_Reckoner_add_146 ?_
      refine lv_lload hx hb d_Reckoner_add_149 (lv_at hl 1 rfl) ?_
      refine lv_lxor hx hb d_Reckoner_add_151 ?_
      refine lv_aload_n hx hb d_Reckoner_add_152 rfl (lv_at hl 7 rfl) ?_
      refine va_get (D := D) (ci := 11) (v := .long n6) (C := "FilterGuard$Num") (T := F_Num) (N := 6) hx hb hts i_Num hown hK hP 1 rfl rfl 5 (by decide) (hts _ u_382) (fun _ h9 => h9) rfl d_Reckoner_add_153 ?_
      refine lv_lload hx hb d_Reckoner_add_156 (lv_at hl 1 rfl) ?_
      refine lv_lxor hx hb d_Reckoner_add_158 ?_
      refine lv_land hx hb d_Reckoner_add_159 ?_
      refine lv_lconst (v := 0) hx hb d_Reckoner_add_160 (by decide) ?_
      refine W.lcmp hx hb d_Reckoner_add_161 ?_
      refine lv_if_ge (tgt := 169) hx hb d_Reckoner_add_162 (by decide) (fun c_20 => ?_) (fun c_20 => ?_)
      · have gc_20 : ¬ ((n6 ^^^ (n6 + n6)) &&& (n6 ^^^ (n6 + n6))) < 0 := Int64.not_lt.mpr ((lg_cmp_ge _ _).mp c_20)
        refine lv_iconst (v := 0) hx hb d_Reckoner_add_169 (by decide) ?_
        refine lv_istore (lv' := [(12, .int 0), (11, .int 1), (9, .long (n6 + n6)), (7, .long (n5 + n5)), (5, .long (((((n2 + n2) + (n1 + n1)) ^^^ (n1 + n1)) ||| n2) ||| n2)), (3, .long (n1 + n1)), (0, .ref h0), (1, .ref h1), (2, .ref h1)]) hx hb d_Reckoner_add_170 hl (by decide) rfl (fun ls hl => ?_)
        refine lv_iload hx hb d_Reckoner_add_172 (lv_at hl 1 rfl) ?_
        refine lv_if_ne (tgt := 200) hx hb d_Reckoner_add_174 (by decide) (fun c_21 => ?_) (fun c_21 => absurd c_21 (by decide))
        exact fg_retv (((n1 + n1) &&& ((((((n2 + n2) + (n1 + n1)) ^^^ (n1 + n1)) ||| n2) ||| n2) ^^^ (-1))), (((((n2 + n2) + (n1 + n1)) ^^^ (n1 + n1)) ||| n2) ||| n2), (n3 + n3), (n4 + n4), (-9223372036854775808), 9223372036854775807) hx hb hr hlocks (by unfold fn_add; (repeat rw [if_neg gc_3]); (repeat rw [if_pos gc_14]); (repeat rw [if_neg gc_20]); try rfl) (hP.sub (ws' := [(h0, .inr (8, [.ref a1, .ref a2, .ref a3, .ref a4, .ref a5])), (a3, .inr (11, [.long ((n1 + n1) &&& ((((((n2 + n2) + (n1 + n1)) ^^^ (n1 + n1)) ||| n2) ||| n2) ^^^ (-1))), .long (((((n2 + n2) + (n1 + n1)) ^^^ (n1 + n1)) ||| n2) ||| n2), .long (n3 + n3), .long (n4 + n4), .long (-9223372036854775808), .long 9223372036854775807])), (h1, .inr (11, [.long n1, .long n2, .long n3, .long n4, .long n5, .long n6]))]) [0, 2, 1] rfl) (hK.sub (tys' := []) [] rfl) (hD.sub (ws' := [(h0, .inr (8, [.ref a1, .ref a2, .ref a3, .ref a4, .ref a5])), (a3, .inr (11, [.long ((n1 + n1) &&& ((((((n2 + n2) + (n1 + n1)) ^^^ (n1 + n1)) ||| n2) ||| n2) ^^^ (-1))), .long (((((n2 + n2) + (n1 + n1)) ^^^ (n1 + n1)) ||| n2) ||| n2), .long (n3 + n3), .long (n4 + n4), .long (-9223372036854775808), .long 9223372036854775807])), (h1, .inr (11, [.long n1, .long n2, .long n3, .long n4, .long n5, .long n6]))]) [0, 2, 1] (by decide) rfl) hS (Nat.le_of_ble_eq_true rfl) (Nat.le_of_ble_eq_true rfl) d_Reckoner_add_200
      · have gc_20 : ((n6 ^^^ (n6 + n6)) &&& (n6 ^^^ (n6 + n6))) < 0 := Int64.not_le.mp (fun z => c_20 ((lg_cmp_ge _ _).mpr z))
        refine lv_iconst (v := 1) hx hb d_Reckoner_add_165 (by decide) ?_
        refine lv_goto (tgt := 170) hx hb d_Reckoner_add_166 (by decide) ?_
        refine lv_istore (lv' := [(12, .int 1), (11, .int 1), (9, .long (n6 + n6)), (7, .long (n5 + n5)), (5, .long (((((n2 + n2) + (n1 + n1)) ^^^ (n1 + n1)) ||| n2) ||| n2)), (3, .long (n1 + n1)), (0, .ref h0), (1, .ref h1), (2, .ref h1)]) hx hb d_Reckoner_add_170 hl (by decide) rfl (fun ls hl => ?_)
        refine lv_iload hx hb d_Reckoner_add_172 (lv_at hl 1 rfl) ?_
        refine lv_if_ne (tgt := 200) hx hb d_Reckoner_add_174 (by decide) (fun c_22 => ?_) (fun c_22 => absurd c_22 (by decide))
        exact fg_retv (((n1 + n1) &&& ((((((n2 + n2) + (n1 + n1)) ^^^ (n1 + n1)) ||| n2) ||| n2) ^^^ (-1))), (((((n2 + n2) + (n1 + n1)) ^^^ (n1 + n1)) ||| n2) ||| n2), (n3 + n3), (n4 + n4), (-9223372036854775808), 9223372036854775807) hx hb hr hlocks (by unfold fn_add; (repeat rw [if_neg gc_3]); (repeat rw [if_pos gc_14]); (repeat rw [if_pos gc_20]); try rfl) (hP.sub (ws' := [(h0, .inr (8, [.ref a1, .ref a2, .ref a3, .ref a4, .ref a5])), (a3, .inr (11, [.long ((n1 + n1) &&& ((((((n2 + n2) + (n1 + n1)) ^^^ (n1 + n1)) ||| n2) ||| n2) ^^^ (-1))), .long (((((n2 + n2) + (n1 + n1)) ^^^ (n1 + n1)) ||| n2) ||| n2), .long (n3 + n3), .long (n4 + n4), .long (-9223372036854775808), .long 9223372036854775807])), (h1, .inr (11, [.long n1, .long n2, .long n3, .long n4, .long n5, .long n6]))]) [0, 2, 1] rfl) (hK.sub (tys' := []) [] rfl) (hD.sub (ws' := [(h0, .inr (8, [.ref a1, .ref a2, .ref a3, .ref a4, .ref a5])), (a3, .inr (11, [.long ((n1 + n1) &&& ((((((n2 + n2) + (n1 + n1)) ^^^ (n1 + n1)) ||| n2) ||| n2) ^^^ (-1))), .long (((((n2 + n2) + (n1 + n1)) ^^^ (n1 + n1)) ||| n2) ||| n2), .long (n3 + n3), .long (n4 + n4), .long (-9223372036854775808), .long 9223372036854775807])), (h1, .inr (11, [.long n1, .long n2, .long n3, .long n4, .long n5, .long n6]))]) [0, 2, 1] (by decide) rfl) hS (Nat.le_of_ble_eq_true rfl) (Nat.le_of_ble_eq_true rfl) d_Reckoner_add_200
abbrev y_Reckoner_subtract : MethodName := ⟨"FilterGuard$Reckoner", "subtract", "(LFilterGuard$Num;LFilterGuard$Num;)V"⟩
theorem d_Reckoner_subtract_0 : decode prog_9_method_8_code 0 = .ok (.aload_n 1, 1) := by decide +kernel
theorem d_Reckoner_subtract_1 : decode prog_9_method_8_code 1 = .ok (.getfield 49, 3) := by decide +kernel
theorem d_Reckoner_subtract_4 : decode prog_9_method_8_code 4 = .ok (.aload_n 2, 1) := by decide +kernel
theorem d_Reckoner_subtract_5 : decode prog_9_method_8_code 5 = .ok (.getfield 49, 3) := by decide +kernel
theorem d_Reckoner_subtract_8 : decode prog_9_method_8_code 8 = .ok (.lsub, 1) := by decide +kernel
theorem d_Reckoner_subtract_9 : decode prog_9_method_8_code 9 = .ok (.lstore_n 3, 1) := by decide +kernel
theorem d_Reckoner_subtract_10 : decode prog_9_method_8_code 10 = .ok (.lload_n 3, 1) := by decide +kernel
theorem d_Reckoner_subtract_11 : decode prog_9_method_8_code 11 = .ok (.aload_n 1, 1) := by decide +kernel
theorem d_Reckoner_subtract_12 : decode prog_9_method_8_code 12 = .ok (.getfield 87, 3) := by decide +kernel
theorem d_Reckoner_subtract_15 : decode prog_9_method_8_code 15 = .ok (.ladd, 1) := by decide +kernel
theorem d_Reckoner_subtract_16 : decode prog_9_method_8_code 16 = .ok (.lload_n 3, 1) := by decide +kernel
theorem d_Reckoner_subtract_17 : decode prog_9_method_8_code 17 = .ok (.aload_n 2, 1) := by decide +kernel
theorem d_Reckoner_subtract_18 : decode prog_9_method_8_code 18 = .ok (.getfield 87, 3) := by decide +kernel
theorem d_Reckoner_subtract_21 : decode prog_9_method_8_code 21 = .ok (.lsub, 1) := by decide +kernel
theorem d_Reckoner_subtract_22 : decode prog_9_method_8_code 22 = .ok (.lxor, 1) := by decide +kernel
theorem d_Reckoner_subtract_23 : decode prog_9_method_8_code 23 = .ok (.aload_n 1, 1) := by decide +kernel
theorem d_Reckoner_subtract_24 : decode prog_9_method_8_code 24 = .ok (.getfield 87, 3) := by decide +kernel
theorem d_Reckoner_subtract_27 : decode prog_9_method_8_code 27 = .ok (.lor, 1) := by decide +kernel
theorem d_Reckoner_subtract_28 : decode prog_9_method_8_code 28 = .ok (.aload_n 2, 1) := by decide +kernel
theorem d_Reckoner_subtract_29 : decode prog_9_method_8_code 29 = .ok (.getfield 87, 3) := by decide +kernel
theorem d_Reckoner_subtract_32 : decode prog_9_method_8_code 32 = .ok (.lor, 1) := by decide +kernel
theorem d_Reckoner_subtract_33 : decode prog_9_method_8_code 33 = .ok (.lstore 5, 2) := by decide +kernel
theorem d_Reckoner_subtract_35 : decode prog_9_method_8_code 35 = .ok (.aload_n 0, 1) := by decide +kernel
theorem d_Reckoner_subtract_36 : decode prog_9_method_8_code 36 = .ok (.getfield 21, 3) := by decide +kernel
theorem d_Reckoner_subtract_39 : decode prog_9_method_8_code 39 = .ok (.lload_n 3, 1) := by decide +kernel
theorem d_Reckoner_subtract_40 : decode prog_9_method_8_code 40 = .ok (.lload 5, 2) := by decide +kernel
theorem d_Reckoner_subtract_42 : decode prog_9_method_8_code 42 = .ok (.ldc2_w 90, 3) := by decide +kernel
theorem d_Reckoner_subtract_45 : decode prog_9_method_8_code 45 = .ok (.lxor, 1) := by decide +kernel
theorem d_Reckoner_subtract_46 : decode prog_9_method_8_code 46 = .ok (.land, 1) := by decide +kernel
theorem d_Reckoner_subtract_47 : decode prog_9_method_8_code 47 = .ok (.lload 5, 2) := by decide +kernel
theorem d_Reckoner_subtract_49 : decode prog_9_method_8_code 49 = .ok (.invokevirtual 92, 3) := by decide +kernel
theorem d_Reckoner_subtract_52 : decode prog_9_method_8_code 52 = .ok (.aload_n 1, 1) := by decide +kernel
theorem d_Reckoner_subtract_53 : decode prog_9_method_8_code 53 = .ok (.getfield 96, 3) := by decide +kernel
theorem d_Reckoner_subtract_56 : decode prog_9_method_8_code 56 = .ok (.aload_n 2, 1) := by decide +kernel
theorem d_Reckoner_subtract_57 : decode prog_9_method_8_code 57 = .ok (.getfield 122, 3) := by decide +kernel
theorem d_Reckoner_subtract_60 : decode prog_9_method_8_code 60 = .ok (.invokestatic 134, 3) := by decide +kernel
theorem d_Reckoner_subtract_63 : decode prog_9_method_8_code 63 = .ok (.ifCond .ne 28, 3) := by decide +kernel
theorem d_Reckoner_subtract_91 : decode prog_9_method_8_code 91 = .ok (.aload_n 1, 1) := by decide +kernel
theorem d_Reckoner_subtract_92 : decode prog_9_method_8_code 92 = .ok (.getfield 128, 3) := by decide +kernel
theorem d_Reckoner_subtract_95 : decode prog_9_method_8_code 95 = .ok (.aload_n 2, 1) := by decide +kernel
theorem d_Reckoner_subtract_96 : decode prog_9_method_8_code 96 = .ok (.getfield 131, 3) := by decide +kernel
theorem d_Reckoner_subtract_99 : decode prog_9_method_8_code 99 = .ok (.lsub, 1) := by decide +kernel
theorem d_Reckoner_subtract_100 : decode prog_9_method_8_code 100 = .ok (.lstore 7, 2) := by decide +kernel
theorem d_Reckoner_subtract_102 : decode prog_9_method_8_code 102 = .ok (.aload_n 1, 1) := by decide +kernel
theorem d_Reckoner_subtract_103 : decode prog_9_method_8_code 103 = .ok (.getfield 131, 3) := by decide +kernel
theorem d_Reckoner_subtract_106 : decode prog_9_method_8_code 106 = .ok (.aload_n 2, 1) := by decide +kernel
theorem d_Reckoner_subtract_107 : decode prog_9_method_8_code 107 = .ok (.getfield 128, 3) := by decide +kernel
theorem d_Reckoner_subtract_110 : decode prog_9_method_8_code 110 = .ok (.lsub, 1) := by decide +kernel
theorem d_Reckoner_subtract_111 : decode prog_9_method_8_code 111 = .ok (.lstore 9, 2) := by decide +kernel
theorem d_Reckoner_subtract_113 : decode prog_9_method_8_code 113 = .ok (.aload_n 1, 1) := by decide +kernel
theorem d_Reckoner_subtract_114 : decode prog_9_method_8_code 114 = .ok (.getfield 128, 3) := by decide +kernel
theorem d_Reckoner_subtract_117 : decode prog_9_method_8_code 117 = .ok (.aload_n 2, 1) := by decide +kernel
theorem d_Reckoner_subtract_118 : decode prog_9_method_8_code 118 = .ok (.getfield 131, 3) := by decide +kernel
theorem d_Reckoner_subtract_121 : decode prog_9_method_8_code 121 = .ok (.lxor, 1) := by decide +kernel
theorem d_Reckoner_subtract_122 : decode prog_9_method_8_code 122 = .ok (.aload_n 1, 1) := by decide +kernel
theorem d_Reckoner_subtract_123 : decode prog_9_method_8_code 123 = .ok (.getfield 128, 3) := by decide +kernel
theorem d_Reckoner_subtract_126 : decode prog_9_method_8_code 126 = .ok (.lload 7, 2) := by decide +kernel
theorem d_Reckoner_subtract_128 : decode prog_9_method_8_code 128 = .ok (.lxor, 1) := by decide +kernel
theorem d_Reckoner_subtract_129 : decode prog_9_method_8_code 129 = .ok (.land, 1) := by decide +kernel
theorem d_Reckoner_subtract_130 : decode prog_9_method_8_code 130 = .ok (.lconst 0, 1) := by decide +kernel
theorem d_Reckoner_subtract_131 : decode prog_9_method_8_code 131 = .ok (.lcmp, 1) := by decide +kernel
theorem d_Reckoner_subtract_132 : decode prog_9_method_8_code 132 = .ok (.ifCond .ge 7, 3) := by decide +kernel
theorem d_Reckoner_subtract_139 : decode prog_9_method_8_code 139 = .ok (.iconst 0, 1) := by decide +kernel
theorem d_Reckoner_subtract_140 : decode prog_9_method_8_code 140 = .ok (.istore 11, 2) := by decide +kernel
theorem d_Reckoner_subtract_142 : decode prog_9_method_8_code 142 = .ok (.aload_n 1, 1) := by decide +kernel
theorem d_Reckoner_subtract_143 : decode prog_9_method_8_code 143 = .ok (.getfield 131, 3) := by decide +kernel
theorem d_Reckoner_subtract_146 : decode prog_9_method_8_code 146 = .ok (.aload_n 2, 1) := by decide +kernel
theorem d_Reckoner_subtract_147 : decode prog_9_method_8_code 147 = .ok (.getfield 128, 3) := by decide +kernel
theorem d_Reckoner_subtract_150 : decode prog_9_method_8_code 150 = .ok (.lxor, 1) := by decide +kernel
theorem d_Reckoner_subtract_151 : decode prog_9_method_8_code 151 = .ok (.aload_n 1, 1) := by decide +kernel
theorem d_Reckoner_subtract_152 : decode prog_9_method_8_code 152 = .ok (.getfield 131, 3) := by decide +kernel
theorem d_Reckoner_subtract_155 : decode prog_9_method_8_code 155 = .ok (.lload 9, 2) := by decide +kernel
theorem d_Reckoner_subtract_157 : decode prog_9_method_8_code 157 = .ok (.lxor, 1) := by decide +kernel
theorem d_Reckoner_subtract_158 : decode prog_9_method_8_code 158 = .ok (.land, 1) := by decide +kernel
theorem d_Reckoner_subtract_159 : decode prog_9_method_8_code 159 = .ok (.lconst 0, 1) := by decide +kernel
theorem d_Reckoner_subtract_160 : decode prog_9_method_8_code 160 = .ok (.lcmp, 1) := by decide +kernel
theorem d_Reckoner_subtract_161 : decode prog_9_method_8_code 161 = .ok (.ifCond .ge 7, 3) := by decide +kernel
theorem d_Reckoner_subtract_168 : decode prog_9_method_8_code 168 = .ok (.iconst 0, 1) := by decide +kernel
theorem d_Reckoner_subtract_169 : decode prog_9_method_8_code 169 = .ok (.istore 12, 2) := by decide +kernel
theorem d_Reckoner_subtract_171 : decode prog_9_method_8_code 171 = .ok (.iload 11, 2) := by decide +kernel
theorem d_Reckoner_subtract_173 : decode prog_9_method_8_code 173 = .ok (.ifCond .ne 26, 3) := by decide +kernel
theorem d_Reckoner_subtract_176 : decode prog_9_method_8_code 176 = .ok (.iload 12, 2) := by decide +kernel
theorem d_Reckoner_subtract_178 : decode prog_9_method_8_code 178 = .ok (.ifCond .ne 21, 3) := by decide +kernel
theorem d_Reckoner_subtract_181 : decode prog_9_method_8_code 181 = .ok (.aload_n 0, 1) := by decide +kernel
theorem d_Reckoner_subtract_182 : decode prog_9_method_8_code 182 = .ok (.getfield 21, 3) := by decide +kernel
theorem d_Reckoner_subtract_185 : decode prog_9_method_8_code 185 = .ok (.lload 7, 2) := by decide +kernel
theorem d_Reckoner_subtract_187 : decode prog_9_method_8_code 187 = .ok (.putfield 128, 3) := by decide +kernel
theorem d_Reckoner_subtract_190 : decode prog_9_method_8_code 190 = .ok (.aload_n 0, 1) := by decide +kernel
theorem d_Reckoner_subtract_191 : decode prog_9_method_8_code 191 = .ok (.getfield 21, 3) := by decide +kernel
theorem d_Reckoner_subtract_194 : decode prog_9_method_8_code 194 = .ok (.lload 9, 2) := by decide +kernel
theorem d_Reckoner_subtract_196 : decode prog_9_method_8_code 196 = .ok (.putfield 131, 3) := by decide +kernel
theorem d_Reckoner_subtract_199 : decode prog_9_method_8_code 199 = .ok (.return_, 1) := by decide +kernel
theorem d_Reckoner_subtract_164 : decode prog_9_method_8_code 164 = .ok (.iconst 1, 1) := by decide +kernel
theorem d_Reckoner_subtract_165 : decode prog_9_method_8_code 165 = .ok (.goto 4, 3) := by decide +kernel
theorem d_Reckoner_subtract_135 : decode prog_9_method_8_code 135 = .ok (.iconst 1, 1) := by decide +kernel
theorem d_Reckoner_subtract_136 : decode prog_9_method_8_code 136 = .ok (.goto 4, 3) := by decide +kernel
theorem d_Reckoner_subtract_66 : decode prog_9_method_8_code 66 = .ok (.aload_n 0, 1) := by decide +kernel
theorem d_Reckoner_subtract_67 : decode prog_9_method_8_code 67 = .ok (.getfield 21, 3) := by decide +kernel
theorem d_Reckoner_subtract_70 : decode prog_9_method_8_code 70 = .ok (.aload_n 1, 1) := by decide +kernel
theorem d_Reckoner_subtract_71 : decode prog_9_method_8_code 71 = .ok (.getfield 96, 3) := by decide +kernel
theorem d_Reckoner_subtract_74 : decode prog_9_method_8_code 74 = .ok (.aload_n 2, 1) := by decide +kernel
theorem d_Reckoner_subtract_75 : decode prog_9_method_8_code 75 = .ok (.getfield 122, 3) := by decide +kernel
theorem d_Reckoner_subtract_78 : decode prog_9_method_8_code 78 = .ok (.lsub, 1) := by decide +kernel
theorem d_Reckoner_subtract_79 : decode prog_9_method_8_code 79 = .ok (.aload_n 1, 1) := by decide +kernel
theorem d_Reckoner_subtract_80 : decode prog_9_method_8_code 80 = .ok (.getfield 122, 3) := by decide +kernel
theorem d_Reckoner_subtract_83 : decode prog_9_method_8_code 83 = .ok (.aload_n 2, 1) := by decide +kernel
theorem d_Reckoner_subtract_84 : decode prog_9_method_8_code 84 = .ok (.getfield 96, 3) := by decide +kernel
theorem d_Reckoner_subtract_87 : decode prog_9_method_8_code 87 = .ok (.lsub, 1) := by decide +kernel
theorem d_Reckoner_subtract_88 : decode prog_9_method_8_code 88 = .ok (.invokevirtual 125, 3) := by decide +kernel
def rm_Reck_subtract : Room := { frames := 2, cells := 0, slots := 0, locals := 60 }
abbrev q_Reck_subtract (D : va_G) (h0 : Nat) (a1 : Nat) (a2 : Nat) (a3 : Nat) (a4 : Nat) (a5 : Nat) (h1 : Nat) (n1 : Int64) (n2 : Int64) (n3 : Int64) (n4 : Int64) (n5 : Int64) (n6 : Int64) (h2 : Nat) (o1 : Int64) (o2 : Int64) (o3 : Int64) (o4 : Int64) (o5 : Int64) (o6 : Int64) (A : Nat → Prop) : Array Value → Jvm.State → Outcome → Jvm.State → Prop := va_Qv (fun (u : Int64 × Int64 × Int64 × Int64 × Int64 × Int64) => fn_sub n1 n2 n3 n4 n5 n6 o1 o2 o3 o4 o5 o6 = (u.1, u.2.1, u.2.2.1, u.2.2.2.1, u.2.2.2.2.1, u.2.2.2.2.2)) (fg_B D A (fun (u : Int64 × Int64 × Int64 × Int64 × Int64 × Int64) => [(h0, .inr (8, [.ref a1, .ref a2, .ref a3, .ref a4, .ref a5])), (a3, .inr (11, [.long u.1, .long u.2.1, .long u.2.2.1, .long u.2.2.2.1, .long u.2.2.2.2.1, .long u.2.2.2.2.2])), (h1, .inr (11, [.long n1, .long n2, .long n3, .long n4, .long n5, .long n6])), (h2, .inr (11, [.long o1, .long o2, .long o3, .long o4, .long o5, .long o6]))]) (fun (u : Int64 × Int64 × Int64 × Int64 × Int64 × Int64) => [])) A
set_option maxHeartbeats 4000000 in
set_option maxRecDepth 100000 in
theorem c_Reck_subtract (l : Launch) (D : va_G) (h0 : Nat) (a1 : Nat) (a2 : Nat) (a3 : Nat) (a4 : Nat) (a5 : Nat) (h1 : Nat) (n1 : Int64) (n2 : Int64) (n3 : Int64) (n4 : Int64) (n5 : Int64) (n6 : Int64) (h2 : Nat) (o1 : Int64) (o2 : Int64) (o3 : Int64) (o4 : Int64) (o5 : Int64) (o6 : Int64) (sz : Nat) : Met l y_Reckoner_subtract (fg_w y_Reckoner_subtract prog_9_method_8_code 13 none) rm_Reck_subtract (va_Pc [.ref h0, .ref h1, .ref h2] (fg_P D [] [(h0, .inr (8, [.ref a1, .ref a2, .ref a3, .ref a4, .ref a5])), (a3, .inr (11, [.long 0, .long (-1), .long 0, .long (-1), .long (-9223372036854775808), .long 9223372036854775807])), (h1, .inr (11, [.long n1, .long n2, .long n3, .long n4, .long n5, .long n6])), (h2, .inr (11, [.long o1, .long o2, .long o3, .long o4, .long o5, .long o6]))] sz)) (q_Reck_subtract D h0 a1 a2 a3 a4 a5 h1 n1 n2 n3 n4 n5 n6 h2 o1 o2 o3 o4 o5 o6 (va_A [(h0, .inr (8, [.ref a1, .ref a2, .ref a3, .ref a4, .ref a5])), (a3, .inr (11, [.long 0, .long (-1), .long 0, .long (-1), .long (-9223372036854775808), .long 9223372036854775807])), (h1, .inr (11, [.long n1, .long n2, .long n3, .long n4, .long n5, .long n6])), (h2, .inr (11, [.long o1, .long o2, .long o3, .long o4, .long o5, .long o6]))] sz)) rm_Reck_subtract.cells rm_Reck_subtract.slots (va_A [(h0, .inr (8, [.ref a1, .ref a2, .ref a3, .ref a4, .ref a5])), (a3, .inr (11, [.long 0, .long (-1), .long 0, .long (-1), .long (-9223372036854775808), .long 9223372036854775807])), (h1, .inr (11, [.long n1, .long n2, .long n3, .long n4, .long n5, .long n6])), (h2, .inr (11, [.long o1, .long o2, .long o3, .long o4, .long o5, .long o6]))] sz) := by
  refine fg_enter (fun A => q_Reck_subtract D h0 a1 a2 a3 a4 a5 h1 n1 n2 n3 n4 n5 n6 h2 o1 o2 o3 o4 o5 o6 A) (by decide +kernel) (Nat.le_of_ble_eq_true rfl) ?_
  intro p e s m below meth c ls A hx hb hml hown hts hr hlocks hin hP hK hD hS hA hX hl
  have hl : lv_has ls 13 [(0, .ref h0), (1, .ref h1), (2, .ref h2)] := hl
  refine lv_aload_n hx hb d_Reckoner_subtract_0 rfl (lv_at hl 1 rfl) ?_
  refine va_get (D := D) (ci := 11) (v := .long n1) (C := "FilterGuard$Num") (T := F_Num) (N := 6) hx hb hts i_Num hown hK hP 2 rfl rfl 0 (by decide) (hts _ u_368) (fun _ h9 => h9) rfl d_Reckoner_subtract_1 ?_
  refine lv_aload_n hx hb d_Reckoner_subtract_4 rfl (lv_at hl 2 rfl) ?_
  refine va_get (D := D) (ci := 11) (v := .long o1) (C := "FilterGuard$Num") (T := F_Num) (N := 6) hx hb hts i_Num hown hK hP 3 rfl rfl 0 (by decide) (hts _ u_368) (fun _ h9 => h9) rfl d_Reckoner_subtract_5 ?_
  refine lv_lsub hx hb d_Reckoner_subtract_8 ?_
  refine lv_lstore_n (lv' := [(3, .long (n1 - o1)), (0, .ref h0), (1, .ref h1), (2, .ref h2)]) hx hb d_Reckoner_subtract_9 rfl hl (by decide) rfl (fun ls hl => ?_)
  refine lv_lload_n hx hb d_Reckoner_subtract_10 rfl (lv_at hl 0 rfl) ?_
  refine lv_aload_n hx hb d_Reckoner_subtract_11 rfl (lv_at hl 2 rfl) ?_
  refine va_get (D := D) (ci := 11) (v := .long n2) (C := "FilterGuard$Num") (T := F_Num) (N := 6) hx hb hts i_Num hown hK hP 2 rfl rfl 1 (by decide) (hts _ u_372) (fun _ h9 => h9) rfl d_Reckoner_subtract_12 ?_
  refine lv_ladd hx hb d_Reckoner_subtract_15 ?_
  refine lv_lload_n hx hb d_Reckoner_subtract_16 rfl (lv_at hl 0 rfl) ?_
  refine lv_aload_n hx hb d_Reckoner_subtract_17 rfl (lv_at hl 3 rfl) ?_
  refine va_get (D := D) (ci := 11) (v := .long o2) (C := "FilterGuard$Num") (T := F_Num) (N := 6) hx hb hts i_Num hown hK hP 3 rfl rfl 1 (by decide) (hts _ u_372) (fun _ h9 => h9) rfl d_Reckoner_subtract_18 ?_
  refine lv_lsub hx hb d_Reckoner_subtract_21 ?_
  refine lv_lxor hx hb d_Reckoner_subtract_22 ?_
  refine lv_aload_n hx hb d_Reckoner_subtract_23 rfl (lv_at hl 2 rfl) ?_
  refine va_get (D := D) (ci := 11) (v := .long n2) (C := "FilterGuard$Num") (T := F_Num) (N := 6) hx hb hts i_Num hown hK hP 2 rfl rfl 1 (by decide) (hts _ u_372) (fun _ h9 => h9) rfl d_Reckoner_subtract_24 ?_
  refine lv_lor hx hb d_Reckoner_subtract_27 ?_
  refine lv_aload_n hx hb d_Reckoner_subtract_28 rfl (lv_at hl 3 rfl) ?_
  refine va_get (D := D) (ci := 11) (v := .long o2) (C := "FilterGuard$Num") (T := F_Num) (N := 6) hx hb hts i_Num hown hK hP 3 rfl rfl 1 (by decide) (hts _ u_372) (fun _ h9 => h9) rfl d_Reckoner_subtract_29 ?_
  refine lv_lor hx hb d_Reckoner_subtract_32 ?_
  refine lv_lstore (lv' := [(5, .long (((((n1 - o1) + n2) ^^^ ((n1 - o1) - o2)) ||| n2) ||| o2)), (3, .long (n1 - o1)), (0, .ref h0), (1, .ref h1), (2, .ref h2)]) hx hb d_Reckoner_subtract_33 hl (by decide) rfl (fun ls hl => ?_)
  refine lv_aload_n hx hb d_Reckoner_subtract_35 rfl (lv_at hl 2 rfl) ?_
  refine va_get (D := D) (ci := 8) (v := .ref a3) (C := "FilterGuard$Reckoner") (T := F_Reckoner) (N := 5) hx hb hts i_Reckoner hown hK hP 0 rfl rfl 2 (by decide) (hts _ u_398) (fun _ h9 => h9) rfl d_Reckoner_subtract_36 ?_
  refine lv_lload_n hx hb d_Reckoner_subtract_39 rfl (lv_at hl 1 rfl) ?_
  refine lv_lload hx hb d_Reckoner_subtract_40 (lv_at hl 0 rfl) ?_
  refine lv_ldc2 hx hb hown (hts _ u_1139) d_Reckoner_subtract_42 ?_
  refine lv_lxor hx hb d_Reckoner_subtract_45 ?_
  refine lv_land hx hb d_Reckoner_subtract_46 ?_
  refine lv_lload hx hb d_Reckoner_subtract_47 (lv_at hl 0 rfl) ?_
  refine fg_thenv (wr := [(h0, .inr (8, [.ref a1, .ref a2, .ref a3, .ref a4, .ref a5])), (h1, .inr (11, [.long n1, .long n2, .long n3, .long n4, .long n5, .long n6])), (h2, .inr (11, [.long o1, .long o2, .long o3, .long o4, .long o5, .long o6]))]) (fg_runV (C := "FilterGuard$Num") (As := [.long ((n1 - o1) &&& ((((((n1 - o1) + n2) ^^^ ((n1 - o1) - o2)) ||| n2) ||| o2) ^^^ (-1))), .long (((((n1 - o1) + n2) ^^^ ((n1 - o1) - o2)) ||| n2) ||| o2)]) (rest := []) (ci := 11) (q0 := 0) ⟨hx, hb, hml, hown, hts⟩ (c_Num_bits l D a3 0 (-1) 0 (-1) (-9223372036854775808) 9223372036854775807 ((n1 - o1) &&& ((((((n1 - o1) + n2) ^^^ ((n1 - o1) - o2)) ||| n2) ||| o2) ^^^ (-1))) (((((n1 - o1) + n2) ^^^ ((n1 - o1) - o2)) ||| n2) ||| o2) s.heap.size) rfl (by show fg_nm y_Num_bits 2; decide +kernel) u_1140 u_1141 u_1142 u_187 u_1143 ⟨Nat.le_of_ble_eq_true rfl, Nat.le_of_ble_eq_true rfl⟩ hX (hP.sub (ws' := [(a3, .inr (11, [.long 0, .long (-1), .long 0, .long (-1), .long (-9223372036854775808), .long 9223372036854775807]))]) [1] rfl) (hK.sub (tys' := []) [] rfl) (hD.sub (ws' := [(a3, .inr (11, [.long 0, .long (-1), .long 0, .long (-1), .long (-9223372036854775808), .long 9223372036854775807]))]) [1] (by decide) rfl) rfl rfl rfl rfl hl.1 (Nat.le_of_ble_eq_true rfl) d_Reckoner_subtract_49 ⟨(Nat.le_of_ble_eq_true rfl), (Nat.le_of_ble_eq_true rfl)⟩) hP hD hK hS hA [1] [0, 2, 3] rfl rfl (by decide) (by decide) (fun  u H locs hw49_0 hP hD hK hS => ?_)
  try dsimp only at hw49_0
  have hP : va_P D classes [(h0, .inr (8, [.ref a1, .ref a2, .ref a3, .ref a4, .ref a5])), (h1, .inr (11, [.long n1, .long n2, .long n3, .long n4, .long n5, .long n6])), (h2, .inr (11, [.long o1, .long o2, .long o3, .long o4, .long o5, .long o6])), (a3, .inr (11, [.long ((n1 - o1) &&& ((((((n1 - o1) + n2) ^^^ ((n1 - o1) - o2)) ||| n2) ||| o2) ^^^ (-1))), .long (((((n1 - o1) + n2) ^^^ ((n1 - o1) - o2)) ||| n2) ||| o2), .long 0, .long (-1), .long (-9223372036854775808), .long 9223372036854775807]))] H := hP
  have hD : va_D A [(h0, .inr (8, [.ref a1, .ref a2, .ref a3, .ref a4, .ref a5])), (h1, .inr (11, [.long n1, .long n2, .long n3, .long n4, .long n5, .long n6])), (h2, .inr (11, [.long o1, .long o2, .long o3, .long o4, .long o5, .long o6])), (a3, .inr (11, [.long ((n1 - o1) &&& ((((((n1 - o1) + n2) ^^^ ((n1 - o1) - o2)) ||| n2) ||| o2) ^^^ (-1))), .long (((((n1 - o1) + n2) ^^^ ((n1 - o1) - o2)) ||| n2) ||| o2), .long 0, .long (-1), .long (-9223372036854775808), .long 9223372036854775807]))] := hD
  have hK : va_K D classes [] s := hK
  refine W.widen (k := 0) (n := 0) (Nat.le_of_ble_eq_true rfl) (Nat.le_of_ble_eq_true rfl) ?_
  refine lv_aload_n hx hb d_Reckoner_subtract_52 rfl (lv_at hl 3 rfl) ?_
  refine va_get (D := D) (ci := 11) (v := .long n3) (C := "FilterGuard$Num") (T := F_Num) (N := 6) hx hb hts i_Num hown hK hP 1 rfl rfl 2 (by decide) (hts _ u_374) (fun _ h9 => h9) rfl d_Reckoner_subtract_53 ?_
  refine lv_aload_n hx hb d_Reckoner_subtract_56 rfl (lv_at hl 4 rfl) ?_
  refine va_get (D := D) (ci := 11) (v := .long o4) (C := "FilterGuard$Num") (T := F_Num) (N := 6) hx hb hts i_Num hown hK hP 2 rfl rfl 3 (by decide) (hts _ u_377) (fun _ h9 => h9) rfl d_Reckoner_subtract_57 ?_
  refine fg_theni (wr := [(h0, .inr (8, [.ref a1, .ref a2, .ref a3, .ref a4, .ref a5])), (h1, .inr (11, [.long n1, .long n2, .long n3, .long n4, .long n5, .long n6])), (h2, .inr (11, [.long o1, .long o2, .long o3, .long o4, .long o5, .long o6])), (a3, .inr (11, [.long ((n1 - o1) &&& ((((((n1 - o1) + n2) ^^^ ((n1 - o1) - o2)) ||| n2) ||| o2) ^^^ (-1))), .long (((((n1 - o1) + n2) ^^^ ((n1 - o1) - o2)) ||| n2) ||| o2), .long 0, .long (-1), .long (-9223372036854775808), .long 9223372036854775807]))]) (fg_runS (As := [.long n3, .long o4]) (rest := []) ⟨hx, hb, hml, hown, hts⟩ (c_Num_isBelow l D n3 o4 H.size) (by show fg_nm y_Num_isBelow 2; decide +kernel) u_1144 u_1063 u_187 u_1064 ⟨Nat.le_of_ble_eq_true rfl, Nat.le_of_ble_eq_true rfl⟩ hX (hP.sub (ws' := []) [] rfl) (hK.sub (tys' := []) [] rfl) (hD.sub (ws' := []) [] (by decide) rfl) rfl hl.1 (Nat.le_of_ble_eq_true rfl) d_Reckoner_subtract_60 ⟨(Nat.le_of_ble_eq_true rfl), (Nat.le_of_ble_eq_true rfl)⟩) hP hD hK hS hA [] [0, 1, 2, 3] rfl rfl (by decide) (by decide) (fun r60_2 u H locs hw60_1 hP hD hK hS => ?_)
  try dsimp only at hw60_1
  have hP : va_P D classes [(h0, .inr (8, [.ref a1, .ref a2, .ref a3, .ref a4, .ref a5])), (h1, .inr (11, [.long n1, .long n2, .long n3, .long n4, .long n5, .long n6])), (h2, .inr (11, [.long o1, .long o2, .long o3, .long o4, .long o5, .long o6])), (a3, .inr (11, [.long ((n1 - o1) &&& ((((((n1 - o1) + n2) ^^^ ((n1 - o1) - o2)) ||| n2) ||| o2) ^^^ (-1))), .long (((((n1 - o1) + n2) ^^^ ((n1 - o1) - o2)) ||| n2) ||| o2), .long 0, .long (-1), .long (-9223372036854775808), .long 9223372036854775807]))] H := hP
  have hD : va_D A [(h0, .inr (8, [.ref a1, .ref a2, .ref a3, .ref a4, .ref a5])), (h1, .inr (11, [.long n1, .long n2, .long n3, .long n4, .long n5, .long n6])), (h2, .inr (11, [.long o1, .long o2, .long o3, .long o4, .long o5, .long o6])), (a3, .inr (11, [.long ((n1 - o1) &&& ((((((n1 - o1) + n2) ^^^ ((n1 - o1) - o2)) ||| n2) ||| o2) ^^^ (-1))), .long (((((n1 - o1) + n2) ^^^ ((n1 - o1) - o2)) ||| n2) ||| o2), .long 0, .long (-1), .long (-9223372036854775808), .long 9223372036854775807]))] := hD
  have hK : va_K D classes [] s := hK
  refine W.widen (k := 0) (n := 0) (Nat.le_of_ble_eq_true rfl) (Nat.le_of_ble_eq_true rfl) ?_
  refine lv_if_ne (tgt := 91) hx hb d_Reckoner_subtract_63 (by decide) (fun c_3 => ?_) (fun c_3 => ?_)
  · have gc_3 : (fn_lt n3 o4) := fg_ifnz hw60_1 c_3
    refine lv_aload_n hx hb d_Reckoner_subtract_91 rfl (lv_at hl 3 rfl) ?_
    refine va_get (D := D) (ci := 11) (v := .long n5) (C := "FilterGuard$Num") (T := F_Num) (N := 6) hx hb hts i_Num hown hK hP 1 rfl rfl 4 (by decide) (hts _ u_380) (fun _ h9 => h9) rfl d_Reckoner_subtract_92 ?_
    refine lv_aload_n hx hb d_Reckoner_subtract_95 rfl (lv_at hl 4 rfl) ?_
    refine va_get (D := D) (ci := 11) (v := .long o6) (C := "FilterGuard$Num") (T := F_Num) (N := 6) hx hb hts i_Num hown hK hP 2 rfl rfl 5 (by decide) (hts _ u_382) (fun _ h9 => h9) rfl d_Reckoner_subtract_96 ?_
    refine lv_lsub hx hb d_Reckoner_subtract_99 ?_
    refine lv_lstore (lv' := [(7, .long (n5 - o6)), (5, .long (((((n1 - o1) + n2) ^^^ ((n1 - o1) - o2)) ||| n2) ||| o2)), (3, .long (n1 - o1)), (0, .ref h0), (1, .ref h1), (2, .ref h2)]) hx hb d_Reckoner_subtract_100 hl (by decide) rfl (fun ls hl => ?_)
    refine lv_aload_n hx hb d_Reckoner_subtract_102 rfl (lv_at hl 4 rfl) ?_
    refine va_get (D := D) (ci := 11) (v := .long n6) (C := "FilterGuard$Num") (T := F_Num) (N := 6) hx hb hts i_Num hown hK hP 1 rfl rfl 5 (by decide) (hts _ u_382) (fun _ h9 => h9) rfl d_Reckoner_subtract_103 ?_
    refine lv_aload_n hx hb d_Reckoner_subtract_106 rfl (lv_at hl 5 rfl) ?_
    refine va_get (D := D) (ci := 11) (v := .long o5) (C := "FilterGuard$Num") (T := F_Num) (N := 6) hx hb hts i_Num hown hK hP 2 rfl rfl 4 (by decide) (hts _ u_380) (fun _ h9 => h9) rfl d_Reckoner_subtract_107 ?_
    refine lv_lsub hx hb d_Reckoner_subtract_110 ?_
    refine lv_lstore (lv' := [(9, .long (n6 - o5)), (7, .long (n5 - o6)), (5, .long (((((n1 - o1) + n2) ^^^ ((n1 - o1) - o2)) ||| n2) ||| o2)), (3, .long (n1 - o1)), (0, .ref h0), (1, .ref h1), (2, .ref h2)]) hx hb d_Reckoner_subtract_111 hl (by decide) rfl (fun ls hl => ?_)
    refine lv_aload_n hx hb d_Reckoner_subtract_113 rfl (lv_at hl 5 rfl) ?_
    refine va_get (D := D) (ci := 11) (v := .long n5) (C := "FilterGuard$Num") (T := F_Num) (N := 6) hx hb hts i_Num hown hK hP 1 rfl rfl 4 (by decide) (hts _ u_380) (fun _ h9 => h9) rfl d_Reckoner_subtract_114 ?_
    refine lv_aload_n hx hb d_Reckoner_subtract_117 rfl (lv_at hl 6 rfl) ?_
    refine va_get (D := D) (ci := 11) (v := .long o6) (C := "FilterGuard$Num") (T := F_Num) (N := 6) hx hb hts i_Num hown hK hP 2 rfl rfl 5 (by decide) (hts _ u_382) (fun _ h9 => h9) rfl d_Reckoner_subtract_118 ?_
    refine lv_lxor hx hb d_Reckoner_subtract_121 ?_
    refine lv_aload_n hx hb d_Reckoner_subtract_122 rfl (lv_at hl 5 rfl) ?_
    refine va_get (D := D) (ci := 11) (v := .long n5) (C := "FilterGuard$Num") (T := F_Num) (N := 6) hx hb hts i_Num hown hK hP 1 rfl rfl 4 (by decide) (hts _ u_380) (fun _ h9 => h9) rfl d_Reckoner_subtract_123 ?_
    refine lv_lload hx hb d_Reckoner_subtract_126 (lv_at hl 1 rfl) ?_
    refine lv_lxor hx hb d_Reckoner_subtract_128 ?_
    refine lv_land hx hb d_Reckoner_subtract_129 ?_
    refine lv_lconst (v := 0) hx hb d_Reckoner_subtract_130 (by decide) ?_
    refine W.lcmp hx hb d_Reckoner_subtract_131 ?_
    refine lv_if_ge (tgt := 139) hx hb d_Reckoner_subtract_132 (by decide) (fun c_4 => ?_) (fun c_4 => ?_)
    · have gc_4 : ¬ ((n5 ^^^ o6) &&& (n5 ^^^ (n5 - o6))) < 0 := Int64.not_lt.mpr ((lg_cmp_ge _ _).mp c_4)
      refine lv_iconst (v := 0) hx hb d_Reckoner_subtract_139 (by decide) ?_
      refine lv_istore (lv' := [(11, .int 0), (9, .long (n6 - o5)), (7, .long (n5 - o6)), (5, .long (((((n1 - o1) + n2) ^^^ ((n1 - o1) - o2)) ||| n2) ||| o2)), (3, .long (n1 - o1)), (0, .ref h0), (1, .ref h1), (2, .ref h2)]) hx hb d_Reckoner_subtract_140 hl (by decide) rfl (fun ls hl => ?_)
      refine lv_aload_n hx hb d_Reckoner_subtract_142 rfl (lv_at hl 6 rfl) ?_
      refine va_get (D := D) (ci := 11) (v := .long n6) (C := "FilterGuard$Num") (T := F_Num) (N := 6) hx hb hts i_Num hown hK hP 1 rfl rfl 5 (by decide) (hts _ u_382) (fun _ h9 => h9) rfl d_Reckoner_subtract_143 ?_
      refine lv_aload_n hx hb d_Reckoner_subtract_146 rfl (lv_at hl 7 rfl) ?_
      refine va_get (D := D) (ci := 11) (v := .long o5) (C := "FilterGuard$Num") (T := F_Num) (N := 6) hx hb hts i_Num hown hK hP 2 rfl rfl 4 (by decide) (hts _ u_380) (fun _ h9 => h9) rfl d_Reckoner_subtract_147 ?_
      refine lv_lxor hx hb d_Reckoner_subtract_150 ?_
      refine lv_aload_n hx hb d_Reckoner_subtract_151 rfl (lv_at hl 6 rfl) ?_
      refine va_get (D := D) (ci := 11) (v := .long n6) (C := "FilterGuard$Num") (T := F_Num) (N := 6) hx hb hts i_Num hown hK hP 1 rfl rfl 5 (by decide) (hts _ u_382) (fun _ h9 => h9) rfl d_Reckoner_subtract_152 ?_
      refine lv_lload hx hb d_Reckoner_subtract_155 (lv_at hl 1 rfl) ?_
      refine lv_lxor hx hb d_Reckoner_subtract_157 ?_
      refine lv_land hx hb d_Reckoner_subtract_158 ?_
      refine lv_lconst (v := 0) hx hb d_Reckoner_subtract_159 (by decide) ?_
      refine W.lcmp hx hb d_Reckoner_subtract_160 ?_
      refine lv_if_ge (tgt := 168) hx hb d_Reckoner_subtract_161 (by decide) (fun c_5 => ?_) (fun c_5 => ?_)
      · have gc_5 : ¬ ((n6 ^^^ o5) &&& (n6 ^^^ (n6 - o5))) < 0 := Int64.not_lt.mpr ((lg_cmp_ge _ _).mp c_5)
        refine lv_iconst (v := 0) hx hb d_Reckoner_subtract_168 (by decide) ?_
        refine lv_istore (lv' := [(12, .int 0), (11, .int 0), (9, .long (n6 - o5)), (7, .long (n5 - o6)), (5, .long (((((n1 - o1) + n2) ^^^ ((n1 - o1) - o2)) ||| n2) ||| o2)), (3, .long (n1 - o1)), (0, .ref h0), (1, .ref h1), (2, .ref h2)]) hx hb d_Reckoner_subtract_169 hl (by decide) rfl (fun ls hl => ?_)
        refine lv_iload hx hb d_Reckoner_subtract_171 (lv_at hl 1 rfl) ?_
        refine lv_if_ne (tgt := 199) hx hb d_Reckoner_subtract_173 (by decide) (fun c_6 => absurd (by decide) c_6) (fun c_6 => ?_)
        refine lv_iload hx hb d_Reckoner_subtract_176 (lv_at hl 0 rfl) ?_
        refine lv_if_ne (tgt := 199) hx hb d_Reckoner_subtract_178 (by decide) (fun c_7 => absurd (by decide) c_7) (fun c_7 => ?_)
        refine lv_aload_n hx hb d_Reckoner_subtract_181 rfl (lv_at hl 6 rfl) ?_
        refine va_get (D := D) (ci := 8) (v := .ref a3) (C := "FilterGuard$Reckoner") (T := F_Reckoner) (N := 5) hx hb hts i_Reckoner hown hK hP 0 rfl rfl 2 (by decide) (hts _ u_398) (fun _ h9 => h9) rfl d_Reckoner_subtract_182 ?_
        refine lv_lload hx hb d_Reckoner_subtract_185 (lv_at hl 3 rfl) ?_
        refine va_put (D := D) (ci := 11) (v := .long (n5 - o6)) (ty := .long) (C := "FilterGuard$Num") (T := F_Num) (N := 6) hx hb hts i_Num t_Num t_Num_ok n_Num hown hK hP hD hS 3 rfl rfl 4 (by decide) (hts _ u_380) (fun _ h9 => h9) rfl (by decide +kernel) rfl rfl (Nat.le_of_ble_eq_true rfl) d_Reckoner_subtract_187 (fun H locs hP hD hS => ?_)
        have hP : va_P D classes [(h0, .inr (8, [.ref a1, .ref a2, .ref a3, .ref a4, .ref a5])), (h1, .inr (11, [.long n1, .long n2, .long n3, .long n4, .long n5, .long n6])), (h2, .inr (11, [.long o1, .long o2, .long o3, .long o4, .long o5, .long o6])), (a3, .inr (11, [.long ((n1 - o1) &&& ((((((n1 - o1) + n2) ^^^ ((n1 - o1) - o2)) ||| n2) ||| o2) ^^^ (-1))), .long (((((n1 - o1) + n2) ^^^ ((n1 - o1) - o2)) ||| n2) ||| o2), .long 0, .long (-1), .long (n5 - o6), .long 9223372036854775807]))] H := hP
        have hD : va_D A [(h0, .inr (8, [.ref a1, .ref a2, .ref a3, .ref a4, .ref a5])), (h1, .inr (11, [.long n1, .long n2, .long n3, .long n4, .long n5, .long n6])), (h2, .inr (11, [.long o1, .long o2, .long o3, .long o4, .long o5, .long o6])), (a3, .inr (11, [.long ((n1 - o1) &&& ((((((n1 - o1) + n2) ^^^ ((n1 - o1) - o2)) ||| n2) ||| o2) ^^^ (-1))), .long (((((n1 - o1) + n2) ^^^ ((n1 - o1) - o2)) ||| n2) ||| o2), .long 0, .long (-1), .long (n5 - o6), .long 9223372036854775807]))] := hD
        refine lv_aload_n hx hb d_Reckoner_subtract_190 rfl (lv_at hl 6 rfl) ?_
        refine va_get (D := D) (ci := 8) (v := .ref a3) (C := "FilterGuard$Reckoner") (T := F_Reckoner) (N := 5) hx hb hts i_Reckoner hown hK hP 0 rfl rfl 2 (by decide) (hts _ u_398) (fun _ h9 => h9) rfl d_Reckoner_subtract_191 ?_
        refine lv_lload hx hb d_Reckoner_subtract_194 (lv_at hl 2 rfl) ?_
        refine va_put (D := D) (ci := 11) (v := .long (n6 - o5)) (ty := .long) (C := "FilterGuard$Num") (T := F_Num) (N := 6) hx hb hts i_Num t_Num t_Num_ok n_Num hown hK hP hD hS 3 rfl rfl 5 (by decide) (hts _ u_382) (fun _ h9 => h9) rfl (by decide +kernel) rfl rfl (Nat.le_of_ble_eq_true rfl) d_Reckoner_subtract_196 (fun H locs hP hD hS => ?_)
        have hP : va_P D classes [(h0, .inr (8, [.ref a1, .ref a2, .ref a3, .ref a4, .ref a5])), (h1, .inr (11, [.long n1, .long n2, .long n3, .long n4, .long n5, .long n6])), (h2, .inr (11, [.long o1, .long o2, .long o3, .long o4, .long o5, .long o6])), (a3, .inr (11, [.long ((n1 - o1) &&& ((((((n1 - o1) + n2) ^^^ ((n1 - o1) - o2)) ||| n2) ||| o2) ^^^ (-1))), .long (((((n1 - o1) + n2) ^^^ ((n1 - o1) - o2)) ||| n2) ||| o2), .long 0, .long (-1), .long (n5 - o6), .long (n6 - o5)]))] H := hP
        have hD : va_D A [(h0, .inr (8, [.ref a1, .ref a2, .ref a3, .ref a4, .ref a5])), (h1, .inr (11, [.long n1, .long n2, .long n3, .long n4, .long n5, .long n6])), (h2, .inr (11, [.long o1, .long o2, .long o3, .long o4, .long o5, .long o6])), (a3, .inr (11, [.long ((n1 - o1) &&& ((((((n1 - o1) + n2) ^^^ ((n1 - o1) - o2)) ||| n2) ||| o2) ^^^ (-1))), .long (((((n1 - o1) + n2) ^^^ ((n1 - o1) - o2)) ||| n2) ||| o2), .long 0, .long (-1), .long (n5 - o6), .long (n6 - o5)]))] := hD
        exact fg_retv (((n1 - o1) &&& ((((((n1 - o1) + n2) ^^^ ((n1 - o1) - o2)) ||| n2) ||| o2) ^^^ (-1))), (((((n1 - o1) + n2) ^^^ ((n1 - o1) - o2)) ||| n2) ||| o2), 0, (-1), n5 - o6, n6 - o5) hx hb hr hlocks (by unfold fn_sub; (repeat rw [if_pos gc_3]); (repeat rw [if_neg gc_4]); (repeat rw [if_neg gc_5]); try rfl) (hP.sub (ws' := [(h0, .inr (8, [.ref a1, .ref a2, .ref a3, .ref a4, .ref a5])), (a3, .inr (11, [.long ((n1 - o1) &&& ((((((n1 - o1) + n2) ^^^ ((n1 - o1) - o2)) ||| n2) ||| o2) ^^^ (-1))), .long (((((n1 - o1) + n2) ^^^ ((n1 - o1) - o2)) ||| n2) ||| o2), .long 0, .long (-1), .long (n5 - o6), .long (n6 - o5)])), (h1, .inr (11, [.long n1, .long n2, .long n3, .long n4, .long n5, .long n6])), (h2, .inr (11, [.long o1, .long o2, .long o3, .long o4, .long o5, .long o6]))]) [0, 3, 1, 2] rfl) (hK.sub (tys' := []) [] rfl) (hD.sub (ws' := [(h0, .inr (8, [.ref a1, .ref a2, .ref a3, .ref a4, .ref a5])), (a3, .inr (11, [.long ((n1 - o1) &&& ((((((n1 - o1) + n2) ^^^ ((n1 - o1) - o2)) ||| n2) ||| o2) ^^^ (-1))), .long (((((n1 - o1) + n2) ^^^ ((n1 - o1) - o2)) ||| n2) ||| o2), .long 0, .long (-1), .long (n5 - o6), .long (n6 - o5)])), (h1, .inr (11, [.long n1, .long n2, .long n3, .long n4, .long n5, .long n6])), (h2, .inr (11, [.long o1, .long o2, .long o3, .long o4, .long o5, .long o6]))]) [0, 3, 1, 2] (by decide) rfl) hS (Nat.le_of_ble_eq_true rfl) (Nat.le_of_ble_eq_true rfl) d_Reckoner_subtract_199
      · have gc_5 : ((n6 ^^^ o5) &&& (n6 ^^^ (n6 - o5))) < 0 := Int64.not_le.mp (fun z => c_5 ((lg_cmp_ge _ _).mpr z))
        refine lv_iconst (v := 1) hx hb d_Reckoner_subtract_164 (by decide) ?_
        refine lv_goto (tgt := 169) hx hb d_Reckoner_subtract_165 (by decide) ?_
        refine lv_istore (lv' := [(12, .int 1), (11, .int 0), (9, .long (n6 - o5)), (7, .long (n5 - o6)), (5, .long (((((n1 - o1) + n2) ^^^ ((n1 - o1) - o2)) ||| n2) ||| o2)), (3, .long (n1 - o1)), (0, .ref h0), (1, .ref h1), (2, .ref h2)]) hx hb d_Reckoner_subtract_169 hl (by decide) rfl (fun ls hl => ?_)
        refine lv_iload hx hb d_Reckoner_subtract_171 (lv_at hl 1 rfl) ?_
        refine lv_if_ne (tgt := 199) hx hb d_Reckoner_subtract_173 (by decide) (fun c_8 => absurd (by decide) c_8) (fun c_8 => ?_)
        refine lv_iload hx hb d_Reckoner_subtract_176 (lv_at hl 0 rfl) ?_
        refine lv_if_ne (tgt := 199) hx hb d_Reckoner_subtract_178 (by decide) (fun c_9 => ?_) (fun c_9 => absurd c_9 (by decide))
        exact fg_retv (((n1 - o1) &&& ((((((n1 - o1) + n2) ^^^ ((n1 - o1) - o2)) ||| n2) ||| o2) ^^^ (-1))), (((((n1 - o1) + n2) ^^^ ((n1 - o1) - o2)) ||| n2) ||| o2), 0, (-1), (-9223372036854775808), 9223372036854775807) hx hb hr hlocks (by unfold fn_sub; (repeat rw [if_pos gc_3]); (repeat rw [if_neg gc_4]); (repeat rw [if_pos gc_5]); try rfl) (hP.sub (ws' := [(h0, .inr (8, [.ref a1, .ref a2, .ref a3, .ref a4, .ref a5])), (a3, .inr (11, [.long ((n1 - o1) &&& ((((((n1 - o1) + n2) ^^^ ((n1 - o1) - o2)) ||| n2) ||| o2) ^^^ (-1))), .long (((((n1 - o1) + n2) ^^^ ((n1 - o1) - o2)) ||| n2) ||| o2), .long 0, .long (-1), .long (-9223372036854775808), .long 9223372036854775807])), (h1, .inr (11, [.long n1, .long n2, .long n3, .long n4, .long n5, .long n6])), (h2, .inr (11, [.long o1, .long o2, .long o3, .long o4, .long o5, .long o6]))]) [0, 3, 1, 2] rfl) (hK.sub (tys' := []) [] rfl) (hD.sub (ws' := [(h0, .inr (8, [.ref a1, .ref a2, .ref a3, .ref a4, .ref a5])), (a3, .inr (11, [.long ((n1 - o1) &&& ((((((n1 - o1) + n2) ^^^ ((n1 - o1) - o2)) ||| n2) ||| o2) ^^^ (-1))), .long (((((n1 - o1) + n2) ^^^ ((n1 - o1) - o2)) ||| n2) ||| o2), .long 0, .long (-1), .long (-9223372036854775808), .long 9223372036854775807])), (h1, .inr (11, [.long n1, .long n2, .long n3, .long n4, .long n5, .long n6])), (h2, .inr (11, [.long o1, .long o2, .long o3, .long o4, .long o5, .long o6]))]) [0, 3, 1, 2] (by decide) rfl) hS (Nat.le_of_ble_eq_true rfl) (Nat.le_of_ble_eq_true rfl) d_Reckoner_subtract_199
    · have gc_4 : ((n5 ^^^ o6) &&& (n5 ^^^ (n5 - o6))) < 0 := Int64.not_le.mp (fun z => c_4 ((lg_cmp_ge _ _).mpr z))
      refine lv_iconst (v := 1) hx hb d_Reckoner_subtract_135 (by decide) ?_
      refine lv_goto (tgt := 140) hx hb d_Reckoner_subtract_136 (by decide) ?_
      refine lv_istore (lv' := [(11, .int 1), (9, .long (n6 - o5)), (7, .long (n5 - o6)), (5, .long (((((n1 - o1) + n2) ^^^ ((n1 - o1) - o2)) ||| n2) ||| o2)), (3, .long (n1 - o1)), (0, .ref h0), (1, .ref h1), (2, .ref h2)]) hx hb d_Reckoner_subtract_140 hl (by decide) rfl (fun ls hl => ?_)
      refine lv_aload_n hx hb d_Reckoner_subtract_142 rfl (lv_at hl 6 rfl) ?_
      refine va_get (D := D) (ci := 11) (v := .long n6) (C := "FilterGuard$Num") (T := F_Num) (N := 6) hx hb hts i_Num hown hK hP 1 rfl rfl 5 (by decide) (hts _ u_382) (fun _ h9 => h9) rfl d_Reckoner_subtract_143 ?_
      refine lv_aload_n hx hb d_Reckoner_subtract_146 rfl (lv_at hl 7 rfl) ?_
      refine va_get (D := D) (ci := 11) (v := .long o5) (C := "FilterGuard$Num") (T := F_Num) (N := 6) hx hb hts i_Num hown hK hP 2 rfl rfl 4 (by decide) (hts _ u_380) (fun _ h9 => h9) rfl d_Reckoner_subtract_147 ?_
      refine lv_lxor hx hb d_Reckoner_subtract_150 ?_
      refine lv_aload_n hx hb d_Reckoner_subtract_151 rfl (lv_at hl 6 rfl) ?_
      refine va_get (D := D) (ci := 11) (v := .long n6) (C := "FilterGuard$Num") (T := F_Num) (N := 6) hx hb hts i_Num hown hK hP 1 rfl rfl 5 (by decide) (hts _ u_382) (fun _ h9 => h9) rfl d_Reckoner_subtract_152 ?_
      refine lv_lload hx hb d_Reckoner_subtract_155 (lv_at hl 1 rfl) ?_
      refine lv_lxor hx hb d_Reckoner_subtract_157 ?_
      refine lv_land hx hb d_Reckoner_subtract_158 ?_
      refine lv_lconst (v := 0) hx hb d_Reckoner_subtract_159 (by decide) ?_
      refine W.lcmp hx hb d_Reckoner_subtract_160 ?_
      refine lv_if_ge (tgt := 168) hx hb d_Reckoner_subtract_161 (by decide) (fun c_10 => ?_) (fun c_10 => ?_)
      · have gc_10 : ¬ ((n6 ^^^ o5) &&& (n6 ^^^ (n6 - o5))) < 0 := Int64.not_lt.mpr ((lg_cmp_ge _ _).mp c_10)
        refine lv_iconst (v := 0) hx hb d_Reckoner_subtract_168 (by decide) ?_
        refine lv_istore (lv' := [(12, .int 0), (11, .int 1), (9, .long (n6 - o5)), (7, .long (n5 - o6)), (5, .long (((((n1 - o1) + n2) ^^^ ((n1 - o1) - o2)) ||| n2) ||| o2)), (3, .long (n1 - o1)), (0, .ref h0), (1, .ref h1), (2, .ref h2)]) hx hb d_Reckoner_subtract_169 hl (by decide) rfl (fun ls hl => ?_)
        refine lv_iload hx hb d_Reckoner_subtract_171 (lv_at hl 1 rfl) ?_
        refine lv_if_ne (tgt := 199) hx hb d_Reckoner_subtract_173 (by decide) (fun c_11 => ?_) (fun c_11 => absurd c_11 (by decide))
        exact fg_retv (((n1 - o1) &&& ((((((n1 - o1) + n2) ^^^ ((n1 - o1) - o2)) ||| n2) ||| o2) ^^^ (-1))), (((((n1 - o1) + n2) ^^^ ((n1 - o1) - o2)) ||| n2) ||| o2), 0, (-1), (-9223372036854775808), 9223372036854775807) hx hb hr hlocks (by unfold fn_sub; (repeat rw [if_pos gc_3]); (repeat rw [if_pos gc_4]); (repeat rw [if_neg gc_10]); try rfl) (hP.sub (ws' := [(h0, .inr (8, [.ref a1, .ref a2, .ref a3, .ref a4, .ref a5])), (a3, .inr (11, [.long ((n1 - o1) &&& ((((((n1 - o1) + n2) ^^^ ((n1 - o1) - o2)) ||| n2) ||| o2) ^^^ (-1))), .long (((((n1 - o1) + n2) ^^^ ((n1 - o1) - o2)) ||| n2) ||| o2), .long 0, .long (-1), .long (-9223372036854775808), .long 9223372036854775807])), (h1, .inr (11, [.long n1, .long n2, .long n3, .long n4, .long n5, .long n6])), (h2, .inr (11, [.long o1, .long o2, .long o3, .long o4, .long o5, .long o6]))]) [0, 3, 1, 2] rfl) (hK.sub (tys' := []) [] rfl) (hD.sub (ws' := [(h0, .inr (8, [.ref a1, .ref a2, .ref a3, .ref a4, .ref a5])), (a3, .inr (11, [.long ((n1 - o1) &&& ((((((n1 - o1) + n2) ^^^ ((n1 - o1) - o2)) ||| n2) ||| o2) ^^^ (-1))), .long (((((n1 - o1) + n2) ^^^ ((n1 - o1) - o2)) ||| n2) ||| o2), .long 0, .long (-1), .long (-9223372036854775808), .long 9223372036854775807])), (h1, .inr (11, [.long n1, .long n2, .long n3, .long n4, .long n5, .long n6])), (h2, .inr (11, [.long o1, .long o2, .long o3, .long o4, .long o5, .long o6]))]) [0, 3, 1, 2] (by decide) rfl) hS (Nat.le_of_ble_eq_true rfl) (Nat.le_of_ble_eq_true rfl) d_Reckoner_subtract_199
      · have gc_10 : ((n6 ^^^ o5) &&& (n6 ^^^ (n6 - o5))) < 0 := Int64.not_le.mp (fun z => c_10 ((lg_cmp_ge _ _).mpr z))
        refine lv_iconst (v := 1) hx hb d_Reckoner_subtract_164 (by decide) ?_
        refine lv_goto (tgt := 169) hx hb d_Reckoner_subtract_165 (by decide) ?_
        refine lv_istore (lv' := [(12, .int 1), (11, .int 1), (9, .long (n6 - o5)), (7, .long (n5 - o6)), (5, .long (((((n1 - o1) + n2) ^^^ ((n1 - o1) - o2)) ||| n2) ||| o2)), (3, .long (n1 - o1)), (0, .ref h0), (1, .ref h1), (2, .ref h2)]) hx hb d_Reckoner_subtract_169 hl (by decide) rfl (fun ls hl => ?_)
        refine lv_iload hx hb d_Reckoner_subtract_171 (lv_at hl 1 rfl) ?_
        refine lv_if_ne (tgt := 199) hx hb d_Reckoner_subtract_173 (by decide) (fun c_12 => ?_) (fun c_12 => absurd c_12 (by decide))
        exact fg_retv (((n1 - o1) &&& ((((((n1 - o1) + n2) ^^^ ((n1 - o1) - o2)) ||| n2) ||| o2) ^^^ (-1))), (((((n1 - o1) + n2) ^^^ ((n1 - o1) - o2)) ||| n2) ||| o2), 0, (-1), (-9223372036854775808), 9223372036854775807) hx hb hr hlocks (by unfold fn_sub; (repeat rw [if_pos gc_3]); (repeat rw [if_pos gc_4]); (repeat rw [if_pos gc_10]); try rfl) (hP.sub (ws' := [(h0, .inr (8, [.ref a1, .ref a2, .ref a3, .ref a4, .ref a5])), (a3, .inr (11, [.long ((n1 - o1) &&& ((((((n1 - o1) + n2) ^^^ ((n1 - o1) - o2)) ||| n2) ||| o2) ^^^ (-1))), .long (((((n1 - o1) + n2) ^^^ ((n1 - o1) - o2)) ||| n2) ||| o2), .long 0, .long (-1), .long (-9223372036854775808), .long 9223372036854775807])), (h1, .inr (11, [.long n1, .long n2, .long n3, .long n4, .long n5, .long n6])), (h2, .inr (11, [.long o1, .long o2, .long o3, .long o4, .long o5, .long o6]))]) [0, 3, 1, 2] rfl) (hK.sub (tys' := []) [] rfl) (hD.sub (ws' := [(h0, .inr (8, [.ref a1, .ref a2, .ref a3, .ref a4, .ref a5])), (a3, .inr (11, [.long ((n1 - o1) &&& ((((((n1 - o1) + n2) ^^^ ((n1 - o1) - o2)) ||| n2) ||| o2) ^^^ (-1))), .long (((((n1 - o1) + n2) ^^^ ((n1 - o1) - o2)) ||| n2) ||| o2), .long 0, .long (-1), .long (-9223372036854775808), .long 9223372036854775807])), (h1, .inr (11, [.long n1, .long n2, .long n3, .long n4, .long n5, .long n6])), (h2, .inr (11, [.long o1, .long o2, .long o3, .long o4, .long o5, .long o6]))]) [0, 3, 1, 2] (by decide) rfl) hS (Nat.le_of_ble_eq_true rfl) (Nat.le_of_ble_eq_true rfl) d_Reckoner_subtract_199
  · have gc_3 : ¬ (fn_lt n3 o4) := fg_ifz hw60_1 c_3
    refine lv_aload_n hx hb d_Reckoner_subtract_66 rfl (lv_at hl 2 rfl) ?_
    refine va_get (D := D) (ci := 8) (v := .ref a3) (C := "FilterGuard$Reckoner") (T := F_Reckoner) (N := 5) hx hb hts i_Reckoner hown hK hP 0 rfl rfl 2 (by decide) (hts _ u_398) (fun _ h9 => h9) rfl d_Reckoner_subtract_67 ?_
    refine lv_aload_n hx hb d_Reckoner_subtract_70 rfl (lv_at hl 3 rfl) ?_
    refine va_get (D := D) (ci := 11) (v := .long n3) (C := "FilterGuard$Num") (T := F_Num) (N := 6) hx hb hts i_Num hown hK hP 1 rfl rfl 2 (by decide) (hts _ u_374) (fun _ h9 => h9) rfl d_Reckoner_subtract_71 ?_
    refine lv_aload_n hx hb d_Reckoner_subtract_74 rfl (lv_at hl 4 rfl) ?_
    refine va_get (D := D) (ci := 11) (v := .long o4) (C := "FilterGuard$Num") (T := F_Num) (N := 6) hx hb hts i_Num hown hK hP 2 rfl rfl 3 (by decide) (hts _ u_377) (fun _ h9 => h9) rfl d_Reckoner_subtract_75 ?_
    refine lv_lsub hx hb d_Reckoner_subtract_78 ?_
    refine lv_aload_n hx hb d_Reckoner_subtract_79 rfl (lv_at hl 3 rfl) ?_
    refine va_get (D := D) (ci := 11) (v := .long n4) (C := "FilterGuard$Num") (T := F_Num) (N := 6) hx hb hts i_Num hown hK hP 1 rfl rfl 3 (by decide) (hts _ u_377) (fun _ h9 => h9) rfl d_Reckoner_subtract_80 ?_
    refine lv_aload_n hx hb d_Reckoner_subtract_83 rfl (lv_at hl 4 rfl) ?_
    refine va_get (D := D) (ci := 11) (v := .long o3) (C := "FilterGuard$Num") (T := F_Num) (N := 6) hx hb hts i_Num hown hK hP 2 rfl rfl 2 (by decide) (hts _ u_374) (fun _ h9 => h9) rfl d_Reckoner_subtract_84 ?_
    refine lv_lsub hx hb d_Reckoner_subtract_87 ?_
    refine fg_thenv (wr := [(h0, .inr (8, [.ref a1, .ref a2, .ref a3, .ref a4, .ref a5])), (h1, .inr (11, [.long n1, .long n2, .long n3, .long n4, .long n5, .long n6])), (h2, .inr (11, [.long o1, .long o2, .long o3, .long o4, .long o5, .long o6]))]) (fg_runV (C := "FilterGuard$Num") (As := [.long (n3 - o4), .long (n4 - o3)]) (rest := []) (ci := 11) (q0 := 0) ⟨hx, hb, hml, hown, hts⟩ (c_Num_range l D a3 ((n1 - o1) &&& ((((((n1 - o1) + n2) ^^^ ((n1 - o1) - o2)) ||| n2) ||| o2) ^^^ (-1))) (((((n1 - o1) + n2) ^^^ ((n1 - o1) - o2)) ||| n2) ||| o2) 0 (-1) (-9223372036854775808) 9223372036854775807 (n3 - o4) (n4 - o3) H.size) rfl (by show fg_nm y_Num_range 2; decide +kernel) u_1145 u_1146 u_1147 u_187 u_1148 ⟨Nat.le_of_ble_eq_true rfl, Nat.le_of_ble_eq_true rfl⟩ hX (hP.sub (ws' := [(a3, .inr (11, [.long ((n1 - o1) &&& ((((((n1 - o1) + n2) ^^^ ((n1 - o1) - o2)) ||| n2) ||| o2) ^^^ (-1))), .long (((((n1 - o1) + n2) ^^^ ((n1 - o1) - o2)) ||| n2) ||| o2), .long 0, .long (-1), .long (-9223372036854775808), .long 9223372036854775807]))]) [3] rfl) (hK.sub (tys' := []) [] rfl) (hD.sub (ws' := [(a3, .inr (11, [.long ((n1 - o1) &&& ((((((n1 - o1) + n2) ^^^ ((n1 - o1) - o2)) ||| n2) ||| o2) ^^^ (-1))), .long (((((n1 - o1) + n2) ^^^ ((n1 - o1) - o2)) ||| n2) ||| o2), .long 0, .long (-1), .long (-9223372036854775808), .long 9223372036854775807]))]) [3] (by decide) rfl) rfl rfl rfl rfl hl.1 (Nat.le_of_ble_eq_true rfl) d_Reckoner_subtract_88 ⟨(Nat.le_of_ble_eq_true rfl), (Nat.le_of_ble_eq_true rfl)⟩) hP hD hK hS hA [3] [0, 1, 2] rfl rfl (by decide) (by decide) (fun  u H locs hw88_12 hP hD hK hS => ?_)
    try dsimp only at hw88_12
    have hP : va_P D classes [(h0, .inr (8, [.ref a1, .ref a2, .ref a3, .ref a4, .ref a5])), (h1, .inr (11, [.long n1, .long n2, .long n3, .long n4, .long n5, .long n6])), (h2, .inr (11, [.long o1, .long o2, .long o3, .long o4, .long o5, .long o6])), (a3, .inr (11, [.long ((n1 - o1) &&& ((((((n1 - o1) + n2) ^^^ ((n1 - o1) - o2)) ||| n2) ||| o2) ^^^ (-1))), .long (((((n1 - o1) + n2) ^^^ ((n1 - o1) - o2)) ||| n2) ||| o2), .long (n3 - o4), .long (n4 - o3), .long (-9223372036854775808), .long 9223372036854775807]))] H := hP
    have hD : va_D A [(h0, .inr (8, [.ref a1, .ref a2, .ref a3, .ref a4, .ref a5])), (h1, .inr (11, [.long n1, .long n2, .long n3, .long n4, .long n5, .long n6])), (h2, .inr (11, [.long o1, .long o2, .long o3, .long o4, .long o5, .long o6])), (a3, .inr (11, [.long ((n1 - o1) &&& ((((((n1 - o1) + n2) ^^^ ((n1 - o1) - o2)) ||| n2) ||| o2) ^^^ (-1))), .long (((((n1 - o1) + n2) ^^^ ((n1 - o1) - o2)) ||| n2) ||| o2), .long (n3 - o4), .long (n4 - o3), .long (-9223372036854775808), .long 9223372036854775807]))] := hD
    have hK : va_K D classes [] s := hK
    refine W.widen (k := 0) (n := 0) (Nat.le_of_ble_eq_true rfl) (Nat.le_of_ble_eq_true rfl) ?_
    refine lv_aload_n hx hb d_Reckoner_subtract_91 rfl (lv_at hl 3 rfl) ?_
    refine va_get (D := D) (ci := 11) (v := .long n5) (C := "FilterGuard$Num") (T := F_Num) (N := 6) hx hb hts i_Num hown hK hP 1 rfl rfl 4 (by decide) (hts _ u_380) (fun _ h9 => h9) rfl d_Reckoner_subtract_92 ?_
    refine lv_aload_n hx hb d_Reckoner_subtract_95 rfl (lv_at hl 4 rfl) ?_
    refine va_get (D := D) (ci := 11) (v := .long o6) (C := "FilterGuard$Num") (T := F_Num) (N := 6) hx hb hts i_Num hown hK hP 2 rfl rfl 5 (by decide) (hts _ u_382) (fun _ h9 => h9) rfl d_Reckoner_subtract_96 ?_
    refine lv_lsub hx hb d_Reckoner_subtract_99 ?_
    refine lv_lstore (lv' := [(7, .long (n5 - o6)), (5, .long (((((n1 - o1) + n2) ^^^ ((n1 - o1) - o2)) ||| n2) ||| o2)), (3, .long (n1 - o1)), (0, .ref h0), (1, .ref h1), (2, .ref h2)]) hx hb d_Reckoner_subtract_100 hl (by decide) rfl (fun ls hl => ?_)
    refine lv_aload_n hx hb d_Reckoner_subtract_102 rfl (lv_at hl 4 rfl) ?_
    refine va_get (D := D) (ci := 11) (v := .long n6) (C := "FilterGuard$Num") (T := F_Num) (N := 6) hx hb hts i_Num hown hK hP 1 rfl rfl 5 (by decide) (hts _ u_382) (fun _ h9 => h9) rfl d_Reckoner_subtract_103 ?_
    refine lv_aload_n hx hb d_Reckoner_subtract_106 rfl (lv_at hl 5 rfl) ?_
    refine va_get (D := D) (ci := 11) (v := .long o5) (C := "FilterGuard$Num") (T := F_Num) (N := 6) hx hb hts i_Num hown hK hP 2 rfl rfl 4 (by decide) (hts _ u_380) (fun _ h9 => h9) rfl d_Reckoner_subtract_107 ?_
    refine lv_lsub hx hb d_Reckoner_subtract_110 ?_
    refine lv_lstore (lv' := [(9, .long (n6 - o5)), (7, .long (n5 - o6)), (5, .long (((((n1 - o1) + n2) ^^^ ((n1 - o1) - o2)) ||| n2) ||| o2)), (3, .long (n1 - o1)), (0, .ref h0), (1, .ref h1), (2, .ref h2)]) hx hb d_Reckoner_subtract_111 hl (by decide) rfl (fun ls hl => ?_)
    refine lv_aload_n hx hb d_Reckoner_subtract_113 rfl (lv_at hl 5 rfl) ?_
    refine va_get (D := D) (ci := 11) (v := .long n5) (C := "FilterGuard$Num") (T := F_Num) (N := 6) hx hb hts i_Num hown hK hP 1 rfl rfl 4 (by decide) (hts _ u_380) (fun _ h9 => h9) rfl d_Reckoner_subtract_114 ?_
    refine lv_aload_n hx hb d_Reckoner_subtract_117 rfl (lv_at hl 6 rfl) ?_
    refine va_get (D := D) (ci := 11) (v := .long o6) (C := "FilterGuard$Num") (T := F_Num) (N := 6) hx hb hts i_Num hown hK hP 2 rfl rfl 5 (by decide) (hts _ u_382) (fun _ h9 => h9) rfl d_Reckoner_subtract_118 ?_
    refine lv_lxor hx hb d_Reckoner_subtract_121 ?_
    refine lv_aload_n hx hb d_Reckoner_subtract_122 rfl (lv_at hl 5 rfl) ?_
    refine va_get (D := D) (ci := 11) (v := .long n5) (C := "FilterGuard$Num") (T := F_Num) (N := 6) hx hb hts i_Num hown hK hP 1 rfl rfl 4 (by decide) (hts _ u_380) (fun _ h9 => h9) rfl d_Reckoner_subtract_123 ?_
    refine lv_lload hx hb d_Reckoner_subtract_126 (lv_at hl 1 rfl) ?_
    refine lv_lxor hx hb d_Reckoner_subtract_128 ?_
    refine lv_land hx hb d_Reckoner_subtract_129 ?_
    refine lv_lconst (v := 0) hx hb d_Reckoner_subtract_130 (by decide) ?_
    refine W.lcmp hx hb d_Reckoner_subtract_131 ?_
    refine lv_if_ge (tgt := 139) hx hb d_Reckoner_subtract_132 (by decide) (fun c_14 => ?_) (fun c_14 => ?_)
    · have gc_14 : ¬ ((n5 ^^^ o6) &&& (n5 ^^^ (n5 - o6))) < 0 := Int64.not_lt.mpr ((lg_cmp_ge _ _).mp c_14)
      refine lv_iconst (v := 0) hx hb d_Reckoner_subtract_139 (by decide) ?_
      refine lv_istore (lv' := [(11, .int 0), (9, .long (n6 - o5)), (7, .long (n5 - o6)), (5, .long (((((n1 - o1) + n2) ^^^ ((n1 - o1) - o2)) ||| n2) ||| o2)), (3, .long (n1 - o1)), (0, .ref h0), (1, .ref h1), (2, .ref h2)]) hx hb d_Reckoner_subtract_140 hl (by decide) rfl (fun ls hl => ?_)
      refine lv_aload_n hx hb d_Reckoner_subtract_142 rfl (lv_at hl 6 rfl) ?_
      refine va_get (D := D) (ci := 11) (v := .long n6) (C := "FilterGuard$Num") (T := F_Num) (N := 6) hx hb hts i_Num hown hK hP 1 rfl rfl 5 (by decide) (hts _ u_382) (fun _ h9 => h9) rfl d_Reckoner_subtract_143 ?_
      refine lv_aload_n hx hb d_Reckoner_subtract_146 rfl (lv_at hl 7 rfl) ?_
      refine va_get (D := D) (ci := 11) (v := .long o5) (C := "FilterGuard$Num") (T := F_Num) (N := 6) hx hb hts i_Num hown hK hP 2 rfl rfl 4 (by decide) (hts _ u_380) (fun _ h9 => h9) rfl d_Reckoner_subtract_147 ?_
      refine lv_lxor hx hb d_Reckoner_subtract_150 ?_
      refine lv_aload_n hx hb d_Reckoner_subtract_151 rfl (lv_at hl 6 rfl) ?_
      refine va_get (D := D) (ci := 11) (v := .long n6) (C := "FilterGuard$Num") (T := F_Num) (N := 6) hx hb hts i_Num hown hK hP 1 rfl rfl 5 (by decide) (hts _ u_382) (fun _ h9 => h9) rfl d_Reckoner_subtract_152 ?_
      refine lv_lload hx hb d_Reckoner_subtract_155 (lv_at hl 1 rfl) ?_
      refine lv_lxor hx hb d_Reckoner_subtract_157 ?_
      refine lv_land hx hb d_Reckoner_subtract_158 ?_
      refine lv_lconst (v := 0) hx hb d_Reckoner_subtract_159 (by decide) ?_
      refine W.lcmp hx hb d_Reckoner_subtract_160 ?_
      refine lv_if_ge (tgt := 168) hx hb d_Reckoner_subtract_161 (by decide) (fun c_15 => ?_) (fun c_15 => ?_)
      · have gc_15 : ¬ ((n6 ^^^ o5) &&& (n6 ^^^ (n6 - o5))) < 0 := Int64.not_lt.mpr ((lg_cmp_ge _ _).mp c_15)
        refine lv_iconst (v := 0) hx hb d_Reckoner_subtract_168 (by decide) ?_
        refine lv_istore (lv' := [(12, .int 0), (11, .int 0), (9, .long (n6 - o5)), (7, .long (n5 - o6)), (5, .long (((((n1 - o1) + n2) ^^^ ((n1 - o1) - o2)) ||| n2) ||| o2)), (3, .long (n1 - o1)), (0, .ref h0), (1, .ref h1), (2, .ref h2)]) hx hb d_Reckoner_subtract_169 hl (by decide) rfl (fun ls hl => ?_)
        refine lv_iload hx hb d_Reckoner_subtract_171 (lv_at hl 1 rfl) ?_
        refine lv_if_ne (tgt := 199) hx hb d_Reckoner_subtract_173 (by decide) (fun c_16 => absurd (by decide) c_16) (fun c_16 => ?_)
        refine lv_iload hx hb d_Reckoner_subtract_176 (lv_at hl 0 rfl) ?_
        refine lv_if_ne (tgt := 199) hx hb d_Reckoner_subtract_178 (by decide) (fun c_17 => absurd (by decide) c_17) (fun c_17 => ?_)
        refine lv_aload_n hx hb d_Reckoner_subtract_181 rfl (lv_at hl 6 rfl) ?_
        refine va_get (D := D) (ci := 8) (v := .ref a3) (C := "FilterGuard$Reckoner") (T := F_Reckoner) (N := 5) hx hb hts i_Reckoner hown hK hP 0 rfl rfl 2 (by decide) (hts _ u_398) (fun _ h9 => h9) rfl d_Reckoner_subtract_182 ?_
        refine lv_lload hx hb d_Reckoner_subtract_185 (lv_at hl 3 rfl) ?_
        refine va_put (D := D) (ci := 11) (v := .long (n5 - o6)) (ty := .long) (C := "FilterGuard$Num") (T := F_Num) (N := 6) hx hb hts i_Num t_Num t_Num_ok n_Num hown hK hP hD hS 3 rfl rfl 4 (by decide) (hts _ u_380) (fun _ h9 => h9) rfl (by decide +kernel) rfl rfl (Nat.le_of_ble_eq_true rfl) d_Reckoner_subtract_187 (fun H locs hP hD hS => ?_)
        have hP : va_P D classes [(h0, .inr (8, [.ref a1, .ref a2, .ref a3, .ref a4, .ref a5])), (h1, .inr (11, [.long n1, .long n2, .long n3, .long n4, .long n5, .long n6])), (h2, .inr (11, [.long o1, .long o2, .long o3, .long o4, .long o5, .long o6])), (a3, .inr (11, [.long ((n1 - o1) &&& ((((((n1 - o1) + n2) ^^^ ((n1 - o1) - o2)) ||| n2) ||| o2) ^^^ (-1))), .long (((((n1 - o1) + n2) ^^^ ((n1 - o1) - o2)) ||| n2) ||| o2), .long (n3 - o4), .long (n4 - o3), .long (n5 - o6), .long 9223372036854775807]))] H := hP
        have hD : va_D A [(h0, .inr (8, [.ref a1, .ref a2, .ref a3, .ref a4, .ref a5])), (h1, .inr (11, [.long n1, .long n2, .long n3, .long n4, .long n5, .long n6])), (h2, .inr (11, [.long o1, .long o2, .long o3, .long o4, .long o5, .long o6])), (a3, .inr (11, [.long ((n1 - o1) &&& ((((((n1 - o1) + n2) ^^^ ((n1 - o1) - o2)) ||| n2) ||| o2) ^^^ (-1))), .long (((((n1 - o1) + n2) ^^^ ((n1 - o1) - o2)) ||| n2) ||| o2), .long (n3 - o4), .long (n4 - o3), .long (n5 - o6), .long 9223372036854775807]))] := hD
        refine lv_aload_n hx hb d_Reckoner_subtract_190 rfl (lv_at hl 6 rfl) ?_
        refine va_get (D := D) (ci := 8) (v := .ref a3) (C := "FilterGuard$Reckoner") (T := F_Reckoner) (N := 5) hx hb hts i_Reckoner hown hK hP 0 rfl rfl 2 (by decide) (hts _ u_398) (fun _ h9 => h9) rfl d_Reckoner_subtract_191 ?_
        refine lv_lload hx hb d_Reckoner_subtract_194 (lv_at hl 2 rfl) ?_
        refine va_put (D := D) (ci := 11) (v := .long (n6 - o5)) (ty := .long) (C := "FilterGuard$Num") (T := F_Num) (N := 6) hx hb hts i_Num t_Num t_Num_ok n_Num hown hK hP hD hS 3 rfl rfl 5 (by decide) (hts _ u_382) (fun _ h9 => h9) rfl (by decide +kernel) rfl rfl (Nat.le_of_ble_eq_true rfl) d_Reckoner_subtract_196 (fun H locs hP hD hS => ?_)
        have hP : va_P D classes [(h0, .inr (8, [.ref a1, .ref a2, .ref a3, .ref a4, .ref a5])), (h1, .inr (11, [.long n1, .long n2, .long n3, .long n4, .long n5, .long n6])), (h2, .inr (11, [.long o1, .long o2, .long o3, .long o4, .long o5, .long o6])), (a3, .inr (11, [.long ((n1 - o1) &&& ((((((n1 - o1) + n2) ^^^ ((n1 - o1) - o2)) ||| n2) ||| o2) ^^^ (-1))), .long (((((n1 - o1) + n2) ^^^ ((n1 - o1) - o2)) ||| n2) ||| o2), .long (n3 - o4), .long (n4 - o3), .long (n5 - o6), .long (n6 - o5)]))] H := hP
        have hD : va_D A [(h0, .inr (8, [.ref a1, .ref a2, .ref a3, .ref a4, .ref a5])), (h1, .inr (11, [.long n1, .long n2, .long n3, .long n4, .long n5, .long n6])), (h2, .inr (11, [.long o1, .long o2, .long o3, .long o4, .long o5, .long o6])), (a3, .inr (11, [.long ((n1 - o1) &&& ((((((n1 - o1) + n2) ^^^ ((n1 - o1) - o2)) ||| n2) ||| o2) ^^^ (-1))), .long (((((n1 - o1) + n2) ^^^ ((n1 - o1) - o2)) ||| n2) ||| o2), .long (n3 - o4), .long (n4 - o3), .long (n5 - o6), .long (n6 - o5)]))] := hD
        exact fg_retv (((n1 - o1) &&& ((((((n1 - o1) + n2) ^^^ ((n1 - o1) - o2)) ||| n2) ||| o2) ^^^ (-1))), (((((n1 - o1) + n2) ^^^ ((n1 - o1) - o2)) ||| n2) ||| o2), (n3 - o4), (n4 - o3), n5 - o6, n6 - o5) hx hb hr hlocks (by unfold fn_sub; (repeat rw [if_neg gc_3]); (repeat rw [if_neg gc_14]); (repeat rw [if_neg gc_15]); try rfl) (hP.sub (ws' := [(h0, .inr (8, [.ref a1, .ref a2, .ref a3, .ref a4, .ref a5])), (a3, .inr (11, [.long ((n1 - o1) &&& ((((((n1 - o1) + n2) ^^^ ((n1 - o1) - o2)) ||| n2) ||| o2) ^^^ (-1))), .long (((((n1 - o1) + n2) ^^^ ((n1 - o1) - o2)) ||| n2) ||| o2), .long (n3 - o4), .long (n4 - o3), .long (n5 - o6), .long (n6 - o5)])), (h1, .inr (11, [.long n1, .long n2, .long n3, .long n4, .long n5, .long n6])), (h2, .inr (11, [.long o1, .long o2, .long o3, .long o4, .long o5, .long o6]))]) [0, 3, 1, 2] rfl) (hK.sub (tys' := []) [] rfl) (hD.sub (ws' := [(h0, .inr (8, [.ref a1, .ref a2, .ref a3, .ref a4, .ref a5])), (a3, .inr (11, [.long ((n1 - o1) &&& ((((((n1 - o1) + n2) ^^^ ((n1 - o1) - o2)) ||| n2) ||| o2) ^^^ (-1))), .long (((((n1 - o1) + n2) ^^^ ((n1 - o1) - o2)) ||| n2) ||| o2), .long (n3 - o4), .long (n4 - o3), .long (n5 - o6), .long (n6 - o5)])), (h1, .inr (11, [.long n1, .long n2, .long n3, .long n4, .long n5, .long n6])), (h2, .inr (11, [.long o1, .long o2, .long o3, .long o4, .long o5, .long o6]))]) [0, 3, 1, 2] (by decide) rfl) hS (Nat.le_of_ble_eq_true rfl) (Nat.le_of_ble_eq_true rfl) d_Reckoner_subtract_199
      · have gc_15 : ((n6 ^^^ o5) &&& (n6 ^^^ (n6 - o5))) < 0 := Int64.not_le.mp (fun z => c_15 ((lg_cmp_ge _ _).mpr z))
        refine lv_iconst (v := 1) hx hb d_Reckoner_subtract_164 (by decide) ?_
        refine lv_goto (tgt := 169) hx hb d_Reckoner_subtract_165 (by decide) ?_
        refine lv_istore (lv' := [(12, .int 1), (11, .int 0), (9, .long (n6 - o5)), (7, .long (n5 - o6)), (5, .long (((((n1 - o1) + n2) ^^^ ((n1 - o1) - o2)) ||| n2) ||| o2)), (3, .long (n1 - o1)), (0, .ref h0), (1, .ref h1), (2, .ref h2)]) hx hb d_Reckoner_subtract_169 hl (by decide) rfl (fun ls hl => ?_)
        refine lv_iload hx hb d_Reckoner_subtract_171 (lv_at hl 1 rfl) ?_
        refine lv_if_ne (tgt := 199) hx hb d_Reckoner_subtract_173 (by decide) (fun c_18 => absurd (by decide) c_18) (fun c_18 => ?_)
        refine lv_iload hx hb d_Reckoner_subtract_176 (lv_at hl 0 rfl) ?_
        refine lv_if_ne (tgt := 199) hx hb d_Reckoner_subtract_178 (by decide) (fun c_19 => ?_) (fun c_19 => absurd c_19 (by decide))
        exact fg_retv (((n1 - o1) &&& ((((((n1 - o1) + n2) ^^^ ((n1 - o1) - o2)) ||| n2) ||| o2) ^^^ (-1))), (((((n1 - o1) + n2) ^^^ ((n1 - o1) - o2)) ||| n2) ||| o2), (n3 - o4), (n4 - o3), (-9223372036854775808), 9223372036854775807) hx hb hr hlocks (by unfold fn_sub; (repeat rw [if_neg gc_3]); (repeat rw [if_neg gc_14]); (repeat rw [if_pos gc_15]); try rfl) (hP.sub (ws' := [(h0, .inr (8, [.ref a1, .ref a2, .ref a3, .ref a4, .ref a5])), (a3, .inr (11, [.long ((n1 - o1) &&& ((((((n1 - o1) + n2) ^^^ ((n1 - o1) - o2)) ||| n2) ||| o2) ^^^ (-1))), .long (((((n1 - o1) + n2) ^^^ ((n1 - o1) - o2)) ||| n2) ||| o2), .long (n3 - o4), .long (n4 - o3), .long (-9223372036854775808), .long 9223372036854775807])), (h1, .inr (11, [.long n1, .long n2, .long n3, .long n4, .long n5, .long n6])), (h2, .inr (11, [.long o1, .long o2, .long o3, .long o4, .long o5, .long o6]))]) [0, 3, 1, 2] rfl) (hK.sub (tys' := []) [] rfl) (hD.sub (ws' := [(h0, .inr (8, [.ref a1, .ref a2, .ref a3, .ref a4, .ref a5])), (a3, .inr (11, [.long ((n1 - o1) &&& ((((((n1 - o1) + n2) ^^^ ((n1 - o1) - o2)) ||| n2) ||| o2) ^^^ (-1))), .long (((((n1 - o1) + n2) ^^^ ((n1 - o1) - o2)) ||| n2) ||| o2), .long (n3 - o4), .long (n4 - o3), .long (-9223372036854775808), .long 9223372036854775807])), (h1, .inr (11, [.long n1, .long n2, .long n3, .long n4, .long n5, .long n6])), (h2, .inr (11, [.long o1, .long o2, .long o3, .long o4, .long o5, .long o6]))]) [0, 3, 1, 2] (by decide) rfl) hS (Nat.le_of_ble_eq_true rfl) (Nat.le_of_ble_eq_true rfl) d_Reckoner_subtract_199
    · have gc_14 : ((n5 ^^^ o6) &&& (n5 ^^^ (n5 - o6))) < 0 := Int64.not_le.mp (fun z => c_14 ((lg_cmp_ge _ _).mpr z))
      refine lv_iconst (v := 1) hx hb d_Reckoner_subtract_135 (by decide) ?_
      refine lv_goto (tgt := 140) hx hb d_Reckoner_subtract_136 (by decide) ?_
      refine lv_istore (lv' := [(11, .int 1), (9, .long (n6 - o5)), (7, .long (n5 - o6)), (5, .long (((((n1 - o1) + n2) ^^^ ((n1 - o1) - o2)) ||| n2) ||| o2)), (3, .long (n1 - o1)), (0, .ref h0), (1, .ref h1), (2, .ref h2)]) hx hb d_Reckoner_subtract_140 hl (by decide) rfl (fun ls hl => ?_)
      refine lv_aload_n hx hb d_Reckoner_subtract_142 rfl (lv_at hl 6 rfl) ?_
      refine va_get (D := D) (ci := 11) (v := .long n6) (C := "FilterGuard$Num") (T := F_Num) (N := 6) hx hb hts i_Num hown hK hP 1 rfl rfl 5 (by decide) (hts _ u_382) (fun _ h9 => h9) rfl d_Reckoner_subtract_143 ?_
      refine lv_aload_n hx hb d_Reckoner_subtract_146 rfl (lv_at hl 7 rfl) ?_
      refine va_get (D := D) (ci := 11) (v := .long o5) (C := "FilterGuard$Num") (T := F_Num) (N := 6) hx hb hts i_Num hown hK hP 2 rfl rfl 4 (by decide) (hts _ u_380) (fun _ h9 => h9) rfl d_Reckoner_subtract_147 ?_
      refine lv_lxor hx hb d_Reckoner_subtract_150 ?_
      refine lv_aload_n hx hb d_Reckoner_subtract_151 rfl (lv_at hl 6 rfl) ?_
      refine va_get (D := D) (ci := 11) (v := .long n6) (C := "FilterGuard$Num") (T := F_Num) (N := 6) hx hb hts i_Num hown hK hP 1 rfl rfl 5 (by decide) (hts _ u_382) (fun _ h9 => h9) rfl d_Reckoner_subtract_152 ?_
      refine lv_lload hx hb d_Reckoner_subtract_155 (lv_at hl 1 rfl) ?_
      refine lv_lxor hx hb d_Reckoner_subtract_157 ?_
      refine lv_land hx hb d_Reckoner_subtract_158 ?_
      refine lv_lconst (v := 0) hx hb d_Reckoner_subtract_159 (by decide) ?_
      refine W.lcmp hx hb d_Reckoner_subtract_160 ?_
      refine lv_if_ge (tgt := 168) hx hb d_Reckoner_subtract_161 (by decide) (fun c_20 => ?_) (fun c_20 => ?_)
      · have gc_20 : ¬ ((n6 ^^^ o5) &&& (n6 ^^^ (n6 - o5))) < 0 := Int64.not_lt.mpr ((lg_cmp_ge _ _).mp c_20)
        refine lv_iconst (v := 0) hx hb d_Reckoner_subtract_168 (by decide) ?_
        refine lv_istore (lv' := [(12, .int 0), (11, .int 1), (9, .long (n6 - o5)), (7, .long (n5 - o6)), (5, .long (((((n1 - o1) + n2) ^^^ ((n1 - o1) - o2)) ||| n2) ||| o2)), (3, .long (n1 - o1)), (0, .ref h0), (1, .ref h1), (2, .ref h2)]) hx hb d_Reckoner_subtract_169 hl (by decide) rfl (fun ls hl => ?_)
        refine lv_iload hx hb d_Reckoner_subtract_171 (lv_at hl 1 rfl) ?_
        refine lv_if_ne (tgt := 199) hx hb d_Reckoner_subtract_173 (by decide) (fun c_21 => ?_) (fun c_21 => absurd c_21 (by decide))
        exact fg_retv (((n1 - o1) &&& ((((((n1 - o1) + n2) ^^^ ((n1 - o1) - o2)) ||| n2) ||| o2) ^^^ (-1))), (((((n1 - o1) + n2) ^^^ ((n1 - o1) - o2)) ||| n2) ||| o2), (n3 - o4), (n4 - o3), (-9223372036854775808), 9223372036854775807) hx hb hr hlocks (by unfold fn_sub; (repeat rw [if_neg gc_3]); (repeat rw [if_pos gc_14]); (repeat rw [if_neg gc_20]); try rfl) (hP.sub (ws' := [(h0, .inr (8, [.ref a1, .ref a2, .ref a3, .ref a4, .ref a5])), (a3, .inr (11, [.long ((n1 - o1) &&& ((((((n1 - o1) + n2) ^^^ ((n1 - o1) - o2)) ||| n2) ||| o2) ^^^ (-1))), .long (((((n1 - o1) + n2) ^^^ ((n1 - o1) - o2)) ||| n2) ||| o2), .long (n3 - o4), .long (n4 - o3), .long (-9223372036854775808), .long 9223372036854775807])), (h1, .inr (11, [.long n1, .long n2, .long n3, .long n4, .long n5, .long n6])), (h2, .inr (11, [.long o1, .long o2, .long o3, .long o4, .long o5, .long o6]))]) [0, 3, 1, 2] rfl) (hK.sub (tys' := []) [] rfl) (hD.sub (ws' := [(h0, .inr (8, [.ref a1, .ref a2, .ref a3, .ref a4, .ref a5])), (a3, .inr (11, [.long ((n1 - o1) &&& ((((((n1 - o1) + n2) ^^^ ((n1 - o1) - o2)) ||| n2) ||| o2) ^^^ (-1))), .long (((((n1 - o1) + n2) ^^^ ((n1 - o1) - o2)) ||| n2) ||| o2), .long (n3 - o4), .long (n4 - o3), .long (-9223372036854775808), .long 9223372036854775807])), (h1, .inr (11, [.long n1, .long n2, .long n3, .long n4, .long n5, .long n6])), (h2, .inr (11, [.long o1, .long o2, .long o3, .long o4, .long o5, .long o6]))]) [0, 3, 1, 2] (by decide) rfl) hS (Nat.le_of_ble_eq_true rfl) (Nat.le_of_ble_eq_true rfl) d_Reckoner_subtract_199
      · have gc_20 : ((n6 ^^^ o5) &&& (n6 ^^^ (n6 - o5))) < 0 := Int64.not_le.mp (fun z => c_20 ((lg_cmp_ge _ _).mpr z))
        refine lv_iconst (v := 1) hx hb d_Reckoner_subtract_164 (by decide) ?_
        refine lv_goto (tgt := 169) hx hb d_Reckoner_subtract_165 (by decide) ?_
        refine lv_istore (lv' := [(12, .int 1), (11, .int 1), (9, .long (n6 - o5)), (7, .long (n5 - o6)), (5, .long (((((n1 - o1) + n2) ^^^ ((n1 - o1) - o2)) ||| n2) ||| o2)), (3, .long (n1 - o1)), (0, .ref h0), (1, .ref h1), (2, .ref h2)]) hx hb d_Reckoner_subtract_169 hl (by decide) rfl (fun ls hl => ?_)
        refine lv_iload hx hb d_Reckoner_subtract_171 (lv_at hl 1 rfl) ?_
        refine lv_if_ne (tgt := 199) hx hb d_Reckoner_subtract_173 (by decide) (fun c_22 => ?_) (fun c_22 => absurd c_22 (by decide))
        exact fg_retv (((n1 - o1) &&& ((((((n1 - o1) + n2) ^^^ ((n1 - o1) - o2)) ||| n2) ||| o2) ^^^ (-1))), (((((n1 - o1) + n2) ^^^ ((n1 - o1) - o2)) ||| n2) ||| o2), (n3 - o4), (n4 - o3), (-9223372036854775808), 9223372036854775807) hx hb hr hlocks (by unfold fn_sub; (repeat rw [if_neg gc_3]); (repeat rw [if_pos gc_14]); (repeat rw [if_pos gc_20]); try rfl) (hP.sub (ws' := [(h0, .inr (8, [.ref a1, .ref a2, .ref a3, .ref a4, .ref a5])), (a3, .inr (11, [.long ((n1 - o1) &&& ((((((n1 - o1) + n2) ^^^ ((n1 - o1) - o2)) ||| n2) ||| o2) ^^^ (-1))), .long (((((n1 - o1) + n2) ^^^ ((n1 - o1) - o2)) ||| n2) ||| o2), .long (n3 - o4), .long (n4 - o3), .long (-9223372036854775808), .long 9223372036854775807])), (h1, .inr (11, [.long n1, .long n2, .long n3, .long n4, .long n5, .long n6])), (h2, .inr (11, [.long o1, .long o2, .long o3, .long o4, .long o5, .long o6]))]) [0, 3, 1, 2] rfl) (hK.sub (tys' := []) [] rfl) (hD.sub (ws' := [(h0, .inr (8, [.ref a1, .ref a2, .ref a3, .ref a4, .ref a5])), (a3, .inr (11, [.long ((n1 - o1) &&& ((((((n1 - o1) + n2) ^^^ ((n1 - o1) - o2)) ||| n2) ||| o2) ^^^ (-1))), .long (((((n1 - o1) + n2) ^^^ ((n1 - o1) - o2)) ||| n2) ||| o2), .long (n3 - o4), .long (n4 - o3), .long (-9223372036854775808), .long 9223372036854775807])), (h1, .inr (11, [.long n1, .long n2, .long n3, .long n4, .long n5, .long n6])), (h2, .inr (11, [.long o1, .long o2, .long o3, .long o4, .long o5, .long o6]))]) [0, 3, 1, 2] (by decide) rfl) hS (Nat.le_of_ble_eq_true rfl) (Nat.le_of_ble_eq_true rfl) d_Reckoner_subtract_199
def rm_Reck_subtract_s : Room := { frames := 2, cells := 0, slots := 0, locals := 60 }
abbrev q_Reck_subtract_s (D : va_G) (h0 : Nat) (a1 : Nat) (a2 : Nat) (a3 : Nat) (a4 : Nat) (a5 : Nat) (h1 : Nat) (n1 : Int64) (n2 : Int64) (n3 : Int64) (n4 : Int64) (n5 : Int64) (n6 : Int64) (A : Nat → Prop) : Array Value → Jvm.State → Outcome → Jvm.State → Prop := va_Qv (fun (u : Int64 × Int64 × Int64 × Int64 × Int64 × Int64) => fn_sub n1 n2 n3 n4 n5 n6 n1 n2 n3 n4 n5 n6 = (u.1, u.2.1, u.2.2.1, u.2.2.2.1, u.2.2.2.2.1, u.2.2.2.2.2)) (fg_B D A (fun (u : Int64 × Int64 × Int64 × Int64 × Int64 × Int64) => [(h0, .inr (8, [.ref a1, .ref a2, .ref a3, .ref a4, .ref a5])), (a3, .inr (11, [.long u.1, .long u.2.1, .long u.2.2.1, .long u.2.2.2.1, .long u.2.2.2.2.1, .long u.2.2.2.2.2])), (h1, .inr (11, [.long n1, .long n2, .long n3, .long n4, .long n5, .long n6]))]) (fun (u : Int64 × Int64 × Int64 × Int64 × Int64 × Int64) => [])) A
set_option maxHeartbeats 4000000 in
set_option maxRecDepth 100000 in
theorem c_Reck_subtract_s (l : Launch) (D : va_G) (h0 : Nat) (a1 : Nat) (a2 : Nat) (a3 : Nat) (a4 : Nat) (a5 : Nat) (h1 : Nat) (n1 : Int64) (n2 : Int64) (n3 : Int64) (n4 : Int64) (n5 : Int64) (n6 : Int64) (sz : Nat) : Met l y_Reckoner_subtract (fg_w y_Reckoner_subtract prog_9_method_8_code 13 none) rm_Reck_subtract_s (va_Pc [.ref h0, .ref h1, .ref h1] (fg_P D [] [(h0, .inr (8, [.ref a1, .ref a2, .ref a3, .ref a4, .ref a5])), (a3, .inr (11, [.long 0, .long (-1), .long 0, .long (-1), .long (-9223372036854775808), .long 9223372036854775807])), (h1, .inr (11, [.long n1, .long n2, .long n3, .long n4, .long n5, .long n6]))] sz)) (q_Reck_subtract_s D h0 a1 a2 a3 a4 a5 h1 n1 n2 n3 n4 n5 n6 (va_A [(h0, .inr (8, [.ref a1, .ref a2, .ref a3, .ref a4, .ref a5])), (a3, .inr (11, [.long 0, .long (-1), .long 0, .long (-1), .long (-9223372036854775808), .long 9223372036854775807])), (h1, .inr (11, [.long n1, .long n2, .long n3, .long n4, .long n5, .long n6]))] sz)) rm_Reck_subtract_s.cells rm_Reck_subtract_s.slots (va_A [(h0, .inr (8, [.ref a1, .ref a2, .ref a3, .ref a4, .ref a5])), (a3, .inr (11, [.long 0, .long (-1), .long 0, .long (-1), .long (-9223372036854775808), .long 9223372036854775807])), (h1, .inr (11, [.long n1, .long n2, .long n3, .long n4, .long n5, .long n6]))] sz) := by
  refine fg_enter (fun A => q_Reck_subtract_s D h0 a1 a2 a3 a4 a5 h1 n1 n2 n3 n4 n5 n6 A) (by decide +kernel) (Nat.le_of_ble_eq_true rfl) ?_
  intro p e s m below meth c ls A hx hb hml hown hts hr hlocks hin hP hK hD hS hA hX hl
  have hl : lv_has ls 13 [(0, .ref h0), (1, .ref h1), (2, .ref h1)] := hl
  refine lv_aload_n hx hb d_Reckoner_subtract_0 rfl (lv_at hl 1 rfl) ?_
  refine va_get (D := D) (ci := 11) (v := .long n1) (C := "FilterGuard$Num") (T := F_Num) (N := 6) hx hb hts i_Num hown hK hP 2 rfl rfl 0 (by decide) (hts _ u_368) (fun _ h9 => h9) rfl d_Reckoner_subtract_1 ?_
  refine lv_aload_n hx hb d_Reckoner_subtract_4 rfl (lv_at hl 2 rfl) ?_
  refine va_get (D := D) (ci := 11) (v := .long n1) (C := "FilterGuard$Num") (T := F_Num) (N := 6) hx hb hts i_Num hown hK hP 2 rfl rfl 0 (by decide) (hts _ u_368) (fun _ h9 => h9) rfl d_Reckoner_subtract_5 ?_
  refine lv_lsub hx hb d_Reckoner_subtract_8 ?_
  refine lv_lstore_n (lv' := [(3, .long (n1 - n1)), (0, .ref h0), (1, .ref h1), (2, .ref h1)]) hx hb d_Reckoner_subtract_9 rfl hl (by decide) rfl (fun ls hl => ?_)
  refine lv_lload_n hx hb d_Reckoner_subtract_10 rfl (lv_at hl 0 rfl) ?_
  refine lv_aload_n hx hb d_Reckoner_subtract_11 rfl (lv_at hl 2 rfl) ?_
  refine va_get (D := D) (ci := 11) (v := .long n2) (C := "FilterGuard$Num") (T := F_Num) (N := 6) hx hb hts i_Num hown hK hP 2 rfl rfl 1 (by decide) (hts _ u_372) (fun _ h9 => h9) rfl d_Reckoner_subtract_12 ?_
  refine lv_ladd hx hb d_Reckoner_subtract_15 ?_
  refine lv_lload_n hx hb d_Reckoner_subtract_16 rfl (lv_at hl 0 rfl) ?_
  refine lv_aload_n hx hb d_Reckoner_subtract_17 rfl (lv_at hl 3 rfl) ?_
  refine va_get (D := D) (ci := 11) (v := .long n2) (C := "FilterGuard$Num") (T := F_Num) (N := 6) hx hb hts i_Num hown hK hP 2 rfl rfl 1 (by decide) (hts _ u_372) (fun _ h9 => h9) rfl d_Reckoner_subtract_18 ?_
  refine lv_lsub hx hb d_Reckoner_subtract_21 ?_
  refine lv_lxor hx hb d_Reckoner_subtract_22 ?_
  refine lv_aload_n hx hb d_Reckoner_subtract_23 rfl (lv_at hl 2 rfl) ?_
  refine va_get (D := D) (ci := 11) (v := .long n2) (C := "FilterGuard$Num") (T := F_Num) (N := 6) hx hb hts i_Num hown hK hP 2 rfl rfl 1 (by decide) (hts _ u_372) (fun _ h9 => h9) rfl d_Reckoner_subtract_24 ?_
  refine lv_lor hx hb d_Reckoner_subtract_27 ?_
  refine lv_aload_n hx hb d_Reckoner_subtract_28 rfl (lv_at hl 3 rfl) ?_
  refine va_get (D := D) (ci := 11) (v := .long n2) (C := "FilterGuard$Num") (T := F_Num) (N := 6) hx hb hts i_Num hown hK hP 2 rfl rfl 1 (by decide) (hts _ u_372) (fun _ h9 => h9) rfl d_Reckoner_subtract_29 ?_
  refine lv_lor hx hb d_Reckoner_subtract_32 ?_
  refine lv_lstore (lv' := [(5, .long (((((n1 - n1) + n2) ^^^ ((n1 - n1) - n2)) ||| n2) ||| n2)), (3, .long (n1 - n1)), (0, .ref h0), (1, .ref h1), (2, .ref h1)]) hx hb d_Reckoner_subtract_33 hl (by decide) rfl (fun ls hl => ?_)
  refine lv_aload_n hx hb d_Reckoner_subtract_35 rfl (lv_at hl 2 rfl) ?_
  refine va_get (D := D) (ci := 8) (v := .ref a3) (C := "FilterGuard$Reckoner") (T := F_Reckoner) (N := 5) hx hb hts i_Reckoner hown hK hP 0 rfl rfl 2 (by decide) (hts _ u_398) (fun _ h9 => h9) rfl d_Reckoner_subtract_36 ?_
  refine lv_lload_n hx hb d_Reckoner_subtract_39 rfl (lv_at hl 1 rfl) ?_
  refine lv_lload hx hb d_Reckoner_subtract_40 (lv_at hl 0 rfl) ?_
  refine lv_ldc2 hx hb hown (hts _ u_1139) d_Reckoner_subtract_42 ?_
  refine lv_lxor hx hb d_Reckoner_subtract_45 ?_
  refine lv_land hx hb d_Reckoner_subtract_46 ?_
  refine lv_lload hx hb d_Reckoner_subtract_47 (lv_at hl 0 rfl) ?_
  refine fg_thenv (wr := [(h0, .inr (8, [.ref a1, .ref a2, .ref a3, .ref a4, .ref a5])), (h1, .inr (11, [.long n1, .long n2, .long n3, .long n4, .long n5, .long n6]))]) (fg_runV (C := "FilterGuard$Num") (As := [.long ((n1 - n1) &&& ((((((n1 - n1) + n2) ^^^ ((n1 - n1) - n2)) ||| n2) ||| n2) ^^^ (-1))), .long (((((n1 - n1) + n2) ^^^ ((n1 - n1) - n2)) ||| n2) ||| n2)]) (rest := []) (ci := 11) (q0 := 0) ⟨hx, hb, hml, hown, hts⟩ (c_Num_bits l D a3 0 (-1) 0 (-1) (-9223372036854775808) 9223372036854775807 ((n1 - n1) &&& ((((((n1 - n1) + n2) ^^^ ((n1 - n1) - n2)) ||| n2) ||| n2) ^^^ (-1))) (((((n1 - n1) + n2) ^^^ ((n1 - n1) - n2)) ||| n2) ||| n2) s.heap.size) rfl (by show fg_nm y_Num_bits 2; decide +kernel) u_1140 u_1141 u_1142 u_187 u_1143 ⟨Nat.le_of_ble_eq_true rfl, Nat.le_of_ble_eq_true rfl⟩ hX (hP.sub (ws' := [(a3, .inr (11, [.long 0, .long (-1), .long 0, .long (-1), .long (-9223372036854775808), .long 9223372036854775807]))]) [1] rfl) (hK.sub (tys' := []) [] rfl) (hD.sub (ws' := [(a3, .inr (11, [.long 0, .long (-1), .long 0, .long (-1), .long (-9223372036854775808), .long 9223372036854775807]))]) [1] (by decide) rfl) rfl rfl rfl rfl hl.1 (Nat.le_of_ble_eq_true rfl) d_Reckoner_subtract_49 ⟨(Nat.le_of_ble_eq_true rfl), (Nat.le_of_ble_eq_true rfl)⟩) hP hD hK hS hA [1] [0, 2] rfl rfl (by decide) (by decide) (fun  u H locs hw49_0 hP hD hK hS => ?_)
  try dsimp only at hw49_0
  have hP : va_P D classes [(h0, .inr (8, [.ref a1, .ref a2, .ref a3, .ref a4, .ref a5])), (h1, .inr (11, [.long n1, .long n2, .long n3, .long n4, .long n5, .long n6])), (a3, .inr (11, [.long ((n1 - n1) &&& ((((((n1 - n1) + n2) ^^^ ((n1 - n1) - n2)) ||| n2) ||| n2) ^^^ (-1))), .long (((((n1 - n1) + n2) ^^^ ((n1 - n1) - n2)) ||| n2) ||| n2), .long 0, .long (-1), .long (-9223372036854775808), .long 9223372036854775807]))] H := hP
  have hD : va_D A [(h0, .inr (8, [.ref a1, .ref a2, .ref a3, .ref a4, .ref a5])), (h1, .inr (11, [.long n1, .long n2, .long n3, .long n4, .long n5, .long n6])), (a3, .inr (11, [.long ((n1 - n1) &&& ((((((n1 - n1) + n2) ^^^ ((n1 - n1) - n2)) ||| n2) ||| n2) ^^^ (-1))), .long (((((n1 - n1) + n2) ^^^ ((n1 - n1) - n2)) ||| n2) ||| n2), .long 0, .long (-1), .long (-9223372036854775808), .long 9223372036854775807]))] := hD
  have hK : va_K D classes [] s := hK
  refine W.widen (k := 0) (n := 0) (Nat.le_of_ble_eq_true rfl) (Nat.le_of_ble_eq_true rfl) ?_
  refine lv_aload_n hx hb d_Reckoner_subtract_52 rfl (lv_at hl 3 rfl) ?_
  refine va_get (D := D) (ci := 11) (v := .long n3) (C := "FilterGuard$Num") (T := F_Num) (N := 6) hx hb hts i_Num hown hK hP 1 rfl rfl 2 (by decide) (hts _ u_374) (fun _ h9 => h9) rfl d_Reckoner_subtract_53 ?_
  refine lv_aload_n hx hb d_Reckoner_subtract_56 rfl (lv_at hl 4 rfl) ?_
  refine va_get (D := D) (ci := 11) (v := .long n4) (C := "FilterGuard$Num") (T := F_Num) (N := 6) hx hb hts i_Num hown hK hP 1 rfl rfl 3 (by decide) (hts _ u_377) (fun _ h9 => h9) rfl d_Reckoner_subtract_57 ?_
  refine fg_theni (wr := [(h0, .inr (8, [.ref a1, .ref a2, .ref a3, .ref a4, .ref a5])), (h1, .inr (11, [.long n1, .long n2, .long n3, .long n4, .long n5, .long n6])), (a3, .inr (11, [.long ((n1 - n1) &&& ((((((n1 - n1) + n2) ^^^ ((n1 - n1) - n2)) ||| n2) ||| n2) ^^^ (-1))), .long (((((n1 - n1) + n2) ^^^ ((n1 - n1) - n2)) ||| n2) ||| n2), .long 0, .long (-1), .long (-9223372036854775808), .long 9223372036854775807]))]) (fg_runS (As := [.long n3, .long n4]) (rest := []) ⟨hx, hb, hml, hown, hts⟩ (c_Num_isBelow l D n3 n4 H.size) (by show fg_nm y_Num_isBelow 2; decide +kernel) u_1144 u_1063 u_187 u_1064 ⟨Nat.le_of_ble_eq_true rfl, Nat.le_of_ble_eq_true rfl⟩ hX (hP.sub (ws' := []) [] rfl) (hK.sub (tys' := []) [] rfl) (hD.sub (ws' := []) [] (by decide) rfl) rfl hl.1 (Nat.le_of_ble_eq_true rfl) d_Reckoner_subtract_60 ⟨(Nat.le_of_ble_eq_true rfl), (Nat.le_of_ble_eq_true rfl)⟩) hP hD hK hS hA [] [0, 1, 2] rfl rfl (by decide) (by decide) (fun r60_2 u H locs hw60_1 hP hD hK hS => ?_)
  try dsimp only at hw60_1
  have hP : va_P D classes [(h0, .inr (8, [.ref a1, .ref a2, .ref a3, .ref a4, .ref a5])), (h1, .inr (11, [.long n1, .long n2, .long n3, .long n4, .long n5, .long n6])), (a3, .inr (11, [.long ((n1 - n1) &&& ((((((n1 - n1) + n2) ^^^ ((n1 - n1) - n2)) ||| n2) ||| n2) ^^^ (-1))), .long (((((n1 - n1) + n2) ^^^ ((n1 - n1) - n2)) ||| n2) ||| n2), .long 0, .long (-1), .long (-9223372036854775808), .long 9223372036854775807]))] H := hP
  have hD : va_D A [(h0, .inr (8, [.ref a1, .ref a2, .ref a3, .ref a4, .ref a5])), (h1, .inr (11, [.long n1, .long n2, .long n3, .long n4, .long n5, .long n6])), (a3, .inr (11, [.long ((n1 - n1) &&& ((((((n1 - n1) + n2) ^^^ ((n1 - n1) - n2)) ||| n2) ||| n2) ^^^ (-1))), .long (((((n1 - n1) + n2) ^^^ ((n1 - n1) - n2)) ||| n2) ||| n2), .long 0, .long (-1), .long (-9223372036854775808), .long 9223372036854775807]))] := hD
  have hK : va_K D classes [] s := hK
  refine W.widen (k := 0) (n := 0) (Nat.le_of_ble_eq_true rfl) (Nat.le_of_ble_eq_true rfl) ?_
  refine lv_if_ne (tgt := 91) hx hb d_Reckoner_subtract_63 (by decide) (fun c_3 => ?_) (fun c_3 => ?_)
  · have gc_3 : (fn_lt n3 n4) := fg_ifnz hw60_1 c_3
    refine lv_aload_n hx hb d_Reckoner_subtract_91 rfl (lv_at hl 3 rfl) ?_
    refine va_get (D := D) (ci := 11) (v := .long n5) (C := "FilterGuard$Num") (T := F_Num) (N := 6) hx hb hts i_Num hown hK hP 1 rfl rfl 4 (by decide) (hts _ u_380) (fun _ h9 => h9) rfl d_Reckoner_subtract_92 ?_
    refine lv_aload_n hx hb d_Reckoner_subtract_95 rfl (lv_at hl 4 rfl) ?_
    refine va_get (D := D) (ci := 11) (v := .long n6) (C := "FilterGuard$Num") (T := F_Num) (N := 6) hx hb hts i_Num hown hK hP 1 rfl rfl 5 (by decide) (hts _ u_382) (fun _ h9 => h9) rfl d_Reckoner_subtract_96 ?_
    refine lv_lsub hx hb d_Reckoner_subtract_99 ?_
    refine lv_lstore (lv' := [(7, .long (n5 - n6)), (5, .long (((((n1 - n1) + n2) ^^^ ((n1 - n1) - n2)) ||| n2) ||| n2)), (3, .long (n1 - n1)), (0, .ref h0), (1, .ref h1), (2, .ref h1)]) hx hb d_Reckoner_subtract_100 hl (by decide) rfl (fun ls hl => ?_)
    refine lv_aload_n hx hb d_Reckoner_subtract_102 rfl (lv_at hl 4 rfl) ?_
    refine va_get (D := D) (ci := 11) (v := .long n6) (C := "FilterGuard$Num") (T := F_Num) (N := 6) hx hb hts i_Num hown hK hP 1 rfl rfl 5 (by decide) (hts _ u_382) (fun _ h9 => h9) rfl d_Reckoner_subtract_103 ?_
    refine lv_aload_n hx hb d_Reckoner_subtract_106 rfl (lv_at hl 5 rfl) ?_
    refine va_get (D := D) (ci := 11) (v := .long n5) (C := "FilterGuard$Num") (T := F_Num) (N := 6) hx hb hts i_Num hown hK hP 1 rfl rfl 4 (by decide) (hts _ u_380) (fun _ h9 => h9) rfl d_Reckoner_subtract_107 ?_
    refine lv_lsub hx hb d_Reckoner_subtract_110 ?_
    refine lv_lstore (lv' := [(9, .long (n6 - n5)), (7, .long (n5 - n6)), (5, .long (((((n1 - n1) + n2) ^^^ ((n1 - n1) - n2)) ||| n2) ||| n2)), (3, .long (n1 - n1)), (0, .ref h0), (1, .ref h1), (2, .ref h1)]) hx hb d_Reckoner_subtract_111 hl (by decide) rfl (fun ls hl => ?_)
    refine lv_aload_n hx hb d_Reckoner_subtract_113 rfl (lv_at hl 5 rfl) ?_
    refine va_get (D := D) (ci := 11) (v := .long n5) (C := "FilterGuard$Num") (T := F_Num) (N := 6) hx hb hts i_Num hown hK hP 1 rfl rfl 4 (by decide) (hts _ u_380) (fun _ h9 => h9) rfl d_Reckoner_subtract_114 ?_
    refine lv_aload_n hx hb d_Reckoner_subtract_117 rfl (lv_at hl 6 rfl) ?_
    refine va_get (D := D) (ci := 11) (v := .long n6) (C := "FilterGuard$Num") (T := F_Num) (N := 6) hx hb hts i_Num hown hK hP 1 rfl rfl 5 (by decide) (hts _ u_382) (fun _ h9 => h9) rfl d_Reckoner_subtract_118 ?_
    refine lv_lxor hx hb d_Reckoner_subtract_121 ?_
    refine lv_aload_n hx hb d_Reckoner_subtract_122 rfl (lv_at hl 5 rfl) ?_
    refine va_get (D := D) (ci := 11) (v := .long n5) (C := "FilterGuard$Num") (T := F_Num) (N := 6) hx hb hts i_Num hown hK hP 1 rfl rfl 4 (by decide) (hts _ u_380) (fun _ h9 => h9) rfl d_Reckoner_subtract_123 ?_
    refine lv_lload hx hb d_Reckoner_subtract_126 (lv_at hl 1 rfl) ?_
    refine lv_lxor hx hb d_Reckoner_subtract_128 ?_
    refine lv_land hx hb d_Reckoner_subtract_129 ?_
    refine lv_lconst (v := 0) hx hb d_Reckoner_subtract_130 (by decide) ?_
    refine W.lcmp hx hb d_Reckoner_subtract_131 ?_
    refine lv_if_ge (tgt := 139) hx hb d_Reckoner_subtract_132 (by decide) (fun c_4 => ?_) (fun c_4 => ?_)
    · have gc_4 : ¬ ((n5 ^^^ n6) &&& (n5 ^^^ (n5 - n6))) < 0 := Int64.not_lt.mpr ((lg_cmp_ge _ _).mp c_4)
      refine lv_iconst (v := 0) hx hb d_Reckoner_subtract_139 (by decide) ?_
      refine lv_istore (lv' := [(11, .int 0), (9, .long (n6 - n5)), (7, .long (n5 - n6)), (5, .long (((((n1 - n1) + n2) ^^^ ((n1 - n1) - n2)) ||| n2) ||| n2)), (3, .long (n1 - n1)), (0, .ref h0), (1, .ref h1), (2, .ref h1)]) hx hb d_Reckoner_subtract_140 hl (by decide) rfl (fun ls hl => ?_)
      refine lv_aload_n hx hb d_Reckoner_subtract_142 rfl (lv_at hl 6 rfl) ?_
      refine va_get (D := D) (ci := 11) (v := .long n6) (C := "FilterGuard$Num") (T := F_Num) (N := 6) hx hb hts i_Num hown hK hP 1 rfl rfl 5 (by decide) (hts _ u_382) (fun _ h9 => h9) rfl d_Reckoner_subtract_143 ?_
      refine lv_aload_n hx hb d_Reckoner_subtract_146 rfl (lv_at hl 7 rfl) ?_
      refine va_get (D := D) (ci := 11) (v := .long n5) (C := "FilterGuard$Num") (T := F_Num) (N := 6) hx hb hts i_Num hown hK hP 1 rfl rfl 4 (by decide) (hts _ u_380) (fun _ h9 => h9) rfl d_Reckoner_subtract_147 ?_
      refine lv_lxor hx hb d_Reckoner_subtract_150 ?_
      refine lv_aload_n hx hb d_Reckoner_subtract_151 rfl (lv_at hl 6 rfl) ?_
      refine va_get (D := D) (ci := 11) (v := .long n6) (C := "FilterGuard$Num") (T := F_Num) (N := 6) hx hb hts i_Num hown hK hP 1 rfl rfl 5 (by decide) (hts _ u_382) (fun _ h9 => h9) rfl d_Reckoner_subtract_152 ?_
      refine lv_lload hx hb d_Reckoner_subtract_155 (lv_at hl 1 rfl) ?_
      refine lv_lxor hx hb d_Reckoner_subtract_157 ?_
      refine lv_land hx hb d_Reckoner_subtract_158 ?_
      refine lv_lconst (v := 0) hx hb d_Reckoner_subtract_159 (by decide) ?_
      refine W.lcmp hx hb d_Reckoner_subtract_160 ?_
      refine lv_if_ge (tgt := 168) hx hb d_Reckoner_subtract_161 (by decide) (fun c_5 => ?_) (fun c_5 => ?_)
      · have gc_5 : ¬ ((n6 ^^^ n5) &&& (n6 ^^^ (n6 - n5))) < 0 := Int64.not_lt.mpr ((lg_cmp_ge _ _).mp c_5)
        refine lv_iconst (v := 0) hx hb d_Reckoner_subtract_168 (by decide) ?_
        refine lv_istore (lv' := [(12, .int 0), (11, .int 0), (9, .long (n6 - n5)), (7, .long (n5 - n6)), (5, .long (((((n1 - n1) + n2) ^^^ ((n1 - n1) - n2)) ||| n2) ||| n2)), (3, .long (n1 - n1)), (0, .ref h0), (1, .ref h1), (2, .ref h1)]) hx hb d_Reckoner_subtract_169 hl (by decide) rfl (fun ls hl => ?_)
        refine lv_iload hx hb d_Reckoner_subtract_171 (lv_at hl 1 rfl) ?_
        refine lv_if_ne (tgt := 199) hx hb d_Reckoner_subtract_173 (by decide) (fun c_6 => absurd (by decide) c_6) (fun c_6 => ?_)
        refine lv_iload hx hb d_Reckoner_subtract_176 (lv_at hl 0 rfl) ?_
        refine lv_if_ne (tgt := 199) hx hb d_Reckoner_subtract_178 (by decide) (fun c_7 => absurd (by decide) c_7) (fun c_7 => ?_)
        refine lv_aload_n hx hb d_Reckoner_subtract_181 rfl (lv_at hl 6 rfl) ?_
        refine va_get (D := D) (ci := 8) (v := .ref a3) (C := "FilterGuard$Reckoner") (T := F_Reckoner) (N := 5) hx hb hts i_Reckoner hown hK hP 0 rfl rfl 2 (by decide) (hts _ u_398) (fun _ h9 => h9) rfl d_Reckoner_subtract_182 ?_
        refine lv_lload hx hb d_Reckoner_subtract_185 (lv_at hl 3 rfl) ?_
        refine va_put (D := D) (ci := 11) (v := .long (n5 - n6)) (ty := .long) (C := "FilterGuard$Num") (T := F_Num) (N := 6) hx hb hts i_Num t_Num t_Num_ok n_Num hown hK hP hD hS 2 rfl rfl 4 (by decide) (hts _ u_380) (fun _ h9 => h9) rfl (by decide +kernel) rfl rfl (Nat.le_of_ble_eq_true rfl) d_Reckoner_subtract_187 (fun H locs hP hD hS => ?_)
        have hP : va_P D classes [(h0, .inr (8, [.ref a1, .ref a2, .ref a3, .ref a4, .ref a5])), (h1, .inr (11, [.long n1, .long n2, .long n3, .long n4, .long n5, .long n6])), (a3, .inr (11, [.long ((n1 - n1) &&& ((((((n1 - n1) + n2) ^^^ ((n1 - n1) - n2)) ||| n2) ||| n2) ^^^ (-1))), .long (((((n1 - n1) + n2) ^^^ ((n1 - n1) - n2)) ||| n2) ||| n2), .long 0, .long (-1), .long (n5 - n6), .long 9223372036854775807]))] H := hP
        have hD : va_D A [(h0, .inr (8, [.ref a1, .ref a2, .ref a3, .ref a4, .ref a5])), (h1, .inr (11, [.long n1, .long n2, .long n3, .long n4, .long n5, .long n6])), (a3, .inr (11, [.long ((n1 - n1) &&& ((((((n1 - n1) + n2) ^^^ ((n1 - n1) - n2)) ||| n2) ||| n2) ^^^ (-1))), .long (((((n1 - n1) + n2) ^^^ ((n1 - n1) - n2)) ||| n2) ||| n2), .long 0, .long (-1), .long (n5 - n6), .long 9223372036854775807]))] := hD
        refine lv_aload_n hx hb d_Reckoner_subtract_190 rfl (lv_at hl 6 rfl) ?_
        refine va_get (D := D) (ci := 8) (v := .ref a3) (C := "FilterGuard$Reckoner") (T := F_Reckoner) (N := 5) hx hb hts i_Reckoner hown hK hP 0 rfl rfl 2 (by decide) (hts _ u_398) (fun _ h9 => h9) rfl d_Reckoner_subtract_191 ?_
        refine lv_lload hx hb d_Reckoner_subtract_194 (lv_at hl 2 rfl) ?_
        refine va_put (D := D) (ci := 11) (v := .long (n6 - n5)) (ty := .long) (C := "FilterGuard$Num") (T := F_Num) (N := 6) hx hb hts i_Num t_Num t_Num_ok n_Num hown hK hP hD hS 2 rfl rfl 5 (by decide) (hts _ u_382) (fun _ h9 => h9) rfl (by decide +kernel) rfl rfl (Nat.le_of_ble_eq_true rfl) d_Reckoner_subtract_196 (fun H locs hP hD hS => ?_)
        have hP : va_P D classes [(h0, .inr (8, [.ref a1, .ref a2, .ref a3, .ref a4, .ref a5])), (h1, .inr (11, [.long n1, .long n2, .long n3, .long n4, .long n5, .long n6])), (a3, .inr (11, [.long ((n1 - n1) &&& ((((((n1 - n1) + n2) ^^^ ((n1 - n1) - n2)) ||| n2) ||| n2) ^^^ (-1))), .long (((((n1 - n1) + n2) ^^^ ((n1 - n1) - n2)) ||| n2) ||| n2), .long 0, .long (-1), .long (n5 - n6), .long (n6 - n5)]))] H := hP
        have hD : va_D A [(h0, .inr (8, [.ref a1, .ref a2, .ref a3, .ref a4, .ref a5])), (h1, .inr (11, [.long n1, .long n2, .long n3, .long n4, .long n5, .long n6])), (a3, .inr (11, [.long ((n1 - n1) &&& ((((((n1 - n1) + n2) ^^^ ((n1 - n1) - n2)) ||| n2) ||| n2) ^^^ (-1))), .long (((((n1 - n1) + n2) ^^^ ((n1 - n1) - n2)) ||| n2) ||| n2), .long 0, .long (-1), .long (n5 - n6), .long (n6 - n5)]))] := hD
        exact fg_retv (((n1 - n1) &&& ((((((n1 - n1) + n2) ^^^ ((n1 - n1) - n2)) ||| n2) ||| n2) ^^^ (-1))), (((((n1 - n1) + n2) ^^^ ((n1 - n1) - n2)) ||| n2) ||| n2), 0, (-1), n5 - n6, n6 - n5) hx hb hr hlocks (by unfold fn_sub; (repeat rw [if_pos gc_3]); (repeat rw [if_neg gc_4]); (repeat rw [if_neg gc_5]); try rfl) (hP.sub (ws' := [(h0, .inr (8, [.ref a1, .ref a2, .ref a3, .ref a4, .ref a5])), (a3, .inr (11, [.long ((n1 - n1) &&& ((((((n1 - n1) + n2) ^^^ ((n1 - n1) - n2)) ||| n2) ||| n2) ^^^ (-1))), .long (((((n1 - n1) + n2) ^^^ ((n1 - n1) - n2)) ||| n2) ||| n2), .long 0, .long (-1), .long (n5 - n6), .long (n6 - n5)])), (h1, .inr (11, [.long n1, .long n2, .long n3, .long n4, .long n5, .long n6]))]) [0, 2, 1] rfl) (hK.sub (tys' := []) [] rfl) (hD.sub (ws' := [(h0, .inr (8, [.ref a1, .ref a2, .ref a3, .ref a4, .ref a5])), (a3, .inr (11, [.long ((n1 - n1) &&& ((((((n1 - n1) + n2) ^^^ ((n1 - n1) - n2)) ||| n2) ||| n2) ^^^ (-1))), .long (((((n1 - n1) + n2) ^^^ ((n1 - n1) - n2)) ||| n2) ||| n2), .long 0, .long (-1), .long (n5 - n6), .long (n6 - n5)])), (h1, .inr (11, [.long n1, .long n2, .long n3, .long n4, .long n5, .long n6]))]) [0, 2, 1] (by decide) rfl) hS (Nat.le_of_ble_eq_true rfl) (Nat.le_of_ble_eq_true rfl) d_Reckoner_subtract_199
      · have gc_5 : ((n6 ^^^ n5) &&& (n6 ^^^ (n6 - n5))) < 0 := Int64.not_le.mp (fun z => c_5 ((lg_cmp_ge _ _).mpr z))
        refine lv_iconst (v := 1) hx hb d_Reckoner_subtract_164 (by decide) ?_
        refine lv_goto (tgt := 169) hx hb d_Reckoner_subtract_165 (by decide) ?_
        refine lv_istore (lv' := [(12, .int 1), (11, .int 0), (9, .long (n6 - n5)), (7, .long (n5 - n6)), (5, .long (((((n1 - n1) + n2) ^^^ ((n1 - n1) - n2)) ||| n2) ||| n2)), (3, .long (n1 - n1)), (0, .ref h0), (1, .ref h1), (2, .ref h1)]) hx hb d_Reckoner_subtract_169 hl (by decide) rfl (fun ls hl => ?_)
        refine lv_iload hx hb d_Reckoner_subtract_171 (lv_at hl 1 rfl) ?_
        refine lv_if_ne (tgt := 199) hx hb d_Reckoner_subtract_173 (by decide) (fun c_8 => absurd (by decide) c_8) (fun c_8 => ?_)
        refine lv_iload hx hb d_Reckoner_subtract_176 (lv_at hl 0 rfl) ?_
        refine lv_if_ne (tgt := 199) hx hb d_Reckoner_subtract_178 (by decide) (fun c_9 => ?_) (fun c_9 => absurd c_9 (by decide))
        exact fg_retv (((n1 - n1) &&& ((((((n1 - n1) + n2) ^^^ ((n1 - n1) - n2)) ||| n2) ||| n2) ^^^ (-1))), (((((n1 - n1) + n2) ^^^ ((n1 - n1) - n2)) ||| n2) ||| n2), 0, (-1), (-9223372036854775808), 9223372036854775807) hx hb hr hlocks (by unfold fn_sub; (repeat rw [if_pos gc_3]); (repeat rw [if_neg gc_4]); (repeat rw [if_pos gc_5]); try rfl) (hP.sub (ws' := [(h0, .inr (8, [.ref a1, .ref a2, .ref a3, .ref a4, .ref a5])), (a3, .inr (11, [.long ((n1 - n1) &&& ((((((n1 - n1) + n2) ^^^ ((n1 - n1) - n2)) ||| n2) ||| n2) ^^^ (-1))), .long (((((n1 - n1) + n2) ^^^ ((n1 - n1) - n2)) ||| n2) ||| n2), .long 0, .long (-1), .long (-9223372036854775808), .long 9223372036854775807])), (h1, .inr (11, [.long n1, .long n2, .long n3, .long n4, .long n5, .long n6]))]) [0, 2, 1] rfl) (hK.sub (tys' := []) [] rfl) (hD.sub (ws' := [(h0, .inr (8, [.ref a1, .ref a2, .ref a3, .ref a4, .ref a5])), (a3, .inr (11, [.long ((n1 - n1) &&& ((((((n1 - n1) + n2) ^^^ ((n1 - n1) - n2)) ||| n2) ||| n2) ^^^ (-1))), .long (((((n1 - n1) + n2) ^^^ ((n1 - n1) - n2)) ||| n2) ||| n2), .long 0, .long (-1), .long (-9223372036854775808), .long 9223372036854775807])), (h1, .inr (11, [.long n1, .long n2, .long n3, .long n4, .long n5, .long n6]))]) [0, 2, 1] (by decide) rfl) hS (Nat.le_of_ble_eq_true rfl) (Nat.le_of_ble_eq_true rfl) d_Reckoner_subtract_199
    · have gc_4 : ((n5 ^^^ n6) &&& (n5 ^^^ (n5 - n6))) < 0 := Int64.not_le.mp (fun z => c_4 ((lg_cmp_ge _ _).mpr z))
      refine lv_iconst (v := 1) hx hb d_Reckoner_subtract_135 (by decide) ?_
      refine lv_goto (tgt := 140) hx hb d_Reckoner_subtract_136 (by decide) ?_
      refine lv_istore (lv' := [(11, .int 1), (9, .long (n6 - n5)), (7, .long (n5 - n6)), (5, .long (((((n1 - n1) + n2) ^^^ ((n1 - n1) - n2)) ||| n2) ||| n2)), (3, .long (n1 - n1)), (0, .ref h0), (1, .ref h1), (2, .ref h1)]) hx hb d_Reckoner_subtract_140 hl (by decide) rfl (fun ls hl => ?_)
      refine lv_aload_n hx hb d_Reckoner_subtract_142 rfl (lv_at hl 6 rfl) ?_
      refine va_get (D := D) (ci := 11) (v := .long n6) (C := "FilterGuard$Num") (T := F_Num) (N := 6) hx hb hts i_Num hown hK hP 1 rfl rfl 5 (by decide) (hts _ u_382) (fun _ h9 => h9) rfl d_Reckoner_subtract_143 ?_
      refine lv_aload_n hx hb d_Reckoner_subtract_146 rfl (lv_at hl 7 rfl) ?_
      refine va_get (D := D) (ci := 11) (v := .long n5) (C := "FilterGuard$Num") (T := F_Num) (N := 6) hx hb hts i_Num hown hK hP 1 rfl rfl 4 (by decide) (hts _ u_380) (fun _ h9 => h9) rfl d_Reckoner_subtract_147 ?_
      refine lv_lxor hx hb d_Reckoner_subtract_150 ?_
      refine lv_aload_n hx hb d_Reckoner_subtract_151 rfl (lv_at hl 6 rfl) ?_
      refine va_get (D := D) (ci := 11) (v := .long n6) (C := "FilterGuard$Num") (T := F_Num) (N := 6) hx hb hts i_Num hown hK hP 1 rfl rfl 5 (by decide) (hts _ u_382) (fun _ h9 => h9) rfl d_Reckoner_subtract_152 ?_
      refine lv_lload hx hb d_Reckoner_subtract_155 (lv_at hl 1 rfl) ?_
      refine lv_lxor hx hb d_Reckoner_subtract_157 ?_
      refine lv_land hx hb d_Reckoner_subtract_158 ?_
      refine lv_lconst (v := 0) hx hb d_Reckoner_subtract_159 (by decide) ?_
      refine W.lcmp hx hb d_Reckoner_subtract_160 ?_
      refine lv_if_ge (tgt := 168) hx hb d_Reckoner_subtract_161 (by decide) (fun c_10 => ?_) (fun c_10 => ?_)
      · have gc_10 : ¬ ((n6 ^^^ n5) &&& (n6 ^^^ (n6 - n5))) < 0 := Int64.not_lt.mpr ((lg_cmp_ge _ _).mp c_10)
        refine lv_iconst (v := 0) hx hb d_Reckoner_subtract_168 (by decide) ?_
        refine lv_istore (lv' := [(12, .int 0), (11, .int 1), (9, .long (n6 - n5)), (7, .long (n5 - n6)), (5, .long (((((n1 - n1) + n2) ^^^ ((n1 - n1) - n2)) ||| n2) ||| n2)), (3, .long (n1 - n1)), (0, .ref h0), (1, .ref h1), (2, .ref h1)]) hx hb d_Reckoner_subtract_169 hl (by decide) rfl (fun ls hl => ?_)
        refine lv_iload hx hb d_Reckoner_subtract_171 (lv_at hl 1 rfl) ?_
        refine lv_if_ne (tgt := 199) hx hb d_Reckoner_subtract_173 (by decide) (fun c_11 => ?_) (fun c_11 => absurd c_11 (by decide))
        exact fg_retv (((n1 - n1) &&& ((((((n1 - n1) + n2) ^^^ ((n1 - n1) - n2)) ||| n2) ||| n2) ^^^ (-1))), (((((n1 - n1) + n2) ^^^ ((n1 - n1) - n2)) ||| n2) ||| n2), 0, (-1), (-9223372036854775808), 9223372036854775807) hx hb hr hlocks (by unfold fn_sub; (repeat rw [if_pos gc_3]); (repeat rw [if_pos gc_4]); (repeat rw [if_neg gc_10]); try rfl) (hP.sub (ws' := [(h0, .inr (8, [.ref a1, .ref a2, .ref a3, .ref a4, .ref a5])), (a3, .inr (11, [.long ((n1 - n1) &&& ((((((n1 - n1) + n2) ^^^ ((n1 - n1) - n2)) ||| n2) ||| n2) ^^^ (-1))), .long (((((n1 - n1) + n2) ^^^ ((n1 - n1) - n2)) ||| n2) ||| n2), .long 0, .long (-1), .long (-9223372036854775808), .long 9223372036854775807])), (h1, .inr (11, [.long n1, .long n2, .long n3, .long n4, .long n5, .long n6]))]) [0, 2, 1] rfl) (hK.sub (tys' := []) [] rfl) (hD.sub (ws' := [(h0, .inr (8, [.ref a1, .ref a2, .ref a3, .ref a4, .ref a5])), (a3, .inr (11, [.long ((n1 - n1) &&& ((((((n1 - n1) + n2) ^^^ ((n1 - n1) - n2)) ||| n2) ||| n2) ^^^ (-1))), .long (((((n1 - n1) + n2) ^^^ ((n1 - n1) - n2)) ||| n2) ||| n2), .long 0, .long (-1), .long (-9223372036854775808), .long 9223372036854775807])), (h1, .inr (11, [.long n1, .long n2, .long n3, .long n4, .long n5, .long n6]))]) [0, 2, 1] (by decide) rfl) hS (Nat.le_of_ble_eq_true rfl) (Nat.le_of_ble_eq_true rfl) d_Reckoner_subtract_199
      · have gc_10 : ((n6 ^^^ n5) &&& (n6 ^^^ (n6 - n5))) < 0 := Int64.not_le.mp (fun z => c_10 ((lg_cmp_ge _ _).mpr z))
        refine lv_iconst (v := 1) hx hb d_Reckoner_subtract_164 (by decide) ?_
        refine lv_goto (tgt := 169) hx hb d_Reckoner_subtract_165 (by decide) ?_
        refine lv_istore (lv' := [(12, .int 1), (11, .int 1), (9, .long (n6 - n5)), (7, .long (n5 - n6)), (5, .long (((((n1 - n1) + n2) ^^^ ((n1 - n1) - n2)) ||| n2) ||| n2)), (3, .long (n1 - n1)), (0, .ref h0), (1, .ref h1), (2, .ref h1)]) hx hb d_Reckoner_subtract_169 hl (by decide) rfl (fun ls hl => ?_)
        refine lv_iload hx hb d_Reckoner_subtract_171 (lv_at hl 1 rfl) ?_
        refine lv_if_ne (tgt := 199) hx hb d_Reckoner_subtract_173 (by decide) (fun c_12 => ?_) (fun c_12 => absurd c_12 (by decide))
        exact fg_retv (((n1 - n1) &&& ((((((n1 - n1) + n2) ^^^ ((n1 - n1) - n2)) ||| n2) ||| n2) ^^^ (-1))), (((((n1 - n1) + n2) ^^^ ((n1 - n1) - n2)) ||| n2) ||| n2), 0, (-1), (-9223372036854775808), 9223372036854775807) hx hb hr hlocks (by unfold fn_sub; (repeat rw [if_pos gc_3]); (repeat rw [if_pos gc_4]); (repeat rw [if_pos gc_10]); try rfl) (hP.sub (ws' := [(h0, .inr (8, [.ref a1, .ref a2, .ref a3, .ref a4, .ref a5])), (a3, .inr (11, [.long ((n1 - n1) &&& ((((((n1 - n1) + n2) ^^^ ((n1 - n1) - n2)) ||| n2) ||| n2) ^^^ (-1))), .long (((((n1 - n1) + n2) ^^^ ((n1 - n1) - n2)) ||| n2) ||| n2), .long 0, .long (-1), .long (-9223372036854775808), .long 9223372036854775807])), (h1, .inr (11, [.long n1, .long n2, .long n3, .long n4, .long n5, .long n6]))]) [0, 2, 1] rfl) (hK.sub (tys' := []) [] rfl) (hD.sub (ws' := [(h0, .inr (8, [.ref a1, .ref a2, .ref a3, .ref a4, .ref a5])), (a3, .inr (11, [.long ((n1 - n1) &&& ((((((n1 - n1) + n2) ^^^ ((n1 - n1) - n2)) ||| n2) ||| n2) ^^^ (-1))), .long (((((n1 - n1) + n2) ^^^ ((n1 - n1) - n2)) ||| n2) ||| n2), .long 0, .long (-1), .long (-9223372036854775808), .long 9223372036854775807])), (h1, .inr (11, [.long n1, .long n2, .long n3, .long n4, .long n5, .long n6]))]) [0, 2, 1] (by decide) rfl) hS (Nat.le_of_ble_eq_true rfl) (Nat.le_of_ble_eq_true rfl) d_Reckoner_subtract_199
  · have gc_3 : ¬ (fn_lt n3 n4) := fg_ifz hw60_1 c_3
    refine lv_aload_n hx hb d_Reckoner_subtract_66 rfl (lv_at hl 2 rfl) ?_
    refine va_get (D := D) (ci := 8) (v := .ref a3) (C := "FilterGuard$Reckoner") (T := F_Reckoner) (N := 5) hx hb hts i_Reckoner hown hK hP 0 rfl rfl 2 (by decide) (hts _ u_398) (fun _ h9 => h9) rfl d_Reckoner_subtract_67 ?_
    refine lv_aload_n hx hb d_Reckoner_subtract_70 rfl (lv_at hl 3 rfl) ?_
    refine va_get (D := D) (ci := 11) (v := .long n3) (C := "FilterGuard$Num") (T := F_Num) (N := 6) hx hb hts i_Num hown hK hP 1 rfl rfl 2 (by decide) (hts _ u_374) (fun _ h9 => h9) rfl d_Reckoner_subtract_71 ?_
    refine lv_aload_n hx hb d_Reckoner_subtract_74 rfl (lv_at hl 4 rfl) ?_
    refine va_get (D := D) (ci := 11) (v := .long n4) (C := "FilterGuard$Num") (T := F_Num) (N := 6) hx hb hts i_Num hown hK hP 1 rfl rfl 3 (by decide) (hts _ u_377) (fun _ h9 => h9) rfl d_Reckoner_subtract_75 ?_
    refine lv_lsub hx hb d_Reckoner_subtract_78 ?_
    refine lv_aload_n hx hb d_Reckoner_subtract_79 rfl (lv_at hl 3 rfl) ?_
    refine va_get (D := D) (ci := 11) (v := .long n4) (C := "FilterGuard$Num") (T := F_Num) (N := 6) hx hb hts i_Num hown hK hP 1 rfl rfl 3 (by decide) (hts _ u_377) (fun _ h9 => h9) rfl d_Reckoner_subtract_80 ?_
    refine lv_aload_n hx hb d_Reckoner_subtract_83 rfl (lv_at hl 4 rfl) ?_
    refine va_get (D := D) (ci := 11) (v := .long n3) (C := "FilterGuard$Num") (T := F_Num) (N := 6) hx hb hts i_Num hown hK hP 1 rfl rfl 2 (by decide) (hts _ u_374) (fun _ h9 => h9) rfl d_Reckoner_subtract_84 ?_
    refine lv_lsub hx hb d_Reckoner_subtract_87 ?_
    refine fg_thenv (wr := [(h0, .inr (8, [.ref a1, .ref a2, .ref a3, .ref a4, .ref a5])), (h1, .inr (11, [.long n1, .long n2, .long n3, .long n4, .long n5, .long n6]))]) (fg_runV (C := "FilterGuard$Num") (As := [.long (n3 - n4), .long (n4 - n3)]) (rest := []) (ci := 11) (q0 := 0) ⟨hx, hb, hml, hown, hts⟩ (c_Num_range l D a3 ((n1 - n1) &&& ((((((n1 - n1) + n2) ^^^ ((n1 - n1) - n2)) ||| n2) ||| n2) ^^^ (-1))) (((((n1 - n1) + n2) ^^^ ((n1 - n1) - n2)) ||| n2) ||| n2) 0 (-1) (-9223372036854775808) 9223372036854775807 (n3 - n4) (n4 - n3) H.size) rfl (by show fg_nm y_Num_range 2; decide +kernel) u_1145 u_1146 u_1147 u_187 u_1148 ⟨Nat.le_of_ble_eq_true rfl, Nat.le_of_ble_eq_true rfl⟩ hX (hP.sub (ws' := [(a3, .inr (11, [.long ((n1 - n1) &&& ((((((n1 - n1) + n2) ^^^ ((n1 - n1) - n2)) ||| n2) ||| n2) ^^^ (-1))), .long (((((n1 - n1) + n2) ^^^ ((n1 - n1) - n2)) ||| n2) ||| n2), .long 0, .long (-1), .long (-9223372036854775808), .long 9223372036854775807]))]) [2] rfl) (hK.sub (tys' := []) [] rfl) (hD.sub (ws' := [(a3, .inr (11, [.long ((n1 - n1) &&& ((((((n1 - n1) + n2) ^^^ ((n1 - n1) - n2)) ||| n2) ||| n2) ^^^ (-1))), .long (((((n1 - n1) + n2) ^^^ ((n1 - n1) - n2)) ||| n2) ||| n2), .long 0, .long (-1), .long (-9223372036854775808), .long 9223372036854775807]))]) [2] (by decide) rfl) rfl rfl rfl rfl hl.1 (Nat.le_of_ble_eq_true rfl) d_Reckoner_subtract_88 ⟨(Nat.le_of_ble_eq_true rfl), (Nat.le_of_ble_eq_true rfl)⟩) hP hD hK hS hA [2] [0, 1] rfl rfl (by decide) (by decide) (fun  u H locs hw88_12 hP hD hK hS => ?_)
    try dsimp only at hw88_12
    have hP : va_P D classes [(h0, .inr (8, [.ref a1, .ref a2, .ref a3, .ref a4, .ref a5])), (h1, .inr (11, [.long n1, .long n2, .long n3, .long n4, .long n5, .long n6])), (a3, .inr (11, [.long ((n1 - n1) &&& ((((((n1 - n1) + n2) ^^^ ((n1 - n1) - n2)) ||| n2) ||| n2) ^^^ (-1))), .long (((((n1 - n1) + n2) ^^^ ((n1 - n1) - n2)) ||| n2) ||| n2), .long (n3 - n4), .long (n4 - n3), .long (-9223372036854775808), .long 9223372036854775807]))] H := hP
    have hD : va_D A [(h0, .inr (8, [.ref a1, .ref a2, .ref a3, .ref a4, .ref a5])), (h1, .inr (11, [.long n1, .long n2, .long n3, .long n4, .long n5, .long n6])), (a3, .inr (11, [.long ((n1 - n1) &&& ((((((n1 - n1) + n2) ^^^ ((n1 - n1) - n2)) ||| n2) ||| n2) ^^^ (-1))), .long (((((n1 - n1) + n2) ^^^ ((n1 - n1) - n2)) ||| n2) ||| n2), .long (n3 - n4), .long (n4 - n3), .long (-9223372036854775808), .long 9223372036854775807]))] := hD
    have hK : va_K D classes [] s := hK
    refine W.widen (k := 0) (n := 0) (Nat.le_of_ble_eq_true rfl) (Nat.le_of_ble_eq_true rfl) ?_
    refine lv_aload_n hx hb d_Reckoner_subtract_91 rfl (lv_at hl 3 rfl) ?_
    refine va_get (D := D) (ci := 11) (v := .long n5) (C := "FilterGuard$Num") (T := F_Num) (N := 6) hx hb hts i_Num hown hK hP 1 rfl rfl 4 (by decide) (hts _ u_380) (fun _ h9 => h9) rfl d_Reckoner_subtract_92 ?_
    refine lv_aload_n hx hb d_Reckoner_subtract_95 rfl (lv_at hl 4 rfl) ?_
    refine va_get (D := D) (ci := 11) (v := .long n6) (C := "FilterGuard$Num") (T := F_Num) (N := 6) hx hb hts i_Num hown hK hP 1 rfl rfl 5 (by decide) (hts _ u_382) (fun _ h9 => h9) rfl d_Reckoner_subtract_96 ?_
    refine lv_lsub hx hb d_Reckoner_subtract_99 ?_
    refine lv_lstore (lv' := [(7, .long (n5 - n6)), (5, .long (((((n1 - n1) + n2) ^^^ ((n1 - n1) - n2)) ||| n2) ||| n2)), (3, .long (n1 - n1)), (0, .ref h0), (1, .ref h1), (2, .ref h1)]) hx hb d_Reckoner_subtract_100 hl (by decide) rfl (fun ls hl => ?_)
    refine lv_aload_n hx hb d_Reckoner_subtract_102 rfl (lv_at hl 4 rfl) ?_
    refine va_get (D := D) (ci := 11) (v := .long n6) (C := "FilterGuard$Num") (T := F_Num) (N := 6) hx hb hts i_Num hown hK hP 1 rfl rfl 5 (by decide) (hts _ u_382) (fun _ h9 => h9) rfl d_Reckoner_subtract_103 ?_
    refine lv_aload_n hx hb d_Reckoner_subtract_106 rfl (lv_at hl 5 rfl) ?_
    refine va_get (D := D) (ci := 11) (v := .long n5) (C := "FilterGuard$Num") (T := F_Num) (N := 6) hx hb hts i_Num hown hK hP 1 rfl rfl 4 (by decide) (hts _ u_380) (fun _ h9 => h9) rfl d_Reckoner_subtract_107 ?_
    refine lv_lsub hx hb d_Reckoner_subtract_110 ?_
    refine lv_lstore (lv' := [(9, .long (n6 - n5)), (7, .long (n5 - n6)), (5, .long (((((n1 - n1) + n2) ^^^ ((n1 - n1) - n2)) ||| n2) ||| n2)), (3, .long (n1 - n1)), (0, .ref h0), (1, .ref h1), (2, .ref h1)]) hx hb d_Reckoner_subtract_111 hl (by decide) rfl (fun ls hl => ?_)
    refine lv_aload_n hx hb d_Reckoner_subtract_113 rfl (lv_at hl 5 rfl) ?_
    refine va_get (D := D) (ci := 11) (v := .long n5) (C := "FilterGuard$Num") (T := F_Num) (N := 6) hx hb hts i_Num hown hK hP 1 rfl rfl 4 (by decide) (hts _ u_380) (fun _ h9 => h9) rfl d_Reckoner_subtract_114 ?_
    refine lv_aload_n hx hb d_Reckoner_subtract_117 rfl (lv_at hl 6 rfl) ?_
    refine va_get (D := D) (ci := 11) (v := .long n6) (C := "FilterGuard$Num") (T := F_Num) (N := 6) hx hb hts i_Num hown hK hP 1 rfl rfl 5 (by decide) (hts _ u_382) (fun _ h9 => h9) rfl d_Reckoner_subtract_118 ?_
    refine lv_lxor hx hb d_Reckoner_subtract_121 ?_
    refine lv_aload_n hx hb d_Reckoner_subtract_122 rfl (lv_at hl 5 rfl) ?_
    refine va_get (D := D) (ci := 11) (v := .long n5) (C := "FilterGuard$Num") (T := F_Num) (N := 6) hx hb hts i_Num hown hK hP 1 rfl rfl 4 (by decide) (hts _ u_380) (fun _ h9 => h9) rfl d_Reckoner_subtract_123 ?_
    refine lv_lload hx hb d_Reckoner_subtract_126 (lv_at hl 1 rfl) ?_
    refine lv_lxor hx hb d_Reckoner_subtract_128 ?_
    refine lv_land hx hb d_Reckoner_subtract_129 ?_
    refine lv_lconst (v := 0) hx hb d_Reckoner_subtract_130 (by decide) ?_
    refine W.lcmp hx hb d_Reckoner_subtract_131 ?_
    refine lv_if_ge (tgt := 139) hx hb d_Reckoner_subtract_132 (by decide) (fun c_14 => ?_) (fun c_14 => ?_)
    · have gc_14 : ¬ ((n5 ^^^ n6) &&& (n5 ^^^ (n5 - n6))) < 0 := Int64.not_lt.mpr ((lg_cmp_ge _ _).mp c_14)
      refine lv_iconst (v := 0) hx hb d_Reckoner_subtract_139 (by decide) ?_
      refine lv_istore (lv' := [(11, .int 0), (9, .long (n6 - n5)), (7, .long (n5 - n6)), (5, .long (((((n1 - n1) + n2) ^^^ ((n1 - n1) - n2)) ||| n2) ||| n2)), (3, .long (n1 - n1)), (0, .ref h0), (1, .ref h1), (2, .ref h1)]) hx hb d_Reckoner_subtract_140 hl (by decide) rfl (fun ls hl => ?_)
      refine lv_aload_n hx hb d_Reckoner_subtract_142 rfl (lv_at hl 6 rfl) ?_
      refine va_get (D := D) (ci := 11) (v := .long n6) (C := "FilterGuard$Num") (T := F_Num) (N := 6) hx hb hts i_Num hown hK hP 1 rfl rfl 5 (by decide) (hts _ u_382) (fun _ h9 => h9) rfl d_Reckoner_subtract_143 ?_
      refine lv_aload_n hx hb d_Reckoner_subtract_146 rfl (lv_at hl 7 rfl) ?_
      refine va_get (D := D) (ci := 11) (v := .long n5) (C := "FilterGuard$Num") (T := F_Num) (N := 6) hx hb hts i_Num hown hK hP 1 rfl rfl 4 (by decide) (hts _ u_380) (fun _ h9 => h9) rfl d_Reckoner_subtract_147 ?_
      refine lv_lxor hx hb d_Reckoner_subtract_150 ?_
      refine lv_aload_n hx hb d_Reckoner_subtract_151 rfl (lv_at hl 6 rfl) ?_
      refine va_get (D := D) (ci := 11) (v := .long n6) (C := "FilterGuard$Num") (T := F_Num) (N := 6) hx hb hts i_Num hown hK hP 1 rfl rfl 5 (by decide) (hts _ u_382) (fun _ h9 => h9) rfl d_Reckoner_subtract_152 ?_
      refine lv_lload hx hb d_Reckoner_subtract_155 (lv_at hl 1 rfl) ?_
      refine lv_lxor hx hb d_Reckoner_subtract_157 ?_
      refine lv_land hx hb d_Reckoner_subtract_158 ?_
      refine lv_lconst (v := 0) hx hb d_Reckoner_subtract_159 (by decide) ?_
      refine W.lcmp hx hb d_Reckoner_subtract_160 ?_
      refine lv_if_ge (tgt := 168) hx hb d_Reckoner_subtract_161 (by decide) (fun c_15 => ?_) (fun c_15 => ?_)
      · have gc_15 : ¬ ((n6 ^^^ n5) &&& (n6 ^^^ (n6 - n5))) < 0 := Int64.not_lt.mpr ((lg_cmp_ge _ _).mp c_15)
        refine lv_iconst (v := 0) hx hb d_Reckoner_subtract_168 (by decide) ?_
        refine lv_istore (lv' := [(12, .int 0), (11, .int 0), (9, .long (n6 - n5)), (7, .long (n5 - n6)), (5, .long (((((n1 - n1) + n2) ^^^ ((n1 - n1) - n2)) ||| n2) ||| n2)), (3, .long (n1 - n1)), (0, .ref h0), (1, .ref h1), (2, .ref h1)]) hx hb d_Reckoner_subtract_169 hl (by decide) rfl (fun ls hl => ?_)
        refine lv_iload hx hb d_Reckoner_subtract_171 (lv_at hl 1 rfl) ?_
        refine lv_if_ne (tgt := 199) hx hb d_Reckoner_subtract_173 (by decide) (fun c_16 => absurd (by decide) c_16) (fun c_16 => ?_)
        refine lv_iload hx hb d_Reckoner_subtract_176 (lv_at hl 0 rfl) ?_
        refine lv_if_ne (tgt := 199) hx hb d_Reckoner_subtract_178 (by decide) (fun c_17 => absurd (by decide) c_17) (fun c_17 => ?_)
        refine lv_aload_n hx hb d_Reckoner_subtract_181 rfl (lv_at hl 6 rfl) ?_
        refine va_get (D := D) (ci := 8) (v := .ref a3) (C := "FilterGuard$Reckoner") (T := F_Reckoner) (N := 5) hx hb hts i_Reckoner hown hK hP 0 rfl rfl 2 (by decide) (hts _ u_398) (fun _ h9 => h9) rfl d_Reckoner_subtract_182 ?_
        refine lv_lload hx hb d_Reckoner_subtract_185 (lv_at hl 3 rfl) ?_
        refine va_put (D := D) (ci := 11) (v := .long (n5 - n6)) (ty := .long) (C := "FilterGuard$Num") (T := F_Num) (N := 6) hx hb hts i_Num t_Num t_Num_ok n_Num hown hK hP hD hS 2 rfl rfl 4 (by decide) (hts _ u_380) (fun _ h9 => h9) rfl (by decide +kernel) rfl rfl (Nat.le_of_ble_eq_true rfl) d_Reckoner_subtract_187 (fun H locs hP hD hS => ?_)
        have hP : va_P D classes [(h0, .inr (8, [.ref a1, .ref a2, .ref a3, .ref a4, .ref a5])), (h1, .inr (11, [.long n1, .long n2, .long n3, .long n4, .long n5, .long n6])), (a3, .inr (11, [.long ((n1 - n1) &&& ((((((n1 - n1) + n2) ^^^ ((n1 - n1) - n2)) ||| n2) ||| n2) ^^^ (-1))), .long (((((n1 - n1) + n2) ^^^ ((n1 - n1) - n2)) ||| n2) ||| n2), .long (n3 - n4), .long (n4 - n3), .long (n5 - n6), .long 9223372036854775807]))] H := hP
        have hD : va_D A [(h0, .inr (8, [.ref a1, .ref a2, .ref a3, .ref a4, .ref a5])), (h1, .inr (11, [.long n1, .long n2, .long n3, .long n4, .long n5, .long n6])), (a3, .inr (11, [.long ((n1 - n1) &&& ((((((n1 - n1) + n2) ^^^ ((n1 - n1) - n2)) ||| n2) ||| n2) ^^^ (-1))), .long (((((n1 - n1) + n2) ^^^ ((n1 - n1) - n2)) ||| n2) ||| n2), .long (n3 - n4), .long (n4 - n3), .long (n5 - n6), .long 9223372036854775807]))] := hD
        refine lv_aload_n hx hb d_Reckoner_subtract_190 rfl (lv_at hl 6 rfl) ?_
        refine va_get (D := D) (ci := 8) (v := .ref a3) (C := "FilterGuard$Reckoner") (T := F_Reckoner) (N := 5) hx hb hts i_Reckoner hown hK hP 0 rfl rfl 2 (by decide) (hts _ u_398) (fun _ h9 => h9) rfl d_Reckoner_subtract_191 ?_
        refine lv_lload hx hb d_Reckoner_subtract_194 (lv_at hl 2 rfl) ?_
        refine va_put (D := D) (ci := 11) (v := .long (n6 - n5)) (ty := .long) (C := "FilterGuard$Num") (T := F_Num) (N := 6) hx hb hts i_Num t_Num t_Num_ok n_Num hown hK hP hD hS 2 rfl rfl 5 (by decide) (hts _ u_382) (fun _ h9 => h9) rfl (by decide +kernel) rfl rfl (Nat.le_of_ble_eq_true rfl) d_Reckoner_subtract_196 (fun H locs hP hD hS => ?_)
        have hP : va_P D classes [(h0, .inr (8, [.ref a1, .ref a2, .ref a3, .ref a4, .ref a5])), (h1, .inr (11, [.long n1, .long n2, .long n3, .long n4, .long n5, .long n6])), (a3, .inr (11, [.long ((n1 - n1) &&& ((((((n1 - n1) + n2) ^^^ ((n1 - n1) - n2)) ||| n2) ||| n2) ^^^ (-1))), .long (((((n1 - n1) + n2) ^^^ ((n1 - n1) - n2)) ||| n2) ||| n2), .long (n3 - n4), .long (n4 - n3), .long (n5 - n6), .long (n6 - n5)]))] H := hP
        have hD : va_D A [(h0, .inr (8, [.ref a1, .ref a2, .ref a3, .ref a4, .ref a5])), (h1, .inr (11, [.long n1, .long n2, .long n3, .long n4, .long n5, .long n6])), (a3, .inr (11, [.long ((n1 - n1) &&& ((((((n1 - n1) + n2) ^^^ ((n1 - n1) - n2)) ||| n2) ||| n2) ^^^ (-1))), .long (((((n1 - n1) + n2) ^^^ ((n1 - n1) - n2)) ||| n2) ||| n2), .long (n3 - n4), .long (n4 - n3), .long (n5 - n6), .long (n6 - n5)]))] := hD
        exact fg_retv (((n1 - n1) &&& ((((((n1 - n1) + n2) ^^^ ((n1 - n1) - n2)) ||| n2) ||| n2) ^^^ (-1))), (((((n1 - n1) + n2) ^^^ ((n1 - n1) - n2)) ||| n2) ||| n2), (n3 - n4), (n4 - n3), n5 - n6, n6 - n5) hx hb hr hlocks (by unfold fn_sub; (repeat rw [if_neg gc_3]); (repeat rw [if_neg gc_14]); (repeat rw [if_neg gc_15]); try rfl) (hP.sub (ws' := [(h0, .inr (8, [.ref a1, .ref a2, .ref a3, .ref a4, .ref a5])), (a3, .inr (11, [.long ((n1 - n1) &&& ((((((n1 - n1) + n2) ^^^ ((n1 - n1) - n2)) ||| n2) ||| n2) ^^^ (-1))), .long (((((n1 - n1) + n2) ^^^ ((n1 - n1) - n2)) ||| n2) ||| n2), .long (n3 - n4), .long (n4 - n3), .long (n5 - n6), .long (n6 - n5)])), (h1, .inr (11, [.long n1, .long n2, .long n3, .long n4, .long n5, .long n6]))]) [0, 2, 1] rfl) (hK.sub (tys' := []) [] rfl) (hD.sub (ws' := [(h0, .inr (8, [.ref a1, .ref a2, .ref a3, .ref a4, .ref a5])), (a3, .inr (11, [.long ((n1 - n1) &&& ((((((n1 - n1) + n2) ^^^ ((n1 - n1) - n2)) ||| n2) ||| n2) ^^^ (-1))), .long (((((n1 - n1) + n2) ^^^ ((n1 - n1) - n2)) ||| n2) ||| n2), .long (n3 - n4), .long (n4 - n3), .long (n5 - n6), .long (n6 - n5)])), (h1, .inr (11, [.long n1, .long n2, .long n3, .long n4, .long n5, .long n6]))]) [0, 2, 1] (by decide) rfl) hS (Nat.le_of_ble_eq_true rfl) (Nat.le_of_ble_eq_true rfl) d_Reckoner_subtract_199
      · have gc_15 : ((n6 ^^^ n5) &&& (n6 ^^^ (n6 - n5))) < 0 := Int64.not_le.mp (fun z => c_15 ((lg_cmp_ge _ _).mpr z))
        refine lv_iconst (v := 1) hx hb d_Reckoner_subtract_164 (by decide) ?_
        refine lv_goto (tgt := 169) hx hb d_Reckoner_subtract_165 (by decide) ?_
        refine lv_istore (lv' := [(12, .int 1), (11, .int 0), (9, .long (n6 - n5)), (7, .long (n5 - n6)), (5, .long (((((n1 - n1) + n2) ^^^ ((n1 - n1) - n2)) ||| n2) ||| n2)), (3, .long (n1 - n1)), (0, .ref h0), (1, .ref h1), (2, .ref h1)]) hx hb d_Reckoner_subtract_169 hl (by decide) rfl (fun ls hl => ?_)
        refine lv_iload hx hb d_Reckoner_subtract_171 (lv_at hl 1 rfl) ?_
        refine lv_if_ne (tgt := 199) hx hb d_Reckoner_subtract_173 (by decide) (fun c_18 => absurd (by decide) c_18) (fun c_18 => ?_)
        refine lv_iload hx hb d_Reckoner_subtract_176 (lv_at hl 0 rfl) ?_
        refine lv_if_ne (tgt := 199) hx hb d_Reckoner_subtract_178 (by decide) (fun c_19 => ?_) (fun c_19 => absurd c_19 (by decide))
        exact fg_retv (((n1 - n1) &&& ((((((n1 - n1) + n2) ^^^ ((n1 - n1) - n2)) ||| n2) ||| n2) ^^^ (-1))), (((((n1 - n1) + n2) ^^^ ((n1 - n1) - n2)) ||| n2) ||| n2), (n3 - n4), (n4 - n3), (-9223372036854775808), 9223372036854775807) hx hb hr hlocks (by unfold fn_sub; (repeat rw [if_neg gc_3]); (repeat rw [if_neg gc_14]); (repeat rw [if_pos gc_15]); try rfl) (hP.sub (ws' := [(h0, .inr (8, [.ref a1, .ref a2, .ref a3, .ref a4, .ref a5])), (a3, .inr (11, [.long ((n1 - n1) &&& ((((((n1 - n1) + n2) ^^^ ((n1 - n1) - n2)) ||| n2) ||| n2) ^^^ (-1))), .long (((((n1 - n1) + n2) ^^^ ((n1 - n1) - n2)) ||| n2) ||| n2), .long (n3 - n4), .long (n4 - n3), .long (-9223372036854775808), .long 9223372036854775807])), (h1, .inr (11, [.long n1, .long n2, .long n3, .long n4, .long n5, .long n6]))]) [0, 2, 1] rfl) (hK.sub (tys' := []) [] rfl) (hD.sub (ws' := [(h0, .inr (8, [.ref a1, .ref a2, .ref a3, .ref a4, .ref a5])), (a3, .inr (11, [.long ((n1 - n1) &&& ((((((n1 - n1) + n2) ^^^ ((n1 - n1) - n2)) ||| n2) ||| n2) ^^^ (-1))), .long (((((n1 - n1) + n2) ^^^ ((n1 - n1) - n2)) ||| n2) ||| n2), .long (n3 - n4), .long (n4 - n3), .long (-9223372036854775808), .long 9223372036854775807])), (h1, .inr (11, [.long n1, .long n2, .long n3, .long n4, .long n5, .long n6]))]) [0, 2, 1] (by decide) rfl) hS (Nat.le_of_ble_eq_true rfl) (Nat.le_of_ble_eq_true rfl) d_Reckoner_subtract_199
    · have gc_14 : ((n5 ^^^ n6) &&& (n5 ^^^ (n5 - n6))) < 0 := Int64.not_le.mp (fun z => c_14 ((lg_cmp_ge _ _).mpr z))
      refine lv_iconst (v := 1) hx hb d_Reckoner_subtract_135 (by decide) ?_
      refine lv_goto (tgt := 140) hx hb d_Reckoner_subtract_136 (by decide) ?_
      refine lv_istore (lv' := [(11, .int 1), (9, .long (n6 - n5)), (7, .long (n5 - n6)), (5, .long (((((n1 - n1) + n2) ^^^ ((n1 - n1) - n2)) ||| n2) ||| n2)), (3, .long (n1 - n1)), (0, .ref h0), (1, .ref h1), (2, .ref h1)]) hx hb d_Reckoner_subtract_140 hl (by decide) rfl (fun ls hl => ?_)
      refine lv_aload_n hx hb d_Reckoner_subtract_142 rfl (lv_at hl 6 rfl) ?_
      refine va_get (D := D) (ci := 11) (v := .long n6) (C := "FilterGuard$Num") (T := F_Num) (N := 6) hx hb hts i_Num hown hK hP 1 rfl rfl 5 (by decide) (hts _ u_382) (fun _ h9 => h9) rfl d_Reckoner_subtract_143 ?_
      refine lv_aload_n hx hb d_Reckoner_subtract_146 rfl (lv_at hl 7 rfl) ?_
      refine va_get (D := D) (ci := 11) (v := .long n5) (C := "FilterGuard$Num") (T := F_Num) (N := 6) hx hb hts i_Num hown hK hP 1 rfl rfl 4 (by decide) (hts _ u_380) (fun _ h9 => h9) rfl d_Reckoner_subtract_147 ?_
      refine lv_lxor hx hb d_Reckoner_subtract_150 ?_
      refine lv_aload_n hx hb d_Reckoner_subtract_151 rfl (lv_at hl 6 rfl) ?_
      refine va_get (D := D) (ci := 11) (v := .long n6) (C := "FilterGuard$Num") (T := F_Num) (N := 6) hx hb hts i_Num hown hK hP 1 rfl rfl 5 (by decide) (hts _ u_382) (fun _ h9 => h9) rfl d_Reckoner_subtract_152 ?_
      refine lv_lload hx hb d_Reckoner_subtract_155 (lv_at hl 1 rfl) ?_
      refine lv_lxor hx hb d_Reckoner_subtract_157 ?_
      refine lv_land hx hb d_Reckoner_subtract_158 ?_
      refine lv_lconst (v := 0) hx hb d_Reckoner_subtract_159 (by decide) ?_
      refine W.lcmp hx hb d_Reckoner_subtract_160 ?_
      refine lv_if_ge (tgt := 168) hx hb d_Reckoner_subtract_161 (by decide) (fun c_20 => ?_) (fun c_20 => ?_)
      · have gc_20 : ¬ ((n6 ^^^ n5) &&& (n6 ^^^ (n6 - n5))) < 0 := Int64.not_lt.mpr ((lg_cmp_ge _ _).mp c_20)
        refine lv_iconst (v := 0) hx hb d_Reckoner_subtract_168 (by decide) ?_
        refine lv_istore (lv' := [(12, .int 0), (11, .int 1), (9, .long (n6 - n5)), (7, .long (n5 - n6)), (5, .long (((((n1 - n1) + n2) ^^^ ((n1 - n1) - n2)) ||| n2) ||| n2)), (3, .long (n1 - n1)), (0, .ref h0), (1, .ref h1), (2, .ref h1)]) hx hb d_Reckoner_subtract_169 hl (by decide) rfl (fun ls hl => ?_)
        refine lv_iload hx hb d_Reckoner_subtract_171 (lv_at hl 1 rfl) ?_
        refine lv_if_ne (tgt := 199) hx hb d_Reckoner_subtract_173 (by decide) (fun c_21 => ?_) (fun c_21 => absurd c_21 (by decide))
        exact fg_retv (((n1 - n1) &&& ((((((n1 - n1) + n2) ^^^ ((n1 - n1) - n2)) ||| n2) ||| n2) ^^^ (-1))), (((((n1 - n1) + n2) ^^^ ((n1 - n1) - n2)) ||| n2) ||| n2), (n3 - n4), (n4 - n3), (-9223372036854775808), 9223372036854775807) hx hb hr hlocks (by unfold fn_sub; (repeat rw [if_neg gc_3]); (repeat rw [if_pos gc_14]); (repeat rw [if_neg gc_20]); try rfl) (hP.sub (ws' := [(h0, .inr (8, [.ref a1, .ref a2, .ref a3, .ref a4, .ref a5])), (a3, .inr (11, [.long ((n1 - n1) &&& ((((((n1 - n1) + n2) ^^^ ((n1 - n1) - n2)) ||| n2) ||| n2) ^^^ (-1))), .long (((((n1 - n1) + n2) ^^^ ((n1 - n1) - n2)) ||| n2) ||| n2), .long (n3 - n4), .long (n4 - n3), .long (-9223372036854775808), .long 9223372036854775807])), (h1, .inr (11, [.long n1, .long n2, .long n3, .long n4, .long n5, .long n6]))]) [0, 2, 1] rfl) (hK.sub (tys' := []) [] rfl) (hD.sub (ws' := [(h0, .inr (8, [.ref a1, .ref a2, .ref a3, .ref a4, .ref a5])), (a3, .inr (11, [.long ((n1 - n1) &&& ((((((n1 - n1) + n2) ^^^ ((n1 - n1) - n2)) ||| n2) ||| n2) ^^^ (-1))), .long (((((n1 - n1) + n2) ^^^ ((n1 - n1) - n2)) ||| n2) ||| n2), .long (n3 - n4), .long (n4 - n3), .long (-9223372036854775808), .long 9223372036854775807])), (h1, .inr (11, [.long n1, .long n2, .long n3, .long n4, .long n5, .long n6]))]) [0, 2, 1] (by decide) rfl) hS (Nat.le_of_ble_eq_true rfl) (Nat.le_of_ble_eq_true rfl) d_Reckoner_subtract_199
      · have gc_20 : ((n6 ^^^ n5) &&& (n6 ^^^ (n6 - n5))) < 0 := Int64.not_le.mp (fun z => c_20 ((lg_cmp_ge _ _).mpr z))
        refine lv_iconst (v := 1) hx hb d_Reckoner_subtract_164 (by decide) ?_
        refine lv_goto (tgt := 169) hx hb d_Reckoner_subtract_165 (by decide) ?_
        refine lv_istore (lv' := [(12, .int 1), (11, .int 1), (9, .long (n6 - n5)), (7, .long (n5 - n6)), (5, .long (((((n1 - n1) + n2) ^^^ ((n1 - n1) - n2)) ||| n2) ||| n2)), (3, .long (n1 - n1)), (0, .ref h0), (1, .ref h1), (2, .ref h1)]) hx hb d_Reckoner_subtract_169 hl (by decide) rfl (fun ls hl => ?_)
        refine lv_iload hx hb d_Reckoner_subtract_171 (lv_at hl 1 rfl) ?_
        refine lv_if_ne (tgt := 199) hx hb d_Reckoner_subtract_173 (by decide) (fun c_22 => ?_) (fun c_22 => absurd c_22 (by decide))
        exact fg_retv (((n1 - n1) &&& ((((((n1 - n1) + n2) ^^^ ((n1 - n1) - n2)) ||| n2) ||| n2) ^^^ (-1))), (((((n1 - n1) + n2) ^^^ ((n1 - n1) - n2)) ||| n2) ||| n2), (n3 - n4), (n4 - n3), (-9223372036854775808), 9223372036854775807) hx hb hr hlocks (by unfold fn_sub; (repeat rw [if_neg gc_3]); (repeat rw [if_pos gc_14]); (repeat rw [if_pos gc_20]); try rfl) (hP.sub (ws' := [(h0, .inr (8, [.ref a1, .ref a2, .ref a3, .ref a4, .ref a5])), (a3, .inr (11, [.long ((n1 - n1) &&& ((((((n1 - n1) + n2) ^^^ ((n1 - n1) - n2)) ||| n2) ||| n2) ^^^ (-1))), .long (((((n1 - n1) + n2) ^^^ ((n1 - n1) - n2)) ||| n2) ||| n2), .long (n3 - n4), .long (n4 - n3), .long (-9223372036854775808), .long 9223372036854775807])), (h1, .inr (11, [.long n1, .long n2, .long n3, .long n4, .long n5, .long n6]))]) [0, 2, 1] rfl) (hK.sub (tys' := []) [] rfl) (hD.sub (ws' := [(h0, .inr (8, [.ref a1, .ref a2, .ref a3, .ref a4, .ref a5])), (a3, .inr (11, [.long ((n1 - n1) &&& ((((((n1 - n1) + n2) ^^^ ((n1 - n1) - n2)) ||| n2) ||| n2) ^^^ (-1))), .long (((((n1 - n1) + n2) ^^^ ((n1 - n1) - n2)) ||| n2) ||| n2), .long (n3 - n4), .long (n4 - n3), .long (-9223372036854775808), .long 9223372036854775807])), (h1, .inr (11, [.long n1, .long n2, .long n3, .long n4, .long n5, .long n6]))]) [0, 2, 1] (by decide) rfl) hS (Nat.le_of_ble_eq_true rfl) (Nat.le_of_ble_eq_true rfl) d_Reckoner_subtract_199
abbrev y_Reckoner_divide : MethodName := ⟨"FilterGuard$Reckoner", "divide", "(LFilterGuard$Num;LFilterGuard$Num;)V"⟩
theorem d_Reckoner_divide_0 : decode prog_9_method_10_code 0 = .ok (.aload_n 2, 1) := by decide +kernel
theorem d_Reckoner_divide_1 : decode prog_9_method_10_code 1 = .ok (.getfield 49, 3) := by decide +kernel
theorem d_Reckoner_divide_4 : decode prog_9_method_10_code 4 = .ok (.lstore_n 3, 1) := by decide +kernel
theorem d_Reckoner_divide_5 : decode prog_9_method_10_code 5 = .ok (.aload_n 2, 1) := by decide +kernel
theorem d_Reckoner_divide_6 : decode prog_9_method_10_code 6 = .ok (.invokevirtual 45, 3) := by decide +kernel
theorem u_1157 : Cond.methodLink "FilterGuard$Reckoner" 45 ⟨"FilterGuard$Num", "isExact", "()Z"⟩ ∈ fg_g := fg_in (List.mem_of_getElem? (i := 1157) (by decide +kernel)) rfl
theorem u_1160 : Cond.code ⟨"FilterGuard$Num", "isExact", "()Z"⟩ prog_8_method_7_code 1 (some .boolean) ∈ fg_g := fg_in (List.mem_of_getElem? (i := 1160) (by decide +kernel)) rfl
theorem u_1158 : Cond.instanceMethod ⟨"FilterGuard$Num", "isExact", "()Z"⟩ ∈ fg_g := fg_in (List.mem_of_getElem? (i := 1158) (by decide +kernel)) rfl
theorem u_1159 : Cond.selects "FilterGuard$Num" ⟨"FilterGuard$Num", "isExact", "()Z"⟩ ⟨"FilterGuard$Num", "isExact", "()Z"⟩ ∈ fg_g := fg_in (List.mem_of_getElem? (i := 1159) (by decide +kernel)) rfl
theorem d_Reckoner_divide_9 : decode prog_9_method_10_code 9 = .ok (.ifCond .ne 18, 3) := by decide +kernel
theorem d_Reckoner_divide_27 : decode prog_9_method_10_code 27 = .ok (.lload_n 3, 1) := by decide +kernel
theorem d_Reckoner_divide_28 : decode prog_9_method_10_code 28 = .ok (.lconst 0, 1) := by decide +kernel
theorem d_Reckoner_divide_29 : decode prog_9_method_10_code 29 = .ok (.lcmp, 1) := by decide +kernel
theorem d_Reckoner_divide_30 : decode prog_9_method_10_code 30 = .ok (.ifCond .ne 14, 3) := by decide +kernel
theorem d_Reckoner_divide_44 : decode prog_9_method_10_code 44 = .ok (.aload_n 0, 1) := by decide +kernel
theorem d_Reckoner_divide_45 : decode prog_9_method_10_code 45 = .ok (.getfield 21, 3) := by decide +kernel
theorem d_Reckoner_divide_48 : decode prog_9_method_10_code 48 = .ok (.aload_n 1, 1) := by decide +kernel
theorem d_Reckoner_divide_49 : decode prog_9_method_10_code 49 = .ok (.getfield 96, 3) := by decide +kernel
theorem d_Reckoner_divide_52 : decode prog_9_method_10_code 52 = .ok (.lload_n 3, 1) := by decide +kernel
theorem d_Reckoner_divide_53 : decode prog_9_method_10_code 53 = .ok (.invokestatic 142, 3) := by decide +kernel
theorem u_1181 : Cond.methodLink "FilterGuard$Reckoner" 142 ⟨"FilterGuard$Reckoner", "quotient", "(JJ)J"⟩ ∈ fg_g := fg_in (List.mem_of_getElem? (i := 1181) (by decide +kernel)) rfl
theorem u_1183 : Cond.code ⟨"FilterGuard$Reckoner", "quotient", "(JJ)J"⟩ prog_9_method_2_code 8 (some .long) ∈ fg_g := fg_in (List.mem_of_getElem? (i := 1183) (by decide +kernel)) rfl
theorem u_1182 : Cond.static ⟨"FilterGuard$Reckoner", "quotient", "(JJ)J"⟩ ∈ fg_g := fg_in (List.mem_of_getElem? (i := 1182) (by decide +kernel)) rfl
theorem d_Reckoner_divide_56 : decode prog_9_method_10_code 56 = .ok (.aload_n 1, 1) := by decide +kernel
theorem d_Reckoner_divide_57 : decode prog_9_method_10_code 57 = .ok (.getfield 122, 3) := by decide +kernel
theorem d_Reckoner_divide_60 : decode prog_9_method_10_code 60 = .ok (.lload_n 3, 1) := by decide +kernel
theorem d_Reckoner_divide_61 : decode prog_9_method_10_code 61 = .ok (.invokestatic 142, 3) := by decide +kernel
theorem d_Reckoner_divide_64 : decode prog_9_method_10_code 64 = .ok (.invokevirtual 125, 3) := by decide +kernel
theorem d_Reckoner_divide_67 : decode prog_9_method_10_code 67 = .ok (.return_, 1) := by decide +kernel
theorem d_Reckoner_divide_33 : decode prog_9_method_10_code 33 = .ok (.aload_n 0, 1) := by decide +kernel
theorem d_Reckoner_divide_34 : decode prog_9_method_10_code 34 = .ok (.getfield 21, 3) := by decide +kernel
theorem d_Reckoner_divide_37 : decode prog_9_method_10_code 37 = .ok (.lconst 0, 1) := by decide +kernel
theorem d_Reckoner_divide_38 : decode prog_9_method_10_code 38 = .ok (.invokevirtual 55, 3) := by decide +kernel
theorem u_1161 : Cond.methodLink "FilterGuard$Reckoner" 55 ⟨"FilterGuard$Num", "exact", "(J)V"⟩ ∈ fg_g := fg_in (List.mem_of_getElem? (i := 1161) (by decide +kernel)) rfl
theorem u_1039 : Cond.code ⟨"FilterGuard$Num", "exact", "(J)V"⟩ prog_8_method_2_code 3 none ∈ fg_g := fg_in (List.mem_of_getElem? (i := 1039) (by decide +kernel)) rfl
theorem u_1037 : Cond.instanceMethod ⟨"FilterGuard$Num", "exact", "(J)V"⟩ ∈ fg_g := fg_in (List.mem_of_getElem? (i := 1037) (by decide +kernel)) rfl
theorem u_1038 : Cond.selects "FilterGuard$Num" ⟨"FilterGuard$Num", "exact", "(J)V"⟩ ⟨"FilterGuard$Num", "exact", "(J)V"⟩ ∈ fg_g := fg_in (List.mem_of_getElem? (i := 1038) (by decide +kernel)) rfl
theorem d_Reckoner_divide_41 : decode prog_9_method_10_code 41 = .ok (.goto 26, 3) := by decide +kernel
theorem d_Reckoner_divide_12 : decode prog_9_method_10_code 12 = .ok (.aload_n 0, 1) := by decide +kernel
theorem d_Reckoner_divide_13 : decode prog_9_method_10_code 13 = .ok (.getfield 21, 3) := by decide +kernel
theorem d_Reckoner_divide_16 : decode prog_9_method_10_code 16 = .ok (.lconst 0, 1) := by decide +kernel
theorem d_Reckoner_divide_17 : decode prog_9_method_10_code 17 = .ok (.aload_n 1, 1) := by decide +kernel
theorem d_Reckoner_divide_18 : decode prog_9_method_10_code 18 = .ok (.getfield 122, 3) := by decide +kernel
theorem d_Reckoner_divide_21 : decode prog_9_method_10_code 21 = .ok (.invokevirtual 125, 3) := by decide +kernel
theorem d_Reckoner_divide_24 : decode prog_9_method_10_code 24 = .ok (.goto 43, 3) := by decide +kernel
def rm_Reck_divide : Room := { frames := 2, cells := 0, slots := 0, locals := 60 }
abbrev q_Reck_divide (D : va_G) (h0 : Nat) (a1 : Nat) (a2 : Nat) (a3 : Nat) (a4 : Nat) (a5 : Nat) (h1 : Nat) (n1 : Int64) (n2 : Int64) (n3 : Int64) (n4 : Int64) (n5 : Int64) (n6 : Int64) (h2 : Nat) (o1 : Int64) (o2 : Int64) (o3 : Int64) (o4 : Int64) (o5 : Int64) (o6 : Int64) (A : Nat → Prop) : Array Value → Jvm.State → Outcome → Jvm.State → Prop := va_Qv (fun (u : Int64 × Int64 × Int64 × Int64 × Int64 × Int64) => fn_div n3 n4 o1 o2 = (u.1, u.2.1, u.2.2.1, u.2.2.2.1, u.2.2.2.2.1, u.2.2.2.2.2)) (fg_B D A (fun (u : Int64 × Int64 × Int64 × Int64 × Int64 × Int64) => [(h0, .inr (8, [.ref a1, .ref a2, .ref a3, .ref a4, .ref a5])), (a3, .inr (11, [.long u.1, .long u.2.1, .long u.2.2.1, .long u.2.2.2.1, .long u.2.2.2.2.1, .long u.2.2.2.2.2])), (h1, .inr (11, [.long n1, .long n2, .long n3, .long n4, .long n5, .long n6])), (h2, .inr (11, [.long o1, .long o2, .long o3, .long o4, .long o5, .long o6]))]) (fun (u : Int64 × Int64 × Int64 × Int64 × Int64 × Int64) => [])) A
set_option maxHeartbeats 4000000 in
set_option maxRecDepth 100000 in
theorem c_Reck_divide (l : Launch) (D : va_G) (h0 : Nat) (a1 : Nat) (a2 : Nat) (a3 : Nat) (a4 : Nat) (a5 : Nat) (h1 : Nat) (n1 : Int64) (n2 : Int64) (n3 : Int64) (n4 : Int64) (n5 : Int64) (n6 : Int64) (h2 : Nat) (o1 : Int64) (o2 : Int64) (o3 : Int64) (o4 : Int64) (o5 : Int64) (o6 : Int64) (sz : Nat) : Met l y_Reckoner_divide (fg_w y_Reckoner_divide prog_9_method_10_code 5 none) rm_Reck_divide (va_Pc [.ref h0, .ref h1, .ref h2] (fg_P D [] [(h0, .inr (8, [.ref a1, .ref a2, .ref a3, .ref a4, .ref a5])), (a3, .inr (11, [.long 0, .long (-1), .long 0, .long (-1), .long (-9223372036854775808), .long 9223372036854775807])), (h1, .inr (11, [.long n1, .long n2, .long n3, .long n4, .long n5, .long n6])), (h2, .inr (11, [.long o1, .long o2, .long o3, .long o4, .long o5, .long o6]))] sz)) (q_Reck_divide D h0 a1 a2 a3 a4 a5 h1 n1 n2 n3 n4 n5 n6 h2 o1 o2 o3 o4 o5 o6 (va_A [(h0, .inr (8, [.ref a1, .ref a2, .ref a3, .ref a4, .ref a5])), (a3, .inr (11, [.long 0, .long (-1), .long 0, .long (-1), .long (-9223372036854775808), .long 9223372036854775807])), (h1, .inr (11, [.long n1, .long n2, .long n3, .long n4, .long n5, .long n6])), (h2, .inr (11, [.long o1, .long o2, .long o3, .long o4, .long o5, .long o6]))] sz)) rm_Reck_divide.cells rm_Reck_divide.slots (va_A [(h0, .inr (8, [.ref a1, .ref a2, .ref a3, .ref a4, .ref a5])), (a3, .inr (11, [.long 0, .long (-1), .long 0, .long (-1), .long (-9223372036854775808), .long 9223372036854775807])), (h1, .inr (11, [.long n1, .long n2, .long n3, .long n4, .long n5, .long n6])), (h2, .inr (11, [.long o1, .long o2, .long o3, .long o4, .long o5, .long o6]))] sz) := by
  refine fg_enter (fun A => q_Reck_divide D h0 a1 a2 a3 a4 a5 h1 n1 n2 n3 n4 n5 n6 h2 o1 o2 o3 o4 o5 o6 A) (by decide +kernel) (Nat.le_of_ble_eq_true rfl) ?_
  intro p e s m below meth c ls A hx hb hml hown hts hr hlocks hin hP hK hD hS hA hX hl
  have hl : lv_has ls 5 [(0, .ref h0), (1, .ref h1), (2, .ref h2)] := hl
  refine lv_aload_n hx hb d_Reckoner_divide_0 rfl (lv_at hl 2 rfl) ?_
  refine va_get (D := D) (ci := 11) (v := .long o1) (C := "FilterGuard$Num") (T := F_Num) (N := 6) hx hb hts i_Num hown hK hP 3 rfl rfl 0 (by decide) (hts _ u_368) (fun _ h9 => h9) rfl d_Reckoner_divide_1 ?_
  refine lv_lstore_n (lv' := [(3, .long o1), (0, .ref h0), (1, .ref h1), (2, .ref h2)]) hx hb d_Reckoner_divide_4 rfl hl (by decide) rfl (fun ls hl => ?_)
  refine lv_aload_n hx hb d_Reckoner_divide_5 rfl (lv_at hl 3 rfl) ?_
  refine fg_theni (wr := [(h0, .inr (8, [.ref a1, .ref a2, .ref a3, .ref a4, .ref a5])), (a3, .inr (11, [.long 0, .long (-1), .long 0, .long (-1), .long (-9223372036854775808), .long 9223372036854775807])), (h1, .inr (11, [.long n1, .long n2, .long n3, .long n4, .long n5, .long n6]))]) (fg_runV (C := "FilterGuard$Num") (As := []) (rest := []) (ci := 11) (q0 := 0) ⟨hx, hb, hml, hown, hts⟩ (c_Num_isExact l D h2 o1 o2 o3 o4 o5 o6 s.heap.size) rfl (by show fg_nm y_Num_isExact0 0; decide +kernel) u_1157 u_1158 u_1159 u_187 u_1160 ⟨Nat.le_of_ble_eq_true rfl, Nat.le_of_ble_eq_true rfl⟩ hX (hP.sub (ws' := [(h2, .inr (11, [.long o1, .long o2, .long o3, .long o4, .long o5, .long o6]))]) [3] rfl) (hK.sub (tys' := []) [] rfl) (hD.sub (ws' := [(h2, .inr (11, [.long o1, .long o2, .long o3, .long o4, .long o5, .long o6]))]) [3] (by decide) rfl) rfl rfl rfl rfl hl.1 (Nat.le_of_ble_eq_true rfl) d_Reckoner_divide_6 ⟨(Nat.le_of_ble_eq_true rfl), (Nat.le_of_ble_eq_true rfl)⟩) hP hD hK hS hA [3] [0, 1, 2] rfl rfl (by decide) (by decide) (fun r6_1 u H locs hw6_0 hP hD hK hS => ?_)
  try dsimp only at hw6_0
  have hP : va_P D classes [(h0, .inr (8, [.ref a1, .ref a2, .ref a3, .ref a4, .ref a5])), (a3, .inr (11, [.long 0, .long (-1), .long 0, .long (-1), .long (-9223372036854775808), .long 9223372036854775807])), (h1, .inr (11, [.long n1, .long n2, .long n3, .long n4, .long n5, .long n6])), (h2, .inr (11, [.long o1, .long o2, .long o3, .long o4, .long o5, .long o6]))] H := hP
  have hD : va_D A [(h0, .inr (8, [.ref a1, .ref a2, .ref a3, .ref a4, .ref a5])), (a3, .inr (11, [.long 0, .long (-1), .long 0, .long (-1), .long (-9223372036854775808), .long 9223372036854775807])), (h1, .inr (11, [.long n1, .long n2, .long n3, .long n4, .long n5, .long n6])), (h2, .inr (11, [.long o1, .long o2, .long o3, .long o4, .long o5, .long o6]))] := hD
  have hK : va_K D classes [] s := hK
  refine W.widen (k := 0) (n := 0) (Nat.le_of_ble_eq_true rfl) (Nat.le_of_ble_eq_true rfl) ?_
  refine lv_if_ne (tgt := 27) hx hb d_Reckoner_divide_9 (by decide) (fun c_2 => ?_) (fun c_2 => ?_)
  · have gc_2 : (o2 = 0) := fg_ifnz hw6_0 c_2
    refine lv_lload_n hx hb d_Reckoner_divide_27 rfl (lv_at hl 0 rfl) ?_
    refine lv_lconst (v := 0) hx hb d_Reckoner_divide_28 (by decide) ?_
    refine W.lcmp hx hb d_Reckoner_divide_29 ?_
    refine lv_if_ne (tgt := 44) hx hb d_Reckoner_divide_30 (by decide) (fun c_3 => ?_) (fun c_3 => ?_)
    · have gc_3 : ¬ o1 = 0 := fun z => c_3 ((lg_cmp_eq _ _).mpr z)
      refine lv_aload_n hx hb d_Reckoner_divide_44 rfl (lv_at hl 1 rfl) ?_
      refine va_get (D := D) (ci := 8) (v := .ref a3) (C := "FilterGuard$Reckoner") (T := F_Reckoner) (N := 5) hx hb hts i_Reckoner hown hK hP 0 rfl rfl 2 (by decide) (hts _ u_398) (fun _ h9 => h9) rfl d_Reckoner_divide_45 ?_
      refine lv_aload_n hx hb d_Reckoner_divide_48 rfl (lv_at hl 2 rfl) ?_
      refine va_get (D := D) (ci := 11) (v := .long n3) (C := "FilterGuard$Num") (T := F_Num) (N := 6) hx hb hts i_Num hown hK hP 2 rfl rfl 2 (by decide) (hts _ u_374) (fun _ h9 => h9) rfl d_Reckoner_divide_49 ?_
      refine lv_lload_n hx hb d_Reckoner_divide_52 rfl (lv_at hl 0 rfl) ?_
      refine fg_thenl (wr := [(h0, .inr (8, [.ref a1, .ref a2, .ref a3, .ref a4, .ref a5])), (a3, .inr (11, [.long 0, .long (-1), .long 0, .long (-1), .long (-9223372036854775808), .long 9223372036854775807])), (h1, .inr (11, [.long n1, .long n2, .long n3, .long n4, .long n5, .long n6])), (h2, .inr (11, [.long o1, .long o2, .long o3, .long o4, .long o5, .long o6]))]) (fg_runS (As := [.long n3, .long o1]) (rest := [.ref a3]) ⟨hx, hb, hml, hown, hts⟩ (c_Reck_quotient l D n3 o1 H.size) (by show fg_nm y_Reckoner_quotient 2; decide +kernel) u_1181 u_1182 u_186 u_1183 ⟨Nat.le_of_ble_eq_true rfl, Nat.le_of_ble_eq_true rfl⟩ hX (hP.sub (ws' := []) [] rfl) (hK.sub (tys' := []) [] rfl) (hD.sub (ws' := []) [] (by decide) rfl) rfl hl.1 (Nat.le_of_ble_eq_true rfl) d_Reckoner_divide_53 ⟨(Nat.le_of_ble_eq_true rfl), (Nat.le_of_ble_eq_true rfl)⟩) hP hD hK hS hA [] [0, 1, 2, 3] rfl rfl (by decide) (by decide) (fun r53_4 u H locs hw53_3 hP hD hK hS => ?_)
      try dsimp only at hw53_3
      have hP : va_P D classes [(h0, .inr (8, [.ref a1, .ref a2, .ref a3, .ref a4, .ref a5])), (a3, .inr (11, [.long 0, .long (-1), .long 0, .long (-1), .long (-9223372036854775808), .long 9223372036854775807])), (h1, .inr (11, [.long n1, .long n2, .long n3, .long n4, .long n5, .long n6])), (h2, .inr (11, [.long o1, .long o2, .long o3, .long o4, .long o5, .long o6]))] H := hP
      have hD : va_D A [(h0, .inr (8, [.ref a1, .ref a2, .ref a3, .ref a4, .ref a5])), (a3, .inr (11, [.long 0, .long (-1), .long 0, .long (-1), .long (-9223372036854775808), .long 9223372036854775807])), (h1, .inr (11, [.long n1, .long n2, .long n3, .long n4, .long n5, .long n6])), (h2, .inr (11, [.long o1, .long o2, .long o3, .long o4, .long o5, .long o6]))] := hD
      have hK : va_K D classes [] s := hK
      refine W.widen (k := 0) (n := 0) (Nat.le_of_ble_eq_true rfl) (Nat.le_of_ble_eq_true rfl) ?_
      subst hw53_3
      have hP : va_P D classes [(h0, .inr (8, [.ref a1, .ref a2, .ref a3, .ref a4, .ref a5])), (a3, .inr (11, [.long 0, .long (-1), .long 0, .long (-1), .long (-9223372036854775808), .long 9223372036854775807])), (h1, .inr (11, [.long n1, .long n2, .long n3, .long n4, .long n5, .long n6])), (h2, .inr (11, [.long o1, .long o2, .long o3, .long o4, .long o5, .long o6]))] H := hP
      have hD : va_D A [(h0, .inr (8, [.ref a1, .ref a2, .ref a3, .ref a4, .ref a5])), (a3, .inr (11, [.long 0, .long (-1), .long 0, .long (-1), .long (-9223372036854775808), .long 9223372036854775807])), (h1, .inr (11, [.long n1, .long n2, .long n3, .long n4, .long n5, .long n6])), (h2, .inr (11, [.long o1, .long o2, .long o3, .long o4, .long o5, .long o6]))] := hD
      refine lv_aload_n hx hb d_Reckoner_divide_56 rfl (lv_at hl 2 rfl) ?_
      refine va_get (D := D) (ci := 11) (v := .long n4) (C := "FilterGuard$Num") (T := F_Num) (N := 6) hx hb hts i_Num hown hK hP 2 rfl rfl 3 (by decide) (hts _ u_377) (fun _ h9 => h9) rfl d_Reckoner_divide_57 ?_
      refine lv_lload_n hx hb d_Reckoner_divide_60 rfl (lv_at hl 0 rfl) ?_
      refine fg_thenl (wr := [(h0, .inr (8, [.ref a1, .ref a2, .ref a3, .ref a4, .ref a5])), (a3, .inr (11, [.long 0, .long (-1), .long 0, .long (-1), .long (-9223372036854775808), .long 9223372036854775807])), (h1, .inr (11, [.long n1, .long n2, .long n3, .long n4, .long n5, .long n6])), (h2, .inr (11, [.long o1, .long o2, .long o3, .long o4, .long o5, .long o6]))]) (fg_runS (As := [.long n4, .long o1]) (rest := [.long (fn_quo n3 o1), .ref a3]) ⟨hx, hb, hml, hown, hts⟩ (c_Reck_quotient l D n4 o1 H.size) (by show fg_nm y_Reckoner_quotient 2; decide +kernel) u_1181 u_1182 u_186 u_1183 ⟨Nat.le_of_ble_eq_true rfl, Nat.le_of_ble_eq_true rfl⟩ hX (hP.sub (ws' := []) [] rfl) (hK.sub (tys' := []) [] rfl) (hD.sub (ws' := []) [] (by decide) rfl) rfl hl.1 (Nat.le_of_ble_eq_true rfl) d_Reckoner_divide_61 ⟨(Nat.le_of_ble_eq_true rfl), (Nat.le_of_ble_eq_true rfl)⟩) hP hD hK hS hA [] [0, 1, 2, 3] rfl rfl (by decide) (by decide) (fun r61_5 u H locs hw61_4 hP hD hK hS => ?_)
      try dsimp only at hw61_4
      have hP : va_P D classes [(h0, .inr (8, [.ref a1, .ref a2, .ref a3, .ref a4, .ref a5])), (a3, .inr (11, [.long 0, .long (-1), .long 0, .long (-1), .long (-9223372036854775808), .long 9223372036854775807])), (h1, .inr (11, [.long n1, .long n2, .long n3, .long n4, .long n5, .long n6])), (h2, .inr (11, [.long o1, .long o2, .long o3, .long o4, .long o5, .long o6]))] H := hP
      have hD : va_D A [(h0, .inr (8, [.ref a1, .ref a2, .ref a3, .ref a4, .ref a5])), (a3, .inr (11, [.long 0, .long (-1), .long 0, .long (-1), .long (-9223372036854775808), .long 9223372036854775807])), (h1, .inr (11, [.long n1, .long n2, .long n3, .long n4, .long n5, .long n6])), (h2, .inr (11, [.long o1, .long o2, .long o3, .long o4, .long o5, .long o6]))] := hD
      have hK : va_K D classes [] s := hK
      refine W.widen (k := 0) (n := 0) (Nat.le_of_ble_eq_true rfl) (Nat.le_of_ble_eq_true rfl) ?_
      subst hw61_4
      have hP : va_P D classes [(h0, .inr (8, [.ref a1, .ref a2, .ref a3, .ref a4, .ref a5])), (a3, .inr (11, [.long 0, .long (-1), .long 0, .long (-1), .long (-9223372036854775808), .long 9223372036854775807])), (h1, .inr (11, [.long n1, .long n2, .long n3, .long n4, .long n5, .long n6])), (h2, .inr (11, [.long o1, .long o2, .long o3, .long o4, .long o5, .long o6]))] H := hP
      have hD : va_D A [(h0, .inr (8, [.ref a1, .ref a2, .ref a3, .ref a4, .ref a5])), (a3, .inr (11, [.long 0, .long (-1), .long 0, .long (-1), .long (-9223372036854775808), .long 9223372036854775807])), (h1, .inr (11, [.long n1, .long n2, .long n3, .long n4, .long n5, .long n6])), (h2, .inr (11, [.long o1, .long o2, .long o3, .long o4, .long o5, .long o6]))] := hD
      refine fg_thenv (wr := [(h0, .inr (8, [.ref a1, .ref a2, .ref a3, .ref a4, .ref a5])), (h1, .inr (11, [.long n1, .long n2, .long n3, .long n4, .long n5, .long n6])), (h2, .inr (11, [.long o1, .long o2, .long o3, .long o4, .long o5, .long o6]))]) (fg_runV (C := "FilterGuard$Num") (As := [.long (fn_quo n3 o1), .long (fn_quo n4 o1)]) (rest := []) (ci := 11) (q0 := 0) ⟨hx, hb, hml, hown, hts⟩ (c_Num_range l D a3 0 (-1) 0 (-1) (-9223372036854775808) 9223372036854775807 (fn_quo n3 o1) (fn_quo n4 o1) H.size) rfl (by show fg_nm y_Num_range 2; decide +kernel) u_1145 u_1146 u_1147 u_187 u_1148 ⟨Nat.le_of_ble_eq_true rfl, Nat.le_of_ble_eq_true rfl⟩ hX (hP.sub (ws' := [(a3, .inr (11, [.long 0, .long (-1), .long 0, .long (-1), .long (-9223372036854775808), .long 9223372036854775807]))]) [1] rfl) (hK.sub (tys' := []) [] rfl) (hD.sub (ws' := [(a3, .inr (11, [.long 0, .long (-1), .long 0, .long (-1), .long (-9223372036854775808), .long 9223372036854775807]))]) [1] (by decide) rfl) rfl rfl rfl rfl hl.1 (Nat.le_of_ble_eq_true rfl) d_Reckoner_divide_64 ⟨(Nat.le_of_ble_eq_true rfl), (Nat.le_of_ble_eq_true rfl)⟩) hP hD hK hS hA [1] [0, 2, 3] rfl rfl (by decide) (by decide) (fun  u H locs hw64_5 hP hD hK hS => ?_)
      try dsimp only at hw64_5
      have hP : va_P D classes [(h0, .inr (8, [.ref a1, .ref a2, .ref a3, .ref a4, .ref a5])), (h1, .inr (11, [.long n1, .long n2, .long n3, .long n4, .long n5, .long n6])), (h2, .inr (11, [.long o1, .long o2, .long o3, .long o4, .long o5, .long o6])), (a3, .inr (11, [.long 0, .long (-1), .long (fn_quo n3 o1), .long (fn_quo n4 o1), .long (-9223372036854775808), .long 9223372036854775807]))] H := hP
      have hD : va_D A [(h0, .inr (8, [.ref a1, .ref a2, .ref a3, .ref a4, .ref a5])), (h1, .inr (11, [.long n1, .long n2, .long n3, .long n4, .long n5, .long n6])), (h2, .inr (11, [.long o1, .long o2, .long o3, .long o4, .long o5, .long o6])), (a3, .inr (11, [.long 0, .long (-1), .long (fn_quo n3 o1), .long (fn_quo n4 o1), .long (-9223372036854775808), .long 9223372036854775807]))] := hD
      have hK : va_K D classes [] s := hK
      refine W.widen (k := 0) (n := 0) (Nat.le_of_ble_eq_true rfl) (Nat.le_of_ble_eq_true rfl) ?_
      exact fg_retv (0, (-1), (fn_quo n3 o1), (fn_quo n4 o1), (-9223372036854775808), 9223372036854775807) hx hb hr hlocks (by unfold fn_div; (repeat rw [if_pos gc_2]); (repeat rw [if_neg gc_3]); try rfl) (hP.sub (ws' := [(h0, .inr (8, [.ref a1, .ref a2, .ref a3, .ref a4, .ref a5])), (a3, .inr (11, [.long 0, .long (-1), .long (fn_quo n3 o1), .long (fn_quo n4 o1), .long (-9223372036854775808), .long 9223372036854775807])), (h1, .inr (11, [.long n1, .long n2, .long n3, .long n4, .long n5, .long n6])), (h2, .inr (11, [.long o1, .long o2, .long o3, .long o4, .long o5, .long o6]))]) [0, 3, 1, 2] rfl) (hK.sub (tys' := []) [] rfl) (hD.sub (ws' := [(h0, .inr (8, [.ref a1, .ref a2, .ref a3, .ref a4, .ref a5])), (a3, .inr (11, [.long 0, .long (-1), .long (fn_quo n3 o1), .long (fn_quo n4 o1), .long (-9223372036854775808), .long 9223372036854775807])), (h1, .inr (11, [.long n1, .long n2, .long n3, .long n4, .long n5, .long n6])), (h2, .inr (11, [.long o1, .long o2, .long o3, .long o4, .long o5, .long o6]))]) [0, 3, 1, 2] (by decide) rfl) hS (Nat.le_of_ble_eq_true rfl) (Nat.le_of_ble_eq_true rfl) d_Reckoner_divide_67
    · have gc_3 : o1 = 0 := (lg_cmp_eq _ _).mp c_3
      refine lv_aload_n hx hb d_Reckoner_divide_33 rfl (lv_at hl 1 rfl) ?_
      refine va_get (D := D) (ci := 8) (v := .ref a3) (C := "FilterGuard$Reckoner") (T := F_Reckoner) (N := 5) hx hb hts i_Reckoner hown hK hP 0 rfl rfl 2 (by decide) (hts _ u_398) (fun _ h9 => h9) rfl d_Reckoner_divide_34 ?_
      refine lv_lconst (v := 0) hx hb d_Reckoner_divide_37 (by decide) ?_
      refine fg_thenv (wr := [(h0, .inr (8, [.ref a1, .ref a2, .ref a3, .ref a4, .ref a5])), (h1, .inr (11, [.long n1, .long n2, .long n3, .long n4, .long n5, .long n6])), (h2, .inr (11, [.long o1, .long o2, .long o3, .long o4, .long o5, .long o6]))]) (fg_runV (C := "FilterGuard$Num") (As := [.long 0]) (rest := []) (ci := 11) (q0 := 0) ⟨hx, hb, hml, hown, hts⟩ (c_Num_exact l D a3 0 (-1) 0 (-1) (-9223372036854775808) 9223372036854775807 0 H.size) rfl (by show fg_nm y_Num_exact 1; decide +kernel) u_1161 u_1037 u_1038 u_187 u_1039 ⟨Nat.le_of_ble_eq_true rfl, Nat.le_of_ble_eq_true rfl⟩ hX (hP.sub (ws' := [(a3, .inr (11, [.long 0, .long (-1), .long 0, .long (-1), .long (-9223372036854775808), .long 9223372036854775807]))]) [1] rfl) (hK.sub (tys' := []) [] rfl) (hD.sub (ws' := [(a3, .inr (11, [.long 0, .long (-1), .long 0, .long (-1), .long (-9223372036854775808), .long 9223372036854775807]))]) [1] (by decide) rfl) rfl rfl rfl rfl hl.1 (Nat.le_of_ble_eq_true rfl) d_Reckoner_divide_38 ⟨(Nat.le_of_ble_eq_true rfl), (Nat.le_of_ble_eq_true rfl)⟩) hP hD hK hS hA [1] [0, 2, 3] rfl rfl (by decide) (by decide) (fun  u H locs hw38_6 hP hD hK hS => ?_)
      try dsimp only at hw38_6
      have hP : va_P D classes [(h0, .inr (8, [.ref a1, .ref a2, .ref a3, .ref a4, .ref a5])), (h1, .inr (11, [.long n1, .long n2, .long n3, .long n4, .long n5, .long n6])), (h2, .inr (11, [.long o1, .long o2, .long o3, .long o4, .long o5, .long o6])), (a3, .inr (11, [.long 0, .long 0, .long 0, .long 0, .long 0, .long 0]))] H := hP
      have hD : va_D A [(h0, .inr (8, [.ref a1, .ref a2, .ref a3, .ref a4, .ref a5])), (h1, .inr (11, [.long n1, .long n2, .long n3, .long n4, .long n5, .long n6])), (h2, .inr (11, [.long o1, .long o2, .long o3, .long o4, .long o5, .long o6])), (a3, .inr (11, [.long 0, .long 0, .long 0, .long 0, .long 0, .long 0]))] := hD
      have hK : va_K D classes [] s := hK
      refine W.widen (k := 0) (n := 0) (Nat.le_of_ble_eq_true rfl) (Nat.le_of_ble_eq_true rfl) ?_
      refine lv_goto (tgt := 67) hx hb d_Reckoner_divide_41 (by decide) ?_
      exact fg_retv (0, 0, 0, 0, 0, 0) hx hb hr hlocks (by unfold fn_div; (repeat rw [if_pos gc_2]); (repeat rw [if_pos gc_3]); try rfl) (hP.sub (ws' := [(h0, .inr (8, [.ref a1, .ref a2, .ref a3, .ref a4, .ref a5])), (a3, .inr (11, [.long 0, .long 0, .long 0, .long 0, .long 0, .long 0])), (h1, .inr (11, [.long n1, .long n2, .long n3, .long n4, .long n5, .long n6])), (h2, .inr (11, [.long o1, .long o2, .long o3, .long o4, .long o5, .long o6]))]) [0, 3, 1, 2] rfl) (hK.sub (tys' := []) [] rfl) (hD.sub (ws' := [(h0, .inr (8, [.ref a1, .ref a2, .ref a3, .ref a4, .ref a5])), (a3, .inr (11, [.long 0, .long 0, .long 0, .long 0, .long 0, .long 0])), (h1, .inr (11, [.long n1, .long n2, .long n3, .long n4, .long n5, .long n6])), (h2, .inr (11, [.long o1, .long o2, .long o3, .long o4, .long o5, .long o6]))]) [0, 3, 1, 2] (by decide) rfl) hS (Nat.le_of_ble_eq_true rfl) (Nat.le_of_ble_eq_true rfl) d_Reckoner_divide_67
  · have gc_2 : ¬ (o2 = 0) := fg_ifz hw6_0 c_2
    refine lv_aload_n hx hb d_Reckoner_divide_12 rfl (lv_at hl 1 rfl) ?_
    refine va_get (D := D) (ci := 8) (v := .ref a3) (C := "FilterGuard$Reckoner") (T := F_Reckoner) (N := 5) hx hb hts i_Reckoner hown hK hP 0 rfl rfl 2 (by decide) (hts _ u_398) (fun _ h9 => h9) rfl d_Reckoner_divide_13 ?_
    refine lv_lconst (v := 0) hx hb d_Reckoner_divide_16 (by decide) ?_
    refine lv_aload_n hx hb d_Reckoner_divide_17 rfl (lv_at hl 2 rfl) ?_
    refine va_get (D := D) (ci := 11) (v := .long n4) (C := "FilterGuard$Num") (T := F_Num) (N := 6) hx hb hts i_Num hown hK hP 2 rfl rfl 3 (by decide) (hts _ u_377) (fun _ h9 => h9) rfl d_Reckoner_divide_18 ?_
    refine fg_thenv (wr := [(h0, .inr (8, [.ref a1, .ref a2, .ref a3, .ref a4, .ref a5])), (h1, .inr (11, [.long n1, .long n2, .long n3, .long n4, .long n5, .long n6])), (h2, .inr (11, [.long o1, .long o2, .long o3, .long o4, .long o5, .long o6]))]) (fg_runV (C := "FilterGuard$Num") (As := [.long 0, .long n4]) (rest := []) (ci := 11) (q0 := 0) ⟨hx, hb, hml, hown, hts⟩ (c_Num_range l D a3 0 (-1) 0 (-1) (-9223372036854775808) 9223372036854775807 0 n4 H.size) rfl (by show fg_nm y_Num_range 2; decide +kernel) u_1145 u_1146 u_1147 u_187 u_1148 ⟨Nat.le_of_ble_eq_true rfl, Nat.le_of_ble_eq_true rfl⟩ hX (hP.sub (ws' := [(a3, .inr (11, [.long 0, .long (-1), .long 0, .long (-1), .long (-9223372036854775808), .long 9223372036854775807]))]) [1] rfl) (hK.sub (tys' := []) [] rfl) (hD.sub (ws' := [(a3, .inr (11, [.long 0, .long (-1), .long 0, .long (-1), .long (-9223372036854775808), .long 9223372036854775807]))]) [1] (by decide) rfl) rfl rfl rfl rfl hl.1 (Nat.le_of_ble_eq_true rfl) d_Reckoner_divide_21 ⟨(Nat.le_of_ble_eq_true rfl), (Nat.le_of_ble_eq_true rfl)⟩) hP hD hK hS hA [1] [0, 2, 3] rfl rfl (by decide) (by decide) (fun  u H locs hw21_7 hP hD hK hS => ?_)
    try dsimp only at hw21_7
    have hP : va_P D classes [(h0, .inr (8, [.ref a1, .ref a2, .ref a3, .ref a4, .ref a5])), (h1, .inr (11, [.long n1, .long n2, .long n3, .long n4, .long n5, .long n6])), (h2, .inr (11, [.long o1, .long o2, .long o3, .long o4, .long o5, .long o6])), (a3, .inr (11, [.long 0, .long (-1), .long 0, .long n4, .long (-9223372036854775808), .long 9223372036854775807]))] H := hP
    have hD : va_D A [(h0, .inr (8, [.ref a1, .ref a2, .ref a3, .ref a4, .ref a5])), (h1, .inr (11, [.long n1, .long n2, .long n3, .long n4, .long n5, .long n6])), (h2, .inr (11, [.long o1, .long o2, .long o3, .long o4, .long o5, .long o6])), (a3, .inr (11, [.long 0, .long (-1), .long 0, .long n4, .long (-9223372036854775808), .long 9223372036854775807]))] := hD
    have hK : va_K D classes [] s := hK
    refine W.widen (k := 0) (n := 0) (Nat.le_of_ble_eq_true rfl) (Nat.le_of_ble_eq_true rfl) ?_
    refine lv_goto (tgt := 67) hx hb d_Reckoner_divide_24 (by decide) ?_
    exact fg_retv (0, (-1), 0, n4, (-9223372036854775808), 9223372036854775807) hx hb hr hlocks (by unfold fn_div; (repeat rw [if_neg gc_2]); try rfl) (hP.sub (ws' := [(h0, .inr (8, [.ref a1, .ref a2, .ref a3, .ref a4, .ref a5])), (a3, .inr (11, [.long 0, .long (-1), .long 0, .long n4, .long (-9223372036854775808), .long 9223372036854775807])), (h1, .inr (11, [.long n1, .long n2, .long n3, .long n4, .long n5, .long n6])), (h2, .inr (11, [.long o1, .long o2, .long o3, .long o4, .long o5, .long o6]))]) [0, 3, 1, 2] rfl) (hK.sub (tys' := []) [] rfl) (hD.sub (ws' := [(h0, .inr (8, [.ref a1, .ref a2, .ref a3, .ref a4, .ref a5])), (a3, .inr (11, [.long 0, .long (-1), .long 0, .long n4, .long (-9223372036854775808), .long 9223372036854775807])), (h1, .inr (11, [.long n1, .long n2, .long n3, .long n4, .long n5, .long n6])), (h2, .inr (11, [.long o1, .long o2, .long o3, .long o4, .long o5, .long o6]))]) [0, 3, 1, 2] (by decide) rfl) hS (Nat.le_of_ble_eq_true rfl) (Nat.le_of_ble_eq_true rfl) d_Reckoner_divide_67
def rm_Reck_divide_s : Room := { frames := 2, cells := 0, slots := 0, locals := 60 }
abbrev q_Reck_divide_s (D : va_G) (h0 : Nat) (a1 : Nat) (a2 : Nat) (a3 : Nat) (a4 : Nat) (a5 : Nat) (h1 : Nat) (n1 : Int64) (n2 : Int64) (n3 : Int64) (n4 : Int64) (n5 : Int64) (n6 : Int64) (A : Nat → Prop) : Array Value → Jvm.State → Outcome → Jvm.State → Prop := va_Qv (fun (u : Int64 × Int64 × Int64 × Int64 × Int64 × Int64) => fn_div n3 n4 n1 n2 = (u.1, u.2.1, u.2.2.1, u.2.2.2.1, u.2.2.2.2.1, u.2.2.2.2.2)) (fg_B D A (fun (u : Int64 × Int64 × Int64 × Int64 × Int64 × Int64) => [(h0, .inr (8, [.ref a1, .ref a2, .ref a3, .ref a4, .ref a5])), (a3, .inr (11, [.long u.1, .long u.2.1, .long u.2.2.1, .long u.2.2.2.1, .long u.2.2.2.2.1, .long u.2.2.2.2.2])), (h1, .inr (11, [.long n1, .long n2, .long n3, .long n4, .long n5, .long n6]))]) (fun (u : Int64 × Int64 × Int64 × Int64 × Int64 × Int64) => [])) A
set_option maxHeartbeats 4000000 in
set_option maxRecDepth 100000 in
theorem c_Reck_divide_s (l : Launch) (D : va_G) (h0 : Nat) (a1 : Nat) (a2 : Nat) (a3 : Nat) (a4 : Nat) (a5 : Nat) (h1 : Nat) (n1 : Int64) (n2 : Int64) (n3 : Int64) (n4 : Int64) (n5 : Int64) (n6 : Int64) (sz : Nat) : Met l y_Reckoner_divide (fg_w y_Reckoner_divide prog_9_method_10_code 5 none) rm_Reck_divide_s (va_Pc [.ref h0, .ref h1, .ref h1] (fg_P D [] [(h0, .inr (8, [.ref a1, .ref a2, .ref a3, .ref a4, .ref a5])), (a3, .inr (11, [.long 0, .long (-1), .long 0, .long (-1), .long (-9223372036854775808), .long 9223372036854775807])), (h1, .inr (11, [.long n1, .long n2, .long n3, .long n4, .long n5, .long n6]))] sz)) (q_Reck_divide_s D h0 a1 a2 a3 a4 a5 h1 n1 n2 n3 n4 n5 n6 (va_A [(h0, .inr (8, [.ref a1, .ref a2, .ref a3, .ref a4, .ref a5])), (a3, .inr (11, [.long 0, .long (-1), .long 0, .long (-1), .long (-9223372036854775808), .long 9223372036854775807])), (h1, .inr (11, [.long n1, .long n2, .long n3, .long n4, .long n5, .long n6]))] sz)) rm_Reck_divide_s.cells rm_Reck_divide_s.slots (va_A [(h0, .inr (8, [.ref a1, .ref a2, .ref a3, .ref a4, .ref a5])), (a3, .inr (11, [.long 0, .long (-1), .long 0, .long (-1), .long (-9223372036854775808), .long 9223372036854775807])), (h1, .inr (11, [.long n1, .long n2, .long n3, .long n4, .long n5, .long n6]))] sz) := by
  refine fg_enter (fun A => q_Reck_divide_s D h0 a1 a2 a3 a4 a5 h1 n1 n2 n3 n4 n5 n6 A) (by decide +kernel) (Nat.le_of_ble_eq_true rfl) ?_
  intro p e s m below meth c ls A hx hb hml hown hts hr hlocks hin hP hK hD hS hA hX hl
  have hl : lv_has ls 5 [(0, .ref h0), (1, .ref h1), (2, .ref h1)] := hl
  refine lv_aload_n hx hb d_Reckoner_divide_0 rfl (lv_at hl 2 rfl) ?_
  refine va_get (D := D) (ci := 11) (v := .long n1) (C := "FilterGuard$Num") (T := F_Num) (N := 6) hx hb hts i_Num hown hK hP 2 rfl rfl 0 (by decide) (hts _ u_368) (fun _ h9 => h9) rfl d_Reckoner_divide_1 ?_
  refine lv_lstore_n (lv' := [(3, .long n1), (0, .ref h0), (1, .ref h1), (2, .ref h1)]) hx hb d_Reckoner_divide_4 rfl hl (by decide) rfl (fun ls hl => ?_)
  refine lv_aload_n hx hb d_Reckoner_divide_5 rfl (lv_at hl 3 rfl) ?_
  refine fg_theni (wr := [(h0, .inr (8, [.ref a1, .ref a2, .ref a3, .ref a4, .ref a5])), (a3, .inr (11, [.long 0, .long (-1), .long 0, .long (-1), .long (-9223372036854775808), .long 9223372036854775807]))]) (fg_runV (C := "FilterGuard$Num") (As := []) (rest := []) (ci := 11) (q0 := 0) ⟨hx, hb, hml, hown, hts⟩ (c_Num_isExact l D h1 n1 n2 n3 n4 n5 n6 s.heap.size) rfl (by show fg_nm y_Num_isExact0 0; decide +kernel) u_1157 u_1158 u_1159 u_187 u_1160 ⟨Nat.le_of_ble_eq_true rfl, Nat.le_of_ble_eq_true rfl⟩ hX (hP.sub (ws' := [(h1, .inr (11, [.long n1, .long n2, .long n3, .long n4, .long n5, .long n6]))]) [2] rfl) (hK.sub (tys' := []) [] rfl) (hD.sub (ws' := [(h1, .inr (11, [.long n1, .long n2, .long n3, .long n4, .long n5, .long n6]))]) [2] (by decide) rfl) rfl rfl rfl rfl hl.1 (Nat.le_of_ble_eq_true rfl) d_Reckoner_divide_6 ⟨(Nat.le_of_ble_eq_true rfl), (Nat.le_of_ble_eq_true rfl)⟩) hP hD hK hS hA [2] [0, 1] rfl rfl (by decide) (by decide) (fun r6_1 u H locs hw6_0 hP hD hK hS => ?_)
  try dsimp only at hw6_0
  have hP : va_P D classes [(h0, .inr (8, [.ref a1, .ref a2, .ref a3, .ref a4, .ref a5])), (a3, .inr (11, [.long 0, .long (-1), .long 0, .long (-1), .long (-9223372036854775808), .long 9223372036854775807])), (h1, .inr (11, [.long n1, .long n2, .long n3, .long n4, .long n5, .long n6]))] H := hP
  have hD : va_D A [(h0, .inr (8, [.ref a1, .ref a2, .ref a3, .ref a4, .ref a5])), (a3, .inr (11, [.long 0, .long (-1), .long 0, .long (-1), .long (-9223372036854775808), .long 9223372036854775807])), (h1, .inr (11, [.long n1, .long n2, .long n3, .long n4, .long n5, .long n6]))] := hD
  have hK : va_K D classes [] s := hK
  refine W.widen (k := 0) (n := 0) (Nat.le_of_ble_eq_true rfl) (Nat.le_of_ble_eq_true rfl) ?_
  refine lv_if_ne (tgt := 27) hx hb d_Reckoner_divide_9 (by decide) (fun c_2 => ?_) (fun c_2 => ?_)
  · have gc_2 : (n2 = 0) := fg_ifnz hw6_0 c_2
    refine lv_lload_n hx hb d_Reckoner_divide_27 rfl (lv_at hl 0 rfl) ?_
    refine lv_lconst (v := 0) hx hb d_Reckoner_divide_28 (by decide) ?_
    refine W.lcmp hx hb d_Reckoner_divide_29 ?_
    refine lv_if_ne (tgt := 44) hx hb d_Reckoner_divide_30 (by decide) (fun c_3 => ?_) (fun c_3 => ?_)
    · have gc_3 : ¬ n1 = 0 := fun z => c_3 ((lg_cmp_eq _ _).mpr z)
      refine lv_aload_n hx hb d_Reckoner_divide_44 rfl (lv_at hl 1 rfl) ?_
      refine va_get (D := D) (ci := 8) (v := .ref a3) (C := "FilterGuard$Reckoner") (T := F_Reckoner) (N := 5) hx hb hts i_Reckoner hown hK hP 0 rfl rfl 2 (by decide) (hts _ u_398) (fun _ h9 => h9) rfl d_Reckoner_divide_45 ?_
      refine lv_aload_n hx hb d_Reckoner_divide_48 rfl (lv_at hl 2 rfl) ?_
      refine va_get (D := D) (ci := 11) (v := .long n3) (C := "FilterGuard$Num") (T := F_Num) (N := 6) hx hb hts i_Num hown hK hP 2 rfl rfl 2 (by decide) (hts _ u_374) (fun _ h9 => h9) rfl d_Reckoner_divide_49 ?_
      refine lv_lload_n hx hb d_Reckoner_divide_52 rfl (lv_at hl 0 rfl) ?_
      refine fg_thenl (wr := [(h0, .inr (8, [.ref a1, .ref a2, .ref a3, .ref a4, .ref a5])), (a3, .inr (11, [.long 0, .long (-1), .long 0, .long (-1), .long (-9223372036854775808), .long 9223372036854775807])), (h1, .inr (11, [.long n1, .long n2, .long n3, .long n4, .long n5, .long n6]))]) (fg_runS (As := [.long n3, .long n1]) (rest := [.ref a3]) ⟨hx, hb, hml, hown, hts⟩ (c_Reck_quotient l D n3 n1 H.size) (by show fg_nm y_Reckoner_quotient 2; decide +kernel) u_1181 u_1182 u_186 u_1183 ⟨Nat.le_of_ble_eq_true rfl, Nat.le_of_ble_eq_true rfl⟩ hX (hP.sub (ws' := []) [] rfl) (hK.sub (tys' := []) [] rfl) (hD.sub (ws' := []) [] (by decide) rfl) rfl hl.1 (Nat.le_of_ble_eq_true rfl) d_Reckoner_divide_53 ⟨(Nat.le_of_ble_eq_true rfl), (Nat.le_of_ble_eq_true rfl)⟩) hP hD hK hS hA [] [0, 1, 2] rfl rfl (by decide) (by decide) (fun r53_4 u H locs hw53_3 hP hD hK hS => ?_)
      try dsimp only at hw53_3
      have hP : va_P D classes [(h0, .inr (8, [.ref a1, .ref a2, .ref a3, .ref a4, .ref a5])), (a3, .inr (11, [.long 0, .long (-1), .long 0, .long (-1), .long (-9223372036854775808), .long 9223372036854775807])), (h1, .inr (11, [.long n1, .long n2, .long n3, .long n4, .long n5, .long n6]))] H := hP
      have hD : va_D A [(h0, .inr (8, [.ref a1, .ref a2, .ref a3, .ref a4, .ref a5])), (a3, .inr (11, [.long 0, .long (-1), .long 0, .long (-1), .long (-9223372036854775808), .long 9223372036854775807])), (h1, .inr (11, [.long n1, .long n2, .long n3, .long n4, .long n5, .long n6]))] := hD
      have hK : va_K D classes [] s := hK
      refine W.widen (k := 0) (n := 0) (Nat.le_of_ble_eq_true rfl) (Nat.le_of_ble_eq_true rfl) ?_
      subst hw53_3
      have hP : va_P D classes [(h0, .inr (8, [.ref a1, .ref a2, .ref a3, .ref a4, .ref a5])), (a3, .inr (11, [.long 0, .long (-1), .long 0, .long (-1), .long (-9223372036854775808), .long 9223372036854775807])), (h1, .inr (11, [.long n1, .long n2, .long n3, .long n4, .long n5, .long n6]))] H := hP
      have hD : va_D A [(h0, .inr (8, [.ref a1, .ref a2, .ref a3, .ref a4, .ref a5])), (a3, .inr (11, [.long 0, .long (-1), .long 0, .long (-1), .long (-9223372036854775808), .long 9223372036854775807])), (h1, .inr (11, [.long n1, .long n2, .long n3, .long n4, .long n5, .long n6]))] := hD
      refine lv_aload_n hx hb d_Reckoner_divide_56 rfl (lv_at hl 2 rfl) ?_
      refine va_get (D := D) (ci := 11) (v := .long n4) (C := "FilterGuard$Num") (T := F_Num) (N := 6) hx hb hts i_Num hown hK hP 2 rfl rfl 3 (by decide) (hts _ u_377) (fun _ h9 => h9) rfl d_Reckoner_divide_57 ?_
      refine lv_lload_n hx hb d_Reckoner_divide_60 rfl (lv_at hl 0 rfl) ?_
      refine fg_thenl (wr := [(h0, .inr (8, [.ref a1, .ref a2, .ref a3, .ref a4, .ref a5])), (a3, .inr (11, [.long 0, .long (-1), .long 0, .long (-1), .long (-9223372036854775808), .long 9223372036854775807])), (h1, .inr (11, [.long n1, .long n2, .long n3, .long n4, .long n5, .long n6]))]) (fg_runS (As := [.long n4, .long n1]) (rest := [.long (fn_quo n3 n1), .ref a3]) ⟨hx, hb, hml, hown, hts⟩ (c_Reck_quotient l D n4 n1 H.size) (by show fg_nm y_Reckoner_quotient 2; decide +kernel) u_1181 u_1182 u_186 u_1183 ⟨Nat.le_of_ble_eq_true rfl, Nat.le_of_ble_eq_true rfl⟩ hX (hP.sub (ws' := []) [] rfl) (hK.sub (tys' := []) [] rfl) (hD.sub (ws' := []) [] (by decide) rfl) rfl hl.1 (Nat.le_of_ble_eq_true rfl) d_Reckoner_divide_61 ⟨(Nat.le_of_ble_eq_true rfl), (Nat.le_of_ble_eq_true rfl)⟩) hP hD hK hS hA [] [0, 1, 2] rfl rfl (by decide) (by decide) (fun r61_5 u H locs hw61_4 hP hD hK hS => ?_)
      try dsimp only at hw61_4
      have hP : va_P D classes [(h0, .inr (8, [.ref a1, .ref a2, .ref a3, .ref a4, .ref a5])), (a3, .inr (11, [.long 0, .long (-1), .long 0, .long (-1), .long (-9223372036854775808), .long 9223372036854775807])), (h1, .inr (11, [.long n1, .long n2, .long n3, .long n4, .long n5, .long n6]))] H := hP
      have hD : va_D A [(h0, .inr (8, [.ref a1, .ref a2, .ref a3, .ref a4, .ref a5])), (a3, .inr (11, [.long 0, .long (-1), .long 0, .long (-1), .long (-9223372036854775808), .long 9223372036854775807])), (h1, .inr (11, [.long n1, .long n2, .long n3, .long n4, .long n5, .long n6]))] := hD
      have hK : va_K D classes [] s := hK
      refine W.widen (k := 0) (n := 0) (Nat.le_of_ble_eq_true rfl) (Nat.le_of_ble_eq_true rfl) ?_
      subst hw61_4
      have hP : va_P D classes [(h0, .inr (8, [.ref a1, .ref a2, .ref a3, .ref a4, .ref a5])), (a3, .inr (11, [.long 0, .long (-1), .long 0, .long (-1), .long (-9223372036854775808), .long 9223372036854775807])), (h1, .inr (11, [.long n1, .long n2, .long n3, .long n4, .long n5, .long n6]))] H := hP
      have hD : va_D A [(h0, .inr (8, [.ref a1, .ref a2, .ref a3, .ref a4, .ref a5])), (a3, .inr (11, [.long 0, .long (-1), .long 0, .long (-1), .long (-9223372036854775808), .long 9223372036854775807])), (h1, .inr (11, [.long n1, .long n2, .long n3, .long n4, .long n5, .long n6]))] := hD
      refine fg_thenv (wr := [(h0, .inr (8, [.ref a1, .ref a2, .ref a3, .ref a4, .ref a5])), (h1, .inr (11, [.long n1, .long n2, .long n3, .long n4, .long n5, .long n6]))]) (fg_runV (C := "FilterGuard$Num") (As := [.long (fn_quo n3 n1), .long (fn_quo n4 n1)]) (rest := []) (ci := 11) (q0 := 0) ⟨hx, hb, hml, hown, hts⟩ (c_Num_range l D a3 0 (-1) 0 (-1) (-9223372036854775808) 9223372036854775807 (fn_quo n3 n1) (fn_quo n4 n1) H.size) rfl (by show fg_nm y_Num_range 2; decide +kernel) u_1145 u_1146 u_1147 u_187 u_1148 ⟨Nat.le_of_ble_eq_true rfl, Nat.le_of_ble_eq_true rfl⟩ hX (hP.sub (ws' := [(a3, .inr (11, [.long 0, .long (-1), .long 0, .long (-1), .long (-9223372036854775808), .long 9223372036854775807]))]) [1] rfl) (hK.sub (tys' := []) [] rfl) (hD.sub (ws' := [(a3, .inr (11, [.long 0, .long (-1), .long 0, .long (-1), .long (-9223372036854775808), .long 9223372036854775807]))]) [1] (by decide) rfl) rfl rfl rfl rfl hl.1 (Nat.le_of_ble_eq_true rfl) d_Reckoner_divide_64 ⟨(Nat.le_of_ble_eq_true rfl), (Nat.le_of_ble_eq_true rfl)⟩) hP hD hK hS hA [1] [0, 2] rfl rfl (by decide) (by decide) (fun  u H locs hw64_5 hP hD hK hS => ?_)
      try dsimp only at hw64_5
      have hP : va_P D classes [(h0, .inr (8, [.ref a1, .ref a2, .ref a3, .ref a4, .ref a5])), (h1, .inr (11, [.long n1, .long n2, .long n3, .long n4, .long n5, .long n6])), (a3, .inr (11, [.long 0, .long (-1), .long (fn_quo n3 n1), .long (fn_quo n4 n1), .long (-9223372036854775808), .long 9223372036854775807]))] H := hP
      have hD : va_D A [(h0, .inr (8, [.ref a1, .ref a2, .ref a3, .ref a4, .ref a5])), (h1, .inr (11, [.long n1, .long n2, .long n3, .long n4, .long n5, .long n6])), (a3, .inr (11, [.long 0, .long (-1), .long (fn_quo n3 n1), .long (fn_quo n4 n1), .long (-9223372036854775808), .long 9223372036854775807]))] := hD
      have hK : va_K D classes [] s := hK
      refine W.widen (k := 0) (n := 0) (Nat.le_of_ble_eq_true rfl) (Nat.le_of_ble_eq_true rfl) ?_
      exact fg_retv (0, (-1), (fn_quo n3 n1), (fn_quo n4 n1), (-9223372036854775808), 9223372036854775807) hx hb hr hlocks (by unfold fn_div; (repeat rw [if_pos gc_2]); (repeat rw [if_neg gc_3]); try rfl) (hP.sub (ws' := [(h0, .inr (8, [.ref a1, .ref a2, .ref a3, .ref a4, .ref a5])), (a3, .inr (11, [.long 0, .long (-1), .long (fn_quo n3 n1), .long (fn_quo n4 n1), .long (-9223372036854775808), .long 9223372036854775807])), (h1, .inr (11, [.long n1, .long n2, .long n3, .long n4, .long n5, .long n6]))]) [0, 2, 1] rfl) (hK.sub (tys' := []) [] rfl) (hD.sub (ws' := [(h0, .inr (8, [.ref a1, .ref a2, .ref a3, .ref a4, .ref a5])), (a3, .inr (11, [.long 0, .long (-1), .long (fn_quo n3 n1), .long (fn_quo n4 n1), .long (-9223372036854775808), .long 9223372036854775807])), (h1, .inr (11, [.long n1, .long n2, .long n3, .long n4, .long n5, .long n6]))]) [0, 2, 1] (by decide) rfl) hS (Nat.le_of_ble_eq_true rfl) (Nat.le_of_ble_eq_true rfl) d_Reckoner_divide_67
    · have gc_3 : n1 = 0 := (lg_cmp_eq _ _).mp c_3
      refine lv_aload_n hx hb d_Reckoner_divide_33 rfl (lv_at hl 1 rfl) ?_
      refine va_get (D := D) (ci := 8) (v := .ref a3) (C := "FilterGuard$Reckoner") (T := F_Reckoner) (N := 5) hx hb hts i_Reckoner hown hK hP 0 rfl rfl 2 (by decide) (hts _ u_398) (fun _ h9 => h9) rfl d_Reckoner_divide_34 ?_
      refine lv_lconst (v := 0) hx hb d_Reckoner_divide_37 (by decide) ?_
      refine fg_thenv (wr := [(h0, .inr (8, [.ref a1, .ref a2, .ref a3, .ref a4, .ref a5])), (h1, .inr (11, [.long n1, .long n2, .long n3, .long n4, .long n5, .long n6]))]) (fg_runV (C := "FilterGuard$Num") (As := [.long 0]) (rest := []) (ci := 11) (q0 := 0) ⟨hx, hb, hml, hown, hts⟩ (c_Num_exact l D a3 0 (-1) 0 (-1) (-9223372036854775808) 9223372036854775807 0 H.size) rfl (by show fg_nm y_Num_exact 1; decide +kernel) u_1161 u_1037 u_1038 u_187 u_1039 ⟨Nat.le_of_ble_eq_true rfl, Nat.le_of_ble_eq_true rfl⟩ hX (hP.sub (ws' := [(a3, .inr (11, [.long 0, .long (-1), .long 0, .long (-1), .long (-9223372036854775808), .long 9223372036854775807]))]) [1] rfl) (hK.sub (tys' := []) [] rfl) (hD.sub (ws' := [(a3, .inr (11, [.long 0, .long (-1), .long 0, .long (-1), .long (-9223372036854775808), .long 9223372036854775807]))]) [1] (by decide) rfl) rfl rfl rfl rfl hl.1 (Nat.le_of_ble_eq_true rfl) d_Reckoner_divide_38 ⟨(Nat.le_of_ble_eq_true rfl), (Nat.le_of_ble_eq_true rfl)⟩) hP hD hK hS hA [1] [0, 2] rfl rfl (by decide) (by decide) (fun  u H locs hw38_6 hP hD hK hS => ?_)
      try dsimp only at hw38_6
      have hP : va_P D classes [(h0, .inr (8, [.ref a1, .ref a2, .ref a3, .ref a4, .ref a5])), (h1, .inr (11, [.long n1, .long n2, .long n3, .long n4, .long n5, .long n6])), (a3, .inr (11, [.long 0, .long 0, .long 0, .long 0, .long 0, .long 0]))] H := hP
      have hD : va_D A [(h0, .inr (8, [.ref a1, .ref a2, .ref a3, .ref a4, .ref a5])), (h1, .inr (11, [.long n1, .long n2, .long n3, .long n4, .long n5, .long n6])), (a3, .inr (11, [.long 0, .long 0, .long 0, .long 0, .long 0, .long 0]))] := hD
      have hK : va_K D classes [] s := hK
      refine W.widen (k := 0) (n := 0) (Nat.le_of_ble_eq_true rfl) (Nat.le_of_ble_eq_true rfl) ?_
      refine lv_goto (tgt := 67) hx hb d_Reckoner_divide_41 (by decide) ?_
      exact fg_retv (0, 0, 0, 0, 0, 0) hx hb hr hlocks (by unfold fn_div; (repeat rw [if_pos gc_2]); (repeat rw [if_pos gc_3]); try rfl) (hP.sub (ws' := [(h0, .inr (8, [.ref a1, .ref a2, .ref a3, .ref a4, .ref a5])), (a3, .inr (11, [.long 0, .long 0, .long 0, .long 0, .long 0, .long 0])), (h1, .inr (11, [.long n1, .long n2, .long n3, .long n4, .long n5, .long n6]))]) [0, 2, 1] rfl) (hK.sub (tys' := []) [] rfl) (hD.sub (ws' := [(h0, .inr (8, [.ref a1, .ref a2, .ref a3, .ref a4, .ref a5])), (a3, .inr (11, [.long 0, .long 0, .long 0, .long 0, .long 0, .long 0])), (h1, .inr (11, [.long n1, .long n2, .long n3, .long n4, .long n5, .long n6]))]) [0, 2, 1] (by decide) rfl) hS (Nat.le_of_ble_eq_true rfl) (Nat.le_of_ble_eq_true rfl) d_Reckoner_divide_67
  · have gc_2 : ¬ (n2 = 0) := fg_ifz hw6_0 c_2
    refine lv_aload_n hx hb d_Reckoner_divide_12 rfl (lv_at hl 1 rfl) ?_
    refine va_get (D := D) (ci := 8) (v := .ref a3) (C := "FilterGuard$Reckoner") (T := F_Reckoner) (N := 5) hx hb hts i_Reckoner hown hK hP 0 rfl rfl 2 (by decide) (hts _ u_398) (fun _ h9 => h9) rfl d_Reckoner_divide_13 ?_
    refine lv_lconst (v := 0) hx hb d_Reckoner_divide_16 (by decide) ?_
    refine lv_aload_n hx hb d_Reckoner_divide_17 rfl (lv_at hl 2 rfl) ?_
    refine va_get (D := D) (ci := 11) (v := .long n4) (C := "FilterGuard$Num") (T := F_Num) (N := 6) hx hb hts i_Num hown hK hP 2 rfl rfl 3 (by decide) (hts _ u_377) (fun _ h9 => h9) rfl d_Reckoner_divide_18 ?_
    refine fg_thenv (wr := [(h0, .inr (8, [.ref a1, .ref a2, .ref a3, .ref a4, .ref a5])), (h1, .inr (11, [.long n1, .long n2, .long n3, .long n4, .long n5, .long n6]))]) (fg_runV (C := "FilterGuard$Num") (As := [.long 0, .long n4]) (rest := []) (ci := 11) (q0 := 0) ⟨hx, hb, hml, hown, hts⟩ (c_Num_range l D a3 0 (-1) 0 (-1) (-9223372036854775808) 9223372036854775807 0 n4 H.size) rfl (by show fg_nm y_Num_range 2; decide +kernel) u_1145 u_1146 u_1147 u_187 u_1148 ⟨Nat.le_of_ble_eq_true rfl, Nat.le_of_ble_eq_true rfl⟩ hX (hP.sub (ws' := [(a3, .inr (11, [.long 0, .long (-1), .long 0, .long (-1), .long (-9223372036854775808), .long 9223372036854775807]))]) [1] rfl) (hK.sub (tys' := []) [] rfl) (hD.sub (ws' := [(a3, .inr (11, [.long 0, .long (-1), .long 0, .long (-1), .long (-9223372036854775808), .long 9223372036854775807]))]) [1] (by decide) rfl) rfl rfl rfl rfl hl.1 (Nat.le_of_ble_eq_true rfl) d_Reckoner_divide_21 ⟨(Nat.le_of_ble_eq_true rfl), (Nat.le_of_ble_eq_true rfl)⟩) hP hD hK hS hA [1] [0, 2] rfl rfl (by decide) (by decide) (fun  u H locs hw21_7 hP hD hK hS => ?_)
    try dsimp only at hw21_7
    have hP : va_P D classes [(h0, .inr (8, [.ref a1, .ref a2, .ref a3, .ref a4, .ref a5])), (h1, .inr (11, [.long n1, .long n2, .long n3, .long n4, .long n5, .long n6])), (a3, .inr (11, [.long 0, .long (-1), .long 0, .long n4, .long (-9223372036854775808), .long 9223372036854775807]))] H := hP
    have hD : va_D A [(h0, .inr (8, [.ref a1, .ref a2, .ref a3, .ref a4, .ref a5])), (h1, .inr (11, [.long n1, .long n2, .long n3, .long n4, .long n5, .long n6])), (a3, .inr (11, [.long 0, .long (-1), .long 0, .long n4, .long (-9223372036854775808), .long 9223372036854775807]))] := hD
    have hK : va_K D classes [] s := hK
    refine W.widen (k := 0) (n := 0) (Nat.le_of_ble_eq_true rfl) (Nat.le_of_ble_eq_true rfl) ?_
    refine lv_goto (tgt := 67) hx hb d_Reckoner_divide_24 (by decide) ?_
    exact fg_retv (0, (-1), 0, n4, (-9223372036854775808), 9223372036854775807) hx hb hr hlocks (by unfold fn_div; (repeat rw [if_neg gc_2]); try rfl) (hP.sub (ws' := [(h0, .inr (8, [.ref a1, .ref a2, .ref a3, .ref a4, .ref a5])), (a3, .inr (11, [.long 0, .long (-1), .long 0, .long n4, .long (-9223372036854775808), .long 9223372036854775807])), (h1, .inr (11, [.long n1, .long n2, .long n3, .long n4, .long n5, .long n6]))]) [0, 2, 1] rfl) (hK.sub (tys' := []) [] rfl) (hD.sub (ws' := [(h0, .inr (8, [.ref a1, .ref a2, .ref a3, .ref a4, .ref a5])), (a3, .inr (11, [.long 0, .long (-1), .long 0, .long n4, .long (-9223372036854775808), .long 9223372036854775807])), (h1, .inr (11, [.long n1, .long n2, .long n3, .long n4, .long n5, .long n6]))]) [0, 2, 1] (by decide) rfl) hS (Nat.le_of_ble_eq_true rfl) (Nat.le_of_ble_eq_true rfl) d_Reckoner_divide_67
abbrev y_Reckoner_rest : MethodName := ⟨"FilterGuard$Reckoner", "rest", "(LFilterGuard$Num;LFilterGuard$Num;)V"⟩
theorem d_Reckoner_rest_0 : decode prog_9_method_11_code 0 = .ok (.aload_n 2, 1) := by decide +kernel
theorem d_Reckoner_rest_1 : decode prog_9_method_11_code 1 = .ok (.invokevirtual 45, 3) := by decide +kernel
theorem d_Reckoner_rest_4 : decode prog_9_method_11_code 4 = .ok (.ifCond .ne 18, 3) := by decide +kernel
theorem d_Reckoner_rest_22 : decode prog_9_method_11_code 22 = .ok (.aload_n 2, 1) := by decide +kernel
theorem d_Reckoner_rest_23 : decode prog_9_method_11_code 23 = .ok (.getfield 49, 3) := by decide +kernel
theorem d_Reckoner_rest_26 : decode prog_9_method_11_code 26 = .ok (.lconst 0, 1) := by decide +kernel
theorem d_Reckoner_rest_27 : decode prog_9_method_11_code 27 = .ok (.lcmp, 1) := by decide +kernel
theorem d_Reckoner_rest_28 : decode prog_9_method_11_code 28 = .ok (.ifCond .eq 17, 3) := by decide +kernel
theorem d_Reckoner_rest_45 : decode prog_9_method_11_code 45 = .ok (.aload_n 0, 1) := by decide +kernel
theorem d_Reckoner_rest_46 : decode prog_9_method_11_code 46 = .ok (.getfield 21, 3) := by decide +kernel
theorem d_Reckoner_rest_49 : decode prog_9_method_11_code 49 = .ok (.aload_n 1, 1) := by decide +kernel
theorem d_Reckoner_rest_50 : decode prog_9_method_11_code 50 = .ok (.invokevirtual 38, 3) := by decide +kernel
theorem u_1189 : Cond.methodLink "FilterGuard$Reckoner" 38 ⟨"FilterGuard$Num", "copy", "(LFilterGuard$Num;)V"⟩ ∈ fg_g := fg_in (List.mem_of_getElem? (i := 1189) (by decide +kernel)) rfl
theorem u_1085 : Cond.code ⟨"FilterGuard$Num", "copy", "(LFilterGuard$Num;)V"⟩ prog_8_method_6_code 2 none ∈ fg_g := fg_in (List.mem_of_getElem? (i := 1085) (by decide +kernel)) rfl
theorem u_1083 : Cond.instanceMethod ⟨"FilterGuard$Num", "copy", "(LFilterGuard$Num;)V"⟩ ∈ fg_g := fg_in (List.mem_of_getElem? (i := 1083) (by decide +kernel)) rfl
theorem u_1084 : Cond.selects "FilterGuard$Num" ⟨"FilterGuard$Num", "copy", "(LFilterGuard$Num;)V"⟩ ⟨"FilterGuard$Num", "copy", "(LFilterGuard$Num;)V"⟩ ∈ fg_g := fg_in (List.mem_of_getElem? (i := 1084) (by decide +kernel)) rfl
theorem d_Reckoner_rest_53 : decode prog_9_method_11_code 53 = .ok (.goto 17, 3) := by decide +kernel
theorem d_Reckoner_rest_70 : decode prog_9_method_11_code 70 = .ok (.return_, 1) := by decide +kernel
theorem d_Reckoner_rest_31 : decode prog_9_method_11_code 31 = .ok (.aload_n 1, 1) := by decide +kernel
theorem d_Reckoner_rest_32 : decode prog_9_method_11_code 32 = .ok (.getfield 122, 3) := by decide +kernel
theorem d_Reckoner_rest_35 : decode prog_9_method_11_code 35 = .ok (.aload_n 2, 1) := by decide +kernel
theorem d_Reckoner_rest_36 : decode prog_9_method_11_code 36 = .ok (.getfield 49, 3) := by decide +kernel
theorem d_Reckoner_rest_39 : decode prog_9_method_11_code 39 = .ok (.invokestatic 134, 3) := by decide +kernel
theorem d_Reckoner_rest_42 : decode prog_9_method_11_code 42 = .ok (.ifCond .eq 14, 3) := by decide +kernel
theorem d_Reckoner_rest_56 : decode prog_9_method_11_code 56 = .ok (.aload_n 0, 1) := by decide +kernel
theorem d_Reckoner_rest_57 : decode prog_9_method_11_code 57 = .ok (.getfield 21, 3) := by decide +kernel
theorem d_Reckoner_rest_60 : decode prog_9_method_11_code 60 = .ok (.lconst 0, 1) := by decide +kernel
theorem d_Reckoner_rest_61 : decode prog_9_method_11_code 61 = .ok (.aload_n 2, 1) := by decide +kernel
theorem d_Reckoner_rest_62 : decode prog_9_method_11_code 62 = .ok (.getfield 49, 3) := by decide +kernel
theorem d_Reckoner_rest_65 : decode prog_9_method_11_code 65 = .ok (.lconst 1, 1) := by decide +kernel
theorem d_Reckoner_rest_66 : decode prog_9_method_11_code 66 = .ok (.lsub, 1) := by decide +kernel
theorem d_Reckoner_rest_67 : decode prog_9_method_11_code 67 = .ok (.invokevirtual 125, 3) := by decide +kernel
theorem d_Reckoner_rest_7 : decode prog_9_method_11_code 7 = .ok (.aload_n 0, 1) := by decide +kernel
theorem d_Reckoner_rest_8 : decode prog_9_method_11_code 8 = .ok (.getfield 21, 3) := by decide +kernel
theorem d_Reckoner_rest_11 : decode prog_9_method_11_code 11 = .ok (.lconst 0, 1) := by decide +kernel
theorem d_Reckoner_rest_12 : decode prog_9_method_11_code 12 = .ok (.aload_n 1, 1) := by decide +kernel
theorem d_Reckoner_rest_13 : decode prog_9_method_11_code 13 = .ok (.getfield 122, 3) := by decide +kernel
theorem d_Reckoner_rest_16 : decode prog_9_method_11_code 16 = .ok (.invokevirtual 125, 3) := by decide +kernel
theorem d_Reckoner_rest_19 : decode prog_9_method_11_code 19 = .ok (.goto 51, 3) := by decide +kernel
def rm_Reck_rest : Room := { frames := 2, cells := 0, slots := 0, locals := 60 }
abbrev q_Reck_rest (D : va_G) (h0 : Nat) (a1 : Nat) (a2 : Nat) (a3 : Nat) (a4 : Nat) (a5 : Nat) (h1 : Nat) (n1 : Int64) (n2 : Int64) (n3 : Int64) (n4 : Int64) (n5 : Int64) (n6 : Int64) (h2 : Nat) (o1 : Int64) (o2 : Int64) (o3 : Int64) (o4 : Int64) (o5 : Int64) (o6 : Int64) (A : Nat → Prop) : Array Value → Jvm.State → Outcome → Jvm.State → Prop := va_Qv (fun (u : Int64 × Int64 × Int64 × Int64 × Int64 × Int64) => fn_rest n1 n2 n3 n4 n5 n6 o1 o2 = (u.1, u.2.1, u.2.2.1, u.2.2.2.1, u.2.2.2.2.1, u.2.2.2.2.2)) (fg_B D A (fun (u : Int64 × Int64 × Int64 × Int64 × Int64 × Int64) => [(h0, .inr (8, [.ref a1, .ref a2, .ref a3, .ref a4, .ref a5])), (a3, .inr (11, [.long u.1, .long u.2.1, .long u.2.2.1, .long u.2.2.2.1, .long u.2.2.2.2.1, .long u.2.2.2.2.2])), (h1, .inr (11, [.long n1, .long n2, .long n3, .long n4, .long n5, .long n6])), (h2, .inr (11, [.long o1, .long o2, .long o3, .long o4, .long o5, .long o6]))]) (fun (u : Int64 × Int64 × Int64 × Int64 × Int64 × Int64) => [])) A
set_option maxHeartbeats 4000000 in
set_option maxRecDepth 100000 in
theorem c_Reck_rest (l : Launch) (D : va_G) (h0 : Nat) (a1 : Nat) (a2 : Nat) (a3 : Nat) (a4 : Nat) (a5 : Nat) (h1 : Nat) (n1 : Int64) (n2 : Int64) (n3 : Int64) (n4 : Int64) (n5 : Int64) (n6 : Int64) (h2 : Nat) (o1 : Int64) (o2 : Int64) (o3 : Int64) (o4 : Int64) (o5 : Int64) (o6 : Int64) (sz : Nat) : Met l y_Reckoner_rest (fg_w y_Reckoner_rest prog_9_method_11_code 3 none) rm_Reck_rest (va_Pc [.ref h0, .ref h1, .ref h2] (fg_P D [] [(h0, .inr (8, [.ref a1, .ref a2, .ref a3, .ref a4, .ref a5])), (a3, .inr (11, [.long 0, .long (-1), .long 0, .long (-1), .long (-9223372036854775808), .long 9223372036854775807])), (h1, .inr (11, [.long n1, .long n2, .long n3, .long n4, .long n5, .long n6])), (h2, .inr (11, [.long o1, .long o2, .long o3, .long o4, .long o5, .long o6]))] sz)) (q_Reck_rest D h0 a1 a2 a3 a4 a5 h1 n1 n2 n3 n4 n5 n6 h2 o1 o2 o3 o4 o5 o6 (va_A [(h0, .inr (8, [.ref a1, .ref a2, .ref a3, .ref a4, .ref a5])), (a3, .inr (11, [.long 0, .long (-1), .long 0, .long (-1), .long (-9223372036854775808), .long 9223372036854775807])), (h1, .inr (11, [.long n1, .long n2, .long n3, .long n4, .long n5, .long n6])), (h2, .inr (11, [.long o1, .long o2, .long o3, .long o4, .long o5, .long o6]))] sz)) rm_Reck_rest.cells rm_Reck_rest.slots (va_A [(h0, .inr (8, [.ref a1, .ref a2, .ref a3, .ref a4, .ref a5])), (a3, .inr (11, [.long 0, .long (-1), .long 0, .long (-1), .long (-9223372036854775808), .long 9223372036854775807])), (h1, .inr (11, [.long n1, .long n2, .long n3, .long n4, .long n5, .long n6])), (h2, .inr (11, [.long o1, .long o2, .long o3, .long o4, .long o5, .long o6]))] sz) := by
  refine fg_enter (fun A => q_Reck_rest D h0 a1 a2 a3 a4 a5 h1 n1 n2 n3 n4 n5 n6 h2 o1 o2 o3 o4 o5 o6 A) (by decide +kernel) (Nat.le_of_ble_eq_true rfl) ?_
  intro p e s m below meth c ls A hx hb hml hown hts hr hlocks hin hP hK hD hS hA hX hl
  have hl : lv_has ls 3 [(0, .ref h0), (1, .ref h1), (2, .ref h2)] := hl
  refine lv_aload_n hx hb d_Reckoner_rest_0 rfl (lv_at hl 2 rfl) ?_
  refine fg_theni (wr := [(h0, .inr (8, [.ref a1, .ref a2, .ref a3, .ref a4, .ref a5])), (a3, .inr (11, [.long 0, .long (-1), .long 0, .long (-1), .long (-9223372036854775808), .long 9223372036854775807])), (h1, .inr (11, [.long n1, .long n2, .long n3, .long n4, .long n5, .long n6]))]) (fg_runV (C := "FilterGuard$Num") (As := []) (rest := []) (ci := 11) (q0 := 0) ⟨hx, hb, hml, hown, hts⟩ (c_Num_isExact l D h2 o1 o2 o3 o4 o5 o6 s.heap.size) rfl (by show fg_nm y_Num_isExact0 0; decide +kernel) u_1157 u_1158 u_1159 u_187 u_1160 ⟨Nat.le_of_ble_eq_true rfl, Nat.le_of_ble_eq_true rfl⟩ hX (hP.sub (ws' := [(h2, .inr (11, [.long o1, .long o2, .long o3, .long o4, .long o5, .long o6]))]) [3] rfl) (hK.sub (tys' := []) [] rfl) (hD.sub (ws' := [(h2, .inr (11, [.long o1, .long o2, .long o3, .long o4, .long o5, .long o6]))]) [3] (by decide) rfl) rfl rfl rfl rfl hl.1 (Nat.le_of_ble_eq_true rfl) d_Reckoner_rest_1 ⟨(Nat.le_of_ble_eq_true rfl), (Nat.le_of_ble_eq_true rfl)⟩) hP hD hK hS hA [3] [0, 1, 2] rfl rfl (by decide) (by decide) (fun r1_1 u H locs hw1_0 hP hD hK hS => ?_)
  try dsimp only at hw1_0
  have hP : va_P D classes [(h0, .inr (8, [.ref a1, .ref a2, .ref a3, .ref a4, .ref a5])), (a3, .inr (11, [.long 0, .long (-1), .long 0, .long (-1), .long (-9223372036854775808), .long 9223372036854775807])), (h1, .inr (11, [.long n1, .long n2, .long n3, .long n4, .long n5, .long n6])), (h2, .inr (11, [.long o1, .long o2, .long o3, .long o4, .long o5, .long o6]))] H := hP
  have hD : va_D A [(h0, .inr (8, [.ref a1, .ref a2, .ref a3, .ref a4, .ref a5])), (a3, .inr (11, [.long 0, .long (-1), .long 0, .long (-1), .long (-9223372036854775808), .long 9223372036854775807])), (h1, .inr (11, [.long n1, .long n2, .long n3, .long n4, .long n5, .long n6])), (h2, .inr (11, [.long o1, .long o2, .long o3, .long o4, .long o5, .long o6]))] := hD
  have hK : va_K D classes [] s := hK
  refine W.widen (k := 0) (n := 0) (Nat.le_of_ble_eq_true rfl) (Nat.le_of_ble_eq_true rfl) ?_
  refine lv_if_ne (tgt := 22) hx hb d_Reckoner_rest_4 (by decide) (fun c_2 => ?_) (fun c_2 => ?_)
  · have gc_2 : (o2 = 0) := fg_ifnz hw1_0 c_2
    refine lv_aload_n hx hb d_Reckoner_rest_22 rfl (lv_at hl 2 rfl) ?_
    refine va_get (D := D) (ci := 11) (v := .long o1) (C := "FilterGuard$Num") (T := F_Num) (N := 6) hx hb hts i_Num hown hK hP 3 rfl rfl 0 (by decide) (hts _ u_368) (fun _ h9 => h9) rfl d_Reckoner_rest_23 ?_
    refine lv_lconst (v := 0) hx hb d_Reckoner_rest_26 (by decide) ?_
    refine W.lcmp hx hb d_Reckoner_rest_27 ?_
    refine lv_if_eq (tgt := 45) hx hb d_Reckoner_rest_28 (by decide) (fun c_3 => ?_) (fun c_3 => ?_)
    · have gc_3 : o1 = 0 := (lg_cmp_eq _ _).mp c_3
      refine lv_aload_n hx hb d_Reckoner_rest_45 rfl (lv_at hl 0 rfl) ?_
      refine va_get (D := D) (ci := 8) (v := .ref a3) (C := "FilterGuard$Reckoner") (T := F_Reckoner) (N := 5) hx hb hts i_Reckoner hown hK hP 0 rfl rfl 2 (by decide) (hts _ u_398) (fun _ h9 => h9) rfl d_Reckoner_rest_46 ?_
      refine lv_aload_n hx hb d_Reckoner_rest_49 rfl (lv_at hl 1 rfl) ?_
      refine fg_thenv (wr := [(h0, .inr (8, [.ref a1, .ref a2, .ref a3, .ref a4, .ref a5])), (h2, .inr (11, [.long o1, .long o2, .long o3, .long o4, .long o5, .long o6]))]) (fg_runV (C := "FilterGuard$Num") (As := [.ref h1]) (rest := []) (ci := 11) (q0 := 0) ⟨hx, hb, hml, hown, hts⟩ (c_Num_copy l D a3 0 (-1) 0 (-1) (-9223372036854775808) 9223372036854775807 h1 n1 n2 n3 n4 n5 n6 H.size) rfl (by show fg_nm y_Num_copy 1; decide +kernel) u_1189 u_1083 u_1084 u_187 u_1085 ⟨Nat.le_of_ble_eq_true rfl, Nat.le_of_ble_eq_true rfl⟩ hX (hP.sub (ws' := [(a3, .inr (11, [.long 0, .long (-1), .long 0, .long (-1), .long (-9223372036854775808), .long 9223372036854775807])), (h1, .inr (11, [.long n1, .long n2, .long n3, .long n4, .long n5, .long n6]))]) [1, 2] rfl) (hK.sub (tys' := []) [] rfl) (hD.sub (ws' := [(a3, .inr (11, [.long 0, .long (-1), .long 0, .long (-1), .long (-9223372036854775808), .long 9223372036854775807])), (h1, .inr (11, [.long n1, .long n2, .long n3, .long n4, .long n5, .long n6]))]) [1, 2] (by decide) rfl) rfl rfl rfl rfl hl.1 (Nat.le_of_ble_eq_true rfl) d_Reckoner_rest_50 ⟨(Nat.le_of_ble_eq_true rfl), (Nat.le_of_ble_eq_true rfl)⟩) hP hD hK hS hA [1, 2] [0, 3] rfl rfl (by decide) (by decide) (fun  u H locs hw50_3 hP hD hK hS => ?_)
      try dsimp only at hw50_3
      have hP : va_P D classes [(h0, .inr (8, [.ref a1, .ref a2, .ref a3, .ref a4, .ref a5])), (h2, .inr (11, [.long o1, .long o2, .long o3, .long o4, .long o5, .long o6])), (a3, .inr (11, [.long n1, .long n2, .long n3, .long n4, .long n5, .long n6])), (h1, .inr (11, [.long n1, .long n2, .long n3, .long n4, .long n5, .long n6]))] H := hP
      have hD : va_D A [(h0, .inr (8, [.ref a1, .ref a2, .ref a3, .ref a4, .ref a5])), (h2, .inr (11, [.long o1, .long o2, .long o3, .long o4, .long o5, .long o6])), (a3, .inr (11, [.long n1, .long n2, .long n3, .long n4, .long n5, .long n6])), (h1, .inr (11, [.long n1, .long n2, .long n3, .long n4, .long n5, .long n6]))] := hD
      have hK : va_K D classes [] s := hK
      refine W.widen (k := 0) (n := 0) (Nat.le_of_ble_eq_true rfl) (Nat.le_of_ble_eq_true rfl) ?_
      refine lv_goto (tgt := 70) hx hb d_Reckoner_rest_53 (by decide) ?_
      exact fg_retv (n1, n2, n3, n4, n5, n6) hx hb hr hlocks (by unfold fn_rest; (repeat rw [if_pos gc_2]); (repeat rw [if_pos gc_3]); try rfl) (hP.sub (ws' := [(h0, .inr (8, [.ref a1, .ref a2, .ref a3, .ref a4, .ref a5])), (a3, .inr (11, [.long n1, .long n2, .long n3, .long n4, .long n5, .long n6])), (h1, .inr (11, [.long n1, .long n2, .long n3, .long n4, .long n5, .long n6])), (h2, .inr (11, [.long o1, .long o2, .long o3, .long o4, .long o5, .long o6]))]) [0, 2, 3, 1] rfl) (hK.sub (tys' := []) [] rfl) (hD.sub (ws' := [(h0, .inr (8, [.ref a1, .ref a2, .ref a3, .ref a4, .ref a5])), (a3, .inr (11, [.long n1, .long n2, .long n3, .long n4, .long n5, .long n6])), (h1, .inr (11, [.long n1, .long n2, .long n3, .long n4, .long n5, .long n6])), (h2, .inr (11, [.long o1, .long o2, .long o3, .long o4, .long o5, .long o6]))]) [0, 2, 3, 1] (by decide) rfl) hS (Nat.le_of_ble_eq_true rfl) (Nat.le_of_ble_eq_true rfl) d_Reckoner_rest_70
    · have gc_3 : ¬ o1 = 0 := fun z => c_3 ((lg_cmp_eq _ _).mpr z)
      refine lv_aload_n hx hb d_Reckoner_rest_31 rfl (lv_at hl 1 rfl) ?_
      refine va_get (D := D) (ci := 11) (v := .long n4) (C := "FilterGuard$Num") (T := F_Num) (N := 6) hx hb hts i_Num hown hK hP 2 rfl rfl 3 (by decide) (hts _ u_377) (fun _ h9 => h9) rfl d_Reckoner_rest_32 ?_
      refine lv_aload_n hx hb d_Reckoner_rest_35 rfl (lv_at hl 2 rfl) ?_
      refine va_get (D := D) (ci := 11) (v := .long o1) (C := "FilterGuard$Num") (T := F_Num) (N := 6) hx hb hts i_Num hown hK hP 3 rfl rfl 0 (by decide) (hts _ u_368) (fun _ h9 => h9) rfl d_Reckoner_rest_36 ?_
      refine fg_theni (wr := [(h0, .inr (8, [.ref a1, .ref a2, .ref a3, .ref a4, .ref a5])), (a3, .inr (11, [.long 0, .long (-1), .long 0, .long (-1), .long (-9223372036854775808), .long 9223372036854775807])), (h1, .inr (11, [.long n1, .long n2, .long n3, .long n4, .long n5, .long n6])), (h2, .inr (11, [.long o1, .long o2, .long o3, .long o4, .long o5, .long o6]))]) (fg_runS (As := [.long n4, .long o1]) (rest := []) ⟨hx, hb, hml, hown, hts⟩ (c_Num_isBelow l D n4 o1 H.size) (by show fg_nm y_Num_isBelow 2; decide +kernel) u_1144 u_1063 u_187 u_1064 ⟨Nat.le_of_ble_eq_true rfl, Nat.le_of_ble_eq_true rfl⟩ hX (hP.sub (ws' := []) [] rfl) (hK.sub (tys' := []) [] rfl) (hD.sub (ws' := []) [] (by decide) rfl) rfl hl.1 (Nat.le_of_ble_eq_true rfl) d_Reckoner_rest_39 ⟨(Nat.le_of_ble_eq_true rfl), (Nat.le_of_ble_eq_true rfl)⟩) hP hD hK hS hA [] [0, 1, 2, 3] rfl rfl (by decide) (by decide) (fun r39_5 u H locs hw39_4 hP hD hK hS => ?_)
      try dsimp only at hw39_4
      have hP : va_P D classes [(h0, .inr (8, [.ref a1, .ref a2, .ref a3, .ref a4, .ref a5])), (a3, .inr (11, [.long 0, .long (-1), .long 0, .long (-1), .long (-9223372036854775808), .long 9223372036854775807])), (h1, .inr (11, [.long n1, .long n2, .long n3, .long n4, .long n5, .long n6])), (h2, .inr (11, [.long o1, .long o2, .long o3, .long o4, .long o5, .long o6]))] H := hP
      have hD : va_D A [(h0, .inr (8, [.ref a1, .ref a2, .ref a3, .ref a4, .ref a5])), (a3, .inr (11, [.long 0, .long (-1), .long 0, .long (-1), .long (-9223372036854775808), .long 9223372036854775807])), (h1, .inr (11, [.long n1, .long n2, .long n3, .long n4, .long n5, .long n6])), (h2, .inr (11, [.long o1, .long o2, .long o3, .long o4, .long o5, .long o6]))] := hD
      have hK : va_K D classes [] s := hK
      refine W.widen (k := 0) (n := 0) (Nat.le_of_ble_eq_true rfl) (Nat.le_of_ble_eq_true rfl) ?_
      refine lv_if_eq (tgt := 56) hx hb d_Reckoner_rest_42 (by decide) (fun c_6 => ?_) (fun c_6 => ?_)
      · have gc_6 : ¬ (fn_lt n4 o1) := fg_ifz hw39_4 c_6
        refine lv_aload_n hx hb d_Reckoner_rest_56 rfl (lv_at hl 0 rfl) ?_
        refine va_get (D := D) (ci := 8) (v := .ref a3) (C := "FilterGuard$Reckoner") (T := F_Reckoner) (N := 5) hx hb hts i_Reckoner hown hK hP 0 rfl rfl 2 (by decide) (hts _ u_398) (fun _ h9 => h9) rfl d_Reckoner_rest_57 ?_
        refine lv_lconst (v := 0) hx hb d_Reckoner_rest_60 (by decide) ?_
        refine lv_aload_n hx hb d_Reckoner_rest_61 rfl (lv_at hl 2 rfl) ?_
        refine va_get (D := D) (ci := 11) (v := .long o1) (C := "FilterGuard$Num") (T := F_Num) (N := 6) hx hb hts i_Num hown hK hP 3 rfl rfl 0 (by decide) (hts _ u_368) (fun _ h9 => h9) rfl d_Reckoner_rest_62 ?_
        refine lv_lconst (v := 1) hx hb d_Reckoner_rest_65 (by decide) ?_
        refine lv_lsub hx hb d_Reckoner_rest_66 ?_
        refine fg_thenv (wr := [(h0, .inr (8, [.ref a1, .ref a2, .ref a3, .ref a4, .ref a5])), (h1, .inr (11, [.long n1, .long n2, .long n3, .long n4, .long n5, .long n6])), (h2, .inr (11, [.long o1, .long o2, .long o3, .long o4, .long o5, .long o6]))]) (fg_runV (C := "FilterGuard$Num") (As := [.long 0, .long (o1 - 1)]) (rest := []) (ci := 11) (q0 := 0) ⟨hx, hb, hml, hown, hts⟩ (c_Num_range l D a3 0 (-1) 0 (-1) (-9223372036854775808) 9223372036854775807 0 (o1 - 1) H.size) rfl (by show fg_nm y_Num_range 2; decide +kernel) u_1145 u_1146 u_1147 u_187 u_1148 ⟨Nat.le_of_ble_eq_true rfl, Nat.le_of_ble_eq_true rfl⟩ hX (hP.sub (ws' := [(a3, .inr (11, [.long 0, .long (-1), .long 0, .long (-1), .long (-9223372036854775808), .long 9223372036854775807]))]) [1] rfl) (hK.sub (tys' := []) [] rfl) (hD.sub (ws' := [(a3, .inr (11, [.long 0, .long (-1), .long 0, .long (-1), .long (-9223372036854775808), .long 9223372036854775807]))]) [1] (by decide) rfl) rfl rfl rfl rfl hl.1 (Nat.le_of_ble_eq_true rfl) d_Reckoner_rest_67 ⟨(Nat.le_of_ble_eq_true rfl), (Nat.le_of_ble_eq_true rfl)⟩) hP hD hK hS hA [1] [0, 2, 3] rfl rfl (by decide) (by decide) (fun  u H locs hw67_6 hP hD hK hS => ?_)
        try dsimp only at hw67_6
        have hP : va_P D classes [(h0, .inr (8, [.ref a1, .ref a2, .ref a3, .ref a4, .ref a5])), (h1, .inr (11, [.long n1, .long n2, .long n3, .long n4, .long n5, .long n6])), (h2, .inr (11, [.long o1, .long o2, .long o3, .long o4, .long o5, .long o6])), (a3, .inr (11, [.long 0, .long (-1), .long 0, .long (o1 - 1), .long (-9223372036854775808), .long 9223372036854775807]))] H := hP
        have hD : va_D A [(h0, .inr (8, [.ref a1, .ref a2, .ref a3, .ref a4, .ref a5])), (h1, .inr (11, [.long n1, .long n2, .long n3, .long n4, .long n5, .long n6])), (h2, .inr (11, [.long o1, .long o2, .long o3, .long o4, .long o5, .long o6])), (a3, .inr (11, [.long 0, .long (-1), .long 0, .long (o1 - 1), .long (-9223372036854775808), .long 9223372036854775807]))] := hD
        have hK : va_K D classes [] s := hK
        refine W.widen (k := 0) (n := 0) (Nat.le_of_ble_eq_true rfl) (Nat.le_of_ble_eq_true rfl) ?_
        exact fg_retv (0, (-1), 0, (o1 - 1), (-9223372036854775808), 9223372036854775807) hx hb hr hlocks (by unfold fn_rest; (repeat rw [if_pos gc_2]); (repeat rw [if_neg gc_3]); (repeat rw [if_neg gc_6]); try rfl) (hP.sub (ws' := [(h0, .inr (8, [.ref a1, .ref a2, .ref a3, .ref a4, .ref a5])), (a3, .inr (11, [.long 0, .long (-1), .long 0, .long (o1 - 1), .long (-9223372036854775808), .long 9223372036854775807])), (h1, .inr (11, [.long n1, .long n2, .long n3, .long n4, .long n5, .long n6])), (h2, .inr (11, [.long o1, .long o2, .long o3, .long o4, .long o5, .long o6]))]) [0, 3, 1, 2] rfl) (hK.sub (tys' := []) [] rfl) (hD.sub (ws' := [(h0, .inr (8, [.ref a1, .ref a2, .ref a3, .ref a4, .ref a5])), (a3, .inr (11, [.long 0, .long (-1), .long 0, .long (o1 - 1), .long (-9223372036854775808), .long 9223372036854775807])), (h1, .inr (11, [.long n1, .long n2, .long n3, .long n4, .long n5, .long n6])), (h2, .inr (11, [.long o1, .long o2, .long o3, .long o4, .long o5, .long o6]))]) [0, 3, 1, 2] (by decide) rfl) hS (Nat.le_of_ble_eq_true rfl) (Nat.le_of_ble_eq_true rfl) d_Reckoner_rest_70
      · have gc_6 : (fn_lt n4 o1) := fg_ifnz hw39_4 c_6
        refine lv_aload_n hx hb d_Reckoner_rest_45 rfl (lv_at hl 0 rfl) ?_
        refine va_get (D := D) (ci := 8) (v := .ref a3) (C := "FilterGuard$Reckoner") (T := F_Reckoner) (N := 5) hx hb hts i_Reckoner hown hK hP 0 rfl rfl 2 (by decide) (hts _ u_398) (fun _ h9 => h9) rfl d_Reckoner_rest_46 ?_
        refine lv_aload_n hx hb d_Reckoner_rest_49 rfl (lv_at hl 1 rfl) ?_
        refine fg_thenv (wr := [(h0, .inr (8, [.ref a1, .ref a2, .ref a3, .ref a4, .ref a5])), (h2, .inr (11, [.long o1, .long o2, .long o3, .long o4, .long o5, .long o6]))]) (fg_runV (C := "FilterGuard$Num") (As := [.ref h1]) (rest := []) (ci := 11) (q0 := 0) ⟨hx, hb, hml, hown, hts⟩ (c_Num_copy l D a3 0 (-1) 0 (-1) (-9223372036854775808) 9223372036854775807 h1 n1 n2 n3 n4 n5 n6 H.size) rfl (by show fg_nm y_Num_copy 1; decide +kernel) u_1189 u_1083 u_1084 u_187 u_1085 ⟨Nat.le_of_ble_eq_true rfl, Nat.le_of_ble_eq_true rfl⟩ hX (hP.sub (ws' := [(a3, .inr (11, [.long 0, .long (-1), .long 0, .long (-1), .long (-9223372036854775808), .long 9223372036854775807])), (h1, .inr (11, [.long n1, .long n2, .long n3, .long n4, .long n5, .long n6]))]) [1, 2] rfl) (hK.sub (tys' := []) [] rfl) (hD.sub (ws' := [(a3, .inr (11, [.long 0, .long (-1), .long 0, .long (-1), .long (-9223372036854775808), .long 9223372036854775807])), (h1, .inr (11, [.long n1, .long n2, .long n3, .long n4, .long n5, .long n6]))]) [1, 2] (by decide) rfl) rfl rfl rfl rfl hl.1 (Nat.le_of_ble_eq_true rfl) d_Reckoner_rest_50 ⟨(Nat.le_of_ble_eq_true rfl), (Nat.le_of_ble_eq_true rfl)⟩) hP hD hK hS hA [1, 2] [0, 3] rfl rfl (by decide) (by decide) (fun  u H locs hw50_7 hP hD hK hS => ?_)
        try dsimp only at hw50_7
        have hP : va_P D classes [(h0, .inr (8, [.ref a1, .ref a2, .ref a3, .ref a4, .ref a5])), (h2, .inr (11, [.long o1, .long o2, .long o3, .long o4, .long o5, .long o6])), (a3, .inr (11, [.long n1, .long n2, .long n3, .long n4, .long n5, .long n6])), (h1, .inr (11, [.long n1, .long n2, .long n3, .long n4, .long n5, .long n6]))] H := hP
        have hD : va_D A [(h0, .inr (8, [.ref a1, .ref a2, .ref a3, .ref a4, .ref a5])), (h2, .inr (11, [.long o1, .long o2, .long o3, .long o4, .long o5, .long o6])), (a3, .inr (11, [.long n1, .long n2, .long n3, .long n4, .long n5, .long n6])), (h1, .inr (11, [.long n1, .long n2, .long n3, .long n4, .long n5, .long n6]))] := hD
        have hK : va_K D classes [] s := hK
        refine W.widen (k := 0) (n := 0) (Nat.le_of_ble_eq_true rfl) (Nat.le_of_ble_eq_true rfl) ?_
        refine lv_goto (tgt := 70) hx hb d_Reckoner_rest_53 (by decide) ?_
        exact fg_retv (n1, n2, n3, n4, n5, n6) hx hb hr hlocks (by unfold fn_rest; (repeat rw [if_pos gc_2]); (repeat rw [if_neg gc_3]); (repeat rw [if_pos gc_6]); try rfl) (hP.sub (ws' := [(h0, .inr (8, [.ref a1, .ref a2, .ref a3, .ref a4, .ref a5])), (a3, .inr (11, [.long n1, .long n2, .long n3, .long n4, .long n5, .long n6])), (h1, .inr (11, [.long n1, .long n2, .long n3, .long n4, .long n5, .long n6])), (h2, .inr (11, [.long o1, .long o2, .long o3, .long o4, .long o5, .long o6]))]) [0, 2, 3, 1] rfl) (hK.sub (tys' := []) [] rfl) (hD.sub (ws' := [(h0, .inr (8, [.ref a1, .ref a2, .ref a3, .ref a4, .ref a5])), (a3, .inr (11, [.long n1, .long n2, .long n3, .long n4, .long n5, .long n6])), (h1, .inr (11, [.long n1, .long n2, .long n3, .long n4, .long n5, .long n6])), (h2, .inr (11, [.long o1, .long o2, .long o3, .long o4, .long o5, .long o6]))]) [0, 2, 3, 1] (by decide) rfl) hS (Nat.le_of_ble_eq_true rfl) (Nat.le_of_ble_eq_true rfl) d_Reckoner_rest_70
  · have gc_2 : ¬ (o2 = 0) := fg_ifz hw1_0 c_2
    refine lv_aload_n hx hb d_Reckoner_rest_7 rfl (lv_at hl 0 rfl) ?_
    refine va_get (D := D) (ci := 8) (v := .ref a3) (C := "FilterGuard$Reckoner") (T := F_Reckoner) (N := 5) hx hb hts i_Reckoner hown hK hP 0 rfl rfl 2 (by decide) (hts _ u_398) (fun _ h9 => h9) rfl d_Reckoner_rest_8 ?_
    refine lv_lconst (v := 0) hx hb d_Reckoner_rest_11 (by decide) ?_
    refine lv_aload_n hx hb d_Reckoner_rest_12 rfl (lv_at hl 1 rfl) ?_
    refine va_get (D := D) (ci := 11) (v := .long n4) (C := "FilterGuard$Num") (T := F_Num) (N := 6) hx hb hts i_Num hown hK hP 2 rfl rfl 3 (by decide) (hts _ u_377) (fun _ h9 => h9) rfl d_Reckoner_rest_13 ?_
    refine fg_thenv (wr := [(h0, .inr (8, [.ref a1, .ref a2, .ref a3, .ref a4, .ref a5])), (h1, .inr (11, [.long n1, .long n2, .long n3, .long n4, .long n5, .long n6])), (h2, .inr (11, [.long o1, .long o2, .long o3, .long o4, .long o5, .long o6]))]) (fg_runV (C := "FilterGuard$Num") (As := [.long 0, .long n4]) (rest := []) (ci := 11) (q0 := 0) ⟨hx, hb, hml, hown, hts⟩ (c_Num_range l D a3 0 (-1) 0 (-1) (-9223372036854775808) 9223372036854775807 0 n4 H.size) rfl (by show fg_nm y_Num_range 2; decide +kernel) u_1145 u_1146 u_1147 u_187 u_1148 ⟨Nat.le_of_ble_eq_true rfl, Nat.le_of_ble_eq_true rfl⟩ hX (hP.sub (ws' := [(a3, .inr (11, [.long 0, .long (-1), .long 0, .long (-1), .long (-9223372036854775808), .long 9223372036854775807]))]) [1] rfl) (hK.sub (tys' := []) [] rfl) (hD.sub (ws' := [(a3, .inr (11, [.long 0, .long (-1), .long 0, .long (-1), .long (-9223372036854775808), .long 9223372036854775807]))]) [1] (by decide) rfl) rfl rfl rfl rfl hl.1 (Nat.le_of_ble_eq_true rfl) d_Reckoner_rest_16 ⟨(Nat.le_of_ble_eq_true rfl), (Nat.le_of_ble_eq_true rfl)⟩) hP hD hK hS hA [1] [0, 2, 3] rfl rfl (by decide) (by decide) (fun  u H locs hw16_8 hP hD hK hS => ?_)
    try dsimp only at hw16_8
    have hP : va_P D classes [(h0, .inr (8, [.ref a1, .ref a2, .ref a3, .ref a4, .ref a5])), (h1, .inr (11, [.long n1, .long n2, .long n3, .long n4, .long n5, .long n6])), (h2, .inr (11, [.long o1, .long o2, .long o3, .long o4, .long o5, .long o6])), (a3, .inr (11, [.long 0, .long (-1), .long 0, .long n4, .long (-9223372036854775808), .long 9223372036854775807]))] H := hP
    have hD : va_D A [(h0, .inr (8, [.ref a1, .ref a2, .ref a3, .ref a4, .ref a5])), (h1, .inr (11, [.long n1, .long n2, .long n3, .long n4, .long n5, .long n6])), (h2, .inr (11, [.long o1, .long o2, .long o3, .long o4, .long o5, .long o6])), (a3, .inr (11, [.long 0, .long (-1), .long 0, .long n4, .long (-9223372036854775808), .long 9223372036854775807]))] := hD
    have hK : va_K D classes [] s := hK
    refine W.widen (k := 0) (n := 0) (Nat.le_of_ble_eq_true rfl) (Nat.le_of_ble_eq_true rfl) ?_
    refine lv_goto (tgt := 70) hx hb d_Reckoner_rest_19 (by decide) ?_
    exact fg_retv (0, (-1), 0, n4, (-9223372036854775808), 9223372036854775807) hx hb hr hlocks (by unfold fn_rest; (repeat rw [if_neg gc_2]); try rfl) (hP.sub (ws' := [(h0, .inr (8, [.ref a1, .ref a2, .ref a3, .ref a4, .ref a5])), (a3, .inr (11, [.long 0, .long (-1), .long 0, .long n4, .long (-9223372036854775808), .long 9223372036854775807])), (h1, .inr (11, [.long n1, .long n2, .long n3, .long n4, .long n5, .long n6])), (h2, .inr (11, [.long o1, .long o2, .long o3, .long o4, .long o5, .long o6]))]) [0, 3, 1, 2] rfl) (hK.sub (tys' := []) [] rfl) (hD.sub (ws' := [(h0, .inr (8, [.ref a1, .ref a2, .ref a3, .ref a4, .ref a5])), (a3, .inr (11, [.long 0, .long (-1), .long 0, .long n4, .long (-9223372036854775808), .long 9223372036854775807])), (h1, .inr (11, [.long n1, .long n2, .long n3, .long n4, .long n5, .long n6])), (h2, .inr (11, [.long o1, .long o2, .long o3, .long o4, .long o5, .long o6]))]) [0, 3, 1, 2] (by decide) rfl) hS (Nat.le_of_ble_eq_true rfl) (Nat.le_of_ble_eq_true rfl) d_Reckoner_rest_70
def rm_Reck_rest_s : Room := { frames := 2, cells := 0, slots := 0, locals := 60 }
abbrev q_Reck_rest_s (D : va_G) (h0 : Nat) (a1 : Nat) (a2 : Nat) (a3 : Nat) (a4 : Nat) (a5 : Nat) (h1 : Nat) (n1 : Int64) (n2 : Int64) (n3 : Int64) (n4 : Int64) (n5 : Int64) (n6 : Int64) (A : Nat → Prop) : Array Value → Jvm.State → Outcome → Jvm.State → Prop := va_Qv (fun (u : Int64 × Int64 × Int64 × Int64 × Int64 × Int64) => fn_rest n1 n2 n3 n4 n5 n6 n1 n2 = (u.1, u.2.1, u.2.2.1, u.2.2.2.1, u.2.2.2.2.1, u.2.2.2.2.2)) (fg_B D A (fun (u : Int64 × Int64 × Int64 × Int64 × Int64 × Int64) => [(h0, .inr (8, [.ref a1, .ref a2, .ref a3, .ref a4, .ref a5])), (a3, .inr (11, [.long u.1, .long u.2.1, .long u.2.2.1, .long u.2.2.2.1, .long u.2.2.2.2.1, .long u.2.2.2.2.2])), (h1, .inr (11, [.long n1, .long n2, .long n3, .long n4, .long n5, .long n6]))]) (fun (u : Int64 × Int64 × Int64 × Int64 × Int64 × Int64) => [])) A
set_option maxHeartbeats 4000000 in
set_option maxRecDepth 100000 in
theorem c_Reck_rest_s (l : Launch) (D : va_G) (h0 : Nat) (a1 : Nat) (a2 : Nat) (a3 : Nat) (a4 : Nat) (a5 : Nat) (h1 : Nat) (n1 : Int64) (n2 : Int64) (n3 : Int64) (n4 : Int64) (n5 : Int64) (n6 : Int64) (sz : Nat) : Met l y_Reckoner_rest (fg_w y_Reckoner_rest prog_9_method_11_code 3 none) rm_Reck_rest_s (va_Pc [.ref h0, .ref h1, .ref h1] (fg_P D [] [(h0, .inr (8, [.ref a1, .ref a2, .ref a3, .ref a4, .ref a5])), (a3, .inr (11, [.long 0, .long (-1), .long 0, .long (-1), .long (-9223372036854775808), .long 9223372036854775807])), (h1, .inr (11, [.long n1, .long n2, .long n3, .long n4, .long n5, .long n6]))] sz)) (q_Reck_rest_s D h0 a1 a2 a3 a4 a5 h1 n1 n2 n3 n4 n5 n6 (va_A [(h0, .inr (8, [.ref a1, .ref a2, .ref a3, .ref a4, .ref a5])), (a3, .inr (11, [.long 0, .long (-1), .long 0, .long (-1), .long (-9223372036854775808), .long 9223372036854775807])), (h1, .inr (11, [.long n1, .long n2, .long n3, .long n4, .long n5, .long n6]))] sz)) rm_Reck_rest_s.cells rm_Reck_rest_s.slots (va_A [(h0, .inr (8, [.ref a1, .ref a2, .ref a3, .ref a4, .ref a5])), (a3, .inr (11, [.long 0, .long (-1), .long 0, .long (-1), .long (-9223372036854775808), .long 9223372036854775807])), (h1, .inr (11, [.long n1, .long n2, .long n3, .long n4, .long n5, .long n6]))] sz) := by
  refine fg_enter (fun A => q_Reck_rest_s D h0 a1 a2 a3 a4 a5 h1 n1 n2 n3 n4 n5 n6 A) (by decide +kernel) (Nat.le_of_ble_eq_true rfl) ?_
  intro p e s m below meth c ls A hx hb hml hown hts hr hlocks hin hP hK hD hS hA hX hl
  have hl : lv_has ls 3 [(0, .ref h0), (1, .ref h1), (2, .ref h1)] := hl
  refine lv_aload_n hx hb d_Reckoner_rest_0 rfl (lv_at hl 2 rfl) ?_
  refine fg_theni (wr := [(h0, .inr (8, [.ref a1, .ref a2, .ref a3, .ref a4, .ref a5])), (a3, .inr (11, [.long 0, .long (-1), .long 0, .long (-1), .long (-9223372036854775808), .long 9223372036854775807]))]) (fg_runV (C := "FilterGuard$Num") (As := []) (rest := []) (ci := 11) (q0 := 0) ⟨hx, hb, hml, hown, hts⟩ (c_Num_isExact l D h1 n1 n2 n3 n4 n5 n6 s.heap.size) rfl (by show fg_nm y_Num_isExact0 0; decide +kernel) u_1157 u_1158 u_1159 u_187 u_1160 ⟨Nat.le_of_ble_eq_true rfl, Nat.le_of_ble_eq_true rfl⟩ hX (hP.sub (ws' := [(h1, .inr (11, [.long n1, .long n2, .long n3, .long n4, .long n5, .long n6]))]) [2] rfl) (hK.sub (tys' := []) [] rfl) (hD.sub (ws' := [(h1, .inr (11, [.long n1, .long n2, .long n3, .long n4, .long n5, .long n6]))]) [2] (by decide) rfl) rfl rfl rfl rfl hl.1 (Nat.le_of_ble_eq_true rfl) d_Reckoner_rest_1 ⟨(Nat.le_of_ble_eq_true rfl), (Nat.le_of_ble_eq_true rfl)⟩) hP hD hK hS hA [2] [0, 1] rfl rfl (by decide) (by decide) (fun r1_1 u H locs hw1_0 hP hD hK hS => ?_)
  try dsimp only at hw1_0
  have hP : va_P D classes [(h0, .inr (8, [.ref a1, .ref a2, .ref a3, .ref a4, .ref a5])), (a3, .inr (11, [.long 0, .long (-1), .long 0, .long (-1), .long (-9223372036854775808), .long 9223372036854775807])), (h1, .inr (11, [.long n1, .long n2, .long n3, .long n4, .long n5, .long n6]))] H := hP
  have hD : va_D A [(h0, .inr (8, [.ref a1, .ref a2, .ref a3, .ref a4, .ref a5])), (a3, .inr (11, [.long 0, .long (-1), .long 0, .long (-1), .long (-9223372036854775808), .long 9223372036854775807])), (h1, .inr (11, [.long n1, .long n2, .long n3, .long n4, .long n5, .long n6]))] := hD
  have hK : va_K D classes [] s := hK
  refine W.widen (k := 0) (n := 0) (Nat.le_of_ble_eq_true rfl) (Nat.le_of_ble_eq_true rfl) ?_
  refine lv_if_ne (tgt := 22) hx hb d_Reckoner_rest_4 (by decide) (fun c_2 => ?_) (fun c_2 => ?_)
  · have gc_2 : (n2 = 0) := fg_ifnz hw1_0 c_2
    refine lv_aload_n hx hb d_Reckoner_rest_22 rfl (lv_at hl 2 rfl) ?_
    refine va_get (D := D) (ci := 11) (v := .long n1) (C := "FilterGuard$Num") (T := F_Num) (N := 6) hx hb hts i_Num hown hK hP 2 rfl rfl 0 (by decide) (hts _ u_368) (fun _ h9 => h9) rfl d_Reckoner_rest_23 ?_
    refine lv_lconst (v := 0) hx hb d_Reckoner_rest_26 (by decide) ?_
    refine W.lcmp hx hb d_Reckoner_rest_27 ?_
    refine lv_if_eq (tgt := 45) hx hb d_Reckoner_rest_28 (by decide) (fun c_3 => ?_) (fun c_3 => ?_)
    · have gc_3 : n1 = 0 := (lg_cmp_eq _ _).mp c_3
      refine lv_aload_n hx hb d_Reckoner_rest_45 rfl (lv_at hl 0 rfl) ?_
      refine va_get (D := D) (ci := 8) (v := .ref a3) (C := "FilterGuard$Reckoner") (T := F_Reckoner) (N := 5) hx hb hts i_Reckoner hown hK hP 0 rfl rfl 2 (by decide) (hts _ u_398) (fun _ h9 => h9) rfl d_Reckoner_rest_46 ?_
      refine lv_aload_n hx hb d_Reckoner_rest_49 rfl (lv_at hl 1 rfl) ?_
      refine fg_thenv (wr := [(h0, .inr (8, [.ref a1, .ref a2, .ref a3, .ref a4, .ref a5]))]) (fg_runV (C := "FilterGuard$Num") (As := [.ref h1]) (rest := []) (ci := 11) (q0 := 0) ⟨hx, hb, hml, hown, hts⟩ (c_Num_copy l D a3 0 (-1) 0 (-1) (-9223372036854775808) 9223372036854775807 h1 n1 n2 n3 n4 n5 n6 H.size) rfl (by show fg_nm y_Num_copy 1; decide +kernel) u_1189 u_1083 u_1084 u_187 u_1085 ⟨Nat.le_of_ble_eq_true rfl, Nat.le_of_ble_eq_true rfl⟩ hX (hP.sub (ws' := [(a3, .inr (11, [.long 0, .long (-1), .long 0, .long (-1), .long (-9223372036854775808), .long 9223372036854775807])), (h1, .inr (11, [.long n1, .long n2, .long n3, .long n4, .long n5, .long n6]))]) [1, 2] rfl) (hK.sub (tys' := []) [] rfl) (hD.sub (ws' := [(a3, .inr (11, [.long 0, .long (-1), .long 0, .long (-1), .long (-9223372036854775808), .long 9223372036854775807])), (h1, .inr (11, [.long n1, .long n2, .long n3, .long n4, .long n5, .long n6]))]) [1, 2] (by decide) rfl) rfl rfl rfl rfl hl.1 (Nat.le_of_ble_eq_true rfl) d_Reckoner_rest_50 ⟨(Nat.le_of_ble_eq_true rfl), (Nat.le_of_ble_eq_true rfl)⟩) hP hD hK hS hA [1, 2] [0] rfl rfl (by decide) (by decide) (fun  u H locs hw50_3 hP hD hK hS => ?_)
      try dsimp only at hw50_3
      have hP : va_P D classes [(h0, .inr (8, [.ref a1, .ref a2, .ref a3, .ref a4, .ref a5])), (a3, .inr (11, [.long n1, .long n2, .long n3, .long n4, .long n5, .long n6])), (h1, .inr (11, [.long n1, .long n2, .long n3, .long n4, .long n5, .long n6]))] H := hP
      have hD : va_D A [(h0, .inr (8, [.ref a1, .ref a2, .ref a3, .ref a4, .ref a5])), (a3, .inr (11, [.long n1, .long n2, .long n3, .long n4, .long n5, .long n6])), (h1, .inr (11, [.long n1, .long n2, .long n3, .long n4, .long n5, .long n6]))] := hD
      have hK : va_K D classes [] s := hK
      refine W.widen (k := 0) (n := 0) (Nat.le_of_ble_eq_true rfl) (Nat.le_of_ble_eq_true rfl) ?_
      refine lv_goto (tgt := 70) hx hb d_Reckoner_rest_53 (by decide) ?_
      exact fg_retv (n1, n2, n3, n4, n5, n6) hx hb hr hlocks (by unfold fn_rest; (repeat rw [if_pos gc_2]); (repeat rw [if_pos gc_3]); try rfl) (hP.sub (ws' := [(h0, .inr (8, [.ref a1, .ref a2, .ref a3, .ref a4, .ref a5])), (a3, .inr (11, [.long n1, .long n2, .long n3, .long n4, .long n5, .long n6])), (h1, .inr (11, [.long n1, .long n2, .long n3, .long n4, .long n5, .long n6]))]) [0, 1, 2] rfl) (hK.sub (tys' := []) [] rfl) (hD.sub (ws' := [(h0, .inr (8, [.ref a1, .ref a2, .ref a3, .ref a4, .ref a5])), (a3, .inr (11, [.long n1, .long n2, .long n3, .long n4, .long n5, .long n6])), (h1, .inr (11, [.long n1, .long n2, .long n3, .long n4, .long n5, .long n6]))]) [0, 1, 2] (by decide) rfl) hS (Nat.le_of_ble_eq_true rfl) (Nat.le_of_ble_eq_true rfl) d_Reckoner_rest_70
    · have gc_3 : ¬ n1 = 0 := fun z => c_3 ((lg_cmp_eq _ _).mpr z)
      refine lv_aload_n hx hb d_Reckoner_rest_31 rfl (lv_at hl 1 rfl) ?_
      refine va_get (D := D) (ci := 11) (v := .long n4) (C := "FilterGuard$Num") (T := F_Num) (N := 6) hx hb hts i_Num hown hK hP 2 rfl rfl 3 (by decide) (hts _ u_377) (fun _ h9 => h9) rfl d_Reckoner_rest_32 ?_
      refine lv_aload_n hx hb d_Reckoner_rest_35 rfl (lv_at hl 2 rfl) ?_
      refine va_get (D := D) (ci := 11) (v := .long n1) (C := "FilterGuard$Num") (T := F_Num) (N := 6) hx hb hts i_Num hown hK hP 2 rfl rfl 0 (by decide) (hts _ u_368) (fun _ h9 => h9) rfl d_Reckoner_rest_36 ?_
      refine fg_theni (wr := [(h0, .inr (8, [.ref a1, .ref a2, .ref a3, .ref a4, .ref a5])), (a3, .inr (11, [.long 0, .long (-1), .long 0, .long (-1), .long (-9223372036854775808), .long 9223372036854775807])), (h1, .inr (11, [.long n1, .long n2, .long n3, .long n4, .long n5, .long n6]))]) (fg_runS (As := [.long n4, .long n1]) (rest := []) ⟨hx, hb, hml, hown, hts⟩ (c_Num_isBelow l D n4 n1 H.size) (by show fg_nm y_Num_isBelow 2; decide +kernel) u_1144 u_1063 u_187 u_1064 ⟨Nat.le_of_ble_eq_true rfl, Nat.le_of_ble_eq_true rfl⟩ hX (hP.sub (ws' := []) [] rfl) (hK.sub (tys' := []) [] rfl) (hD.sub (ws' := []) [] (by decide) rfl) rfl hl.1 (Nat.le_of_ble_eq_true rfl) d_Reckoner_rest_39 ⟨(Nat.le_of_ble_eq_true rfl), (Nat.le_of_ble_eq_true rfl)⟩) hP hD hK hS hA [] [0, 1, 2] rfl rfl (by decide) (by decide) (fun r39_5 u H locs hw39_4 hP hD hK hS => ?_)
      try dsimp only at hw39_4
      have hP : va_P D classes [(h0, .inr (8, [.ref a1, .ref a2, .ref a3, .ref a4, .ref a5])), (a3, .inr (11, [.long 0, .long (-1), .long 0, .long (-1), .long (-9223372036854775808), .long 9223372036854775807])), (h1, .inr (11, [.long n1, .long n2, .long n3, .long n4, .long n5, .long n6]))] H := hP
      have hD : va_D A [(h0, .inr (8, [.ref a1, .ref a2, .ref a3, .ref a4, .ref a5])), (a3, .inr (11, [.long 0, .long (-1), .long 0, .long (-1), .long (-9223372036854775808), .long 9223372036854775807])), (h1, .inr (11, [.long n1, .long n2, .long n3, .long n4, .long n5, .long n6]))] := hD
      have hK : va_K D classes [] s := hK
      refine W.widen (k := 0) (n := 0) (Nat.le_of_ble_eq_true rfl) (Nat.le_of_ble_eq_true rfl) ?_
      refine lv_if_eq (tgt := 56) hx hb d_Reckoner_rest_42 (by decide) (fun c_6 => ?_) (fun c_6 => ?_)
      · have gc_6 : ¬ (fn_lt n4 n1) := fg_ifz hw39_4 c_6
        refine lv_aload_n hx hb d_Reckoner_rest_56 rfl (lv_at hl 0 rfl) ?_
        refine va_get (D := D) (ci := 8) (v := .ref a3) (C := "FilterGuard$Reckoner") (T := F_Reckoner) (N := 5) hx hb hts i_Reckoner hown hK hP 0 rfl rfl 2 (by decide) (hts _ u_398) (fun _ h9 => h9) rfl d_Reckoner_rest_57 ?_
        refine lv_lconst (v := 0) hx hb d_Reckoner_rest_60 (by decide) ?_
        refine lv_aload_n hx hb d_Reckoner_rest_61 rfl (lv_at hl 2 rfl) ?_
        refine va_get (D := D) (ci := 11) (v := .long n1) (C := "FilterGuard$Num") (T := F_Num) (N := 6) hx hb hts i_Num hown hK hP 2 rfl rfl 0 (by decide) (hts _ u_368) (fun _ h9 => h9) rfl d_Reckoner_rest_62 ?_
        refine lv_lconst (v := 1) hx hb d_Reckoner_rest_65 (by decide) ?_
        refine lv_lsub hx hb d_Reckoner_rest_66 ?_
        refine fg_thenv (wr := [(h0, .inr (8, [.ref a1, .ref a2, .ref a3, .ref a4, .ref a5])), (h1, .inr (11, [.long n1, .long n2, .long n3, .long n4, .long n5, .long n6]))]) (fg_runV (C := "FilterGuard$Num") (As := [.long 0, .long (n1 - 1)]) (rest := []) (ci := 11) (q0 := 0) ⟨hx, hb, hml, hown, hts⟩ (c_Num_range l D a3 0 (-1) 0 (-1) (-9223372036854775808) 9223372036854775807 0 (n1 - 1) H.size) rfl (by show fg_nm y_Num_range 2; decide +kernel) u_1145 u_1146 u_1147 u_187 u_1148 ⟨Nat.le_of_ble_eq_true rfl, Nat.le_of_ble_eq_true rfl⟩ hX (hP.sub (ws' := [(a3, .inr (11, [.long 0, .long (-1), .long 0, .long (-1), .long (-9223372036854775808), .long 9223372036854775807]))]) [1] rfl) (hK.sub (tys' := []) [] rfl) (hD.sub (ws' := [(a3, .inr (11, [.long 0, .long (-1), .long 0, .long (-1), .long (-9223372036854775808), .long 9223372036854775807]))]) [1] (by decide) rfl) rfl rfl rfl rfl hl.1 (Nat.le_of_ble_eq_true rfl) d_Reckoner_rest_67 ⟨(Nat.le_of_ble_eq_true rfl), (Nat.le_of_ble_eq_true rfl)⟩) hP hD hK hS hA [1] [0, 2] rfl rfl (by decide) (by decide) (fun  u H locs hw67_6 hP hD hK hS => ?_)
        try dsimp only at hw67_6
        have hP : va_P D classes [(h0, .inr (8, [.ref a1, .ref a2, .ref a3, .ref a4, .ref a5])), (h1, .inr (11, [.long n1, .long n2, .long n3, .long n4, .long n5, .long n6])), (a3, .inr (11, [.long 0, .long (-1), .long 0, .long (n1 - 1), .long (-9223372036854775808), .long 9223372036854775807]))] H := hP
        have hD : va_D A [(h0, .inr (8, [.ref a1, .ref a2, .ref a3, .ref a4, .ref a5])), (h1, .inr (11, [.long n1, .long n2, .long n3, .long n4, .long n5, .long n6])), (a3, .inr (11, [.long 0, .long (-1), .long 0, .long (n1 - 1), .long (-9223372036854775808), .long 9223372036854775807]))] := hD
        have hK : va_K D classes [] s := hK
        refine W.widen (k := 0) (n := 0) (Nat.le_of_ble_eq_true rfl) (Nat.le_of_ble_eq_true rfl) ?_
        exact fg_retv (0, (-1), 0, (n1 - 1), (-9223372036854775808), 9223372036854775807) hx hb hr hlocks (by unfold fn_rest; (repeat rw [if_pos gc_2]); (repeat rw [if_neg gc_3]); (repeat rw [if_neg gc_6]); try rfl) (hP.sub (ws' := [(h0, .inr (8, [.ref a1, .ref a2, .ref a3, .ref a4, .ref a5])), (a3, .inr (11, [.long 0, .long (-1), .long 0, .long (n1 - 1), .long (-9223372036854775808), .long 9223372036854775807])), (h1, .inr (11, [.long n1, .long n2, .long n3, .long n4, .long n5, .long n6]))]) [0, 2, 1] rfl) (hK.sub (tys' := []) [] rfl) (hD.sub (ws' := [(h0, .inr (8, [.ref a1, .ref a2, .ref a3, .ref a4, .ref a5])), (a3, .inr (11, [.long 0, .long (-1), .long 0, .long (n1 - 1), .long (-9223372036854775808), .long 9223372036854775807])), (h1, .inr (11, [.long n1, .long n2, .long n3, .long n4, .long n5, .long n6]))]) [0, 2, 1] (by decide) rfl) hS (Nat.le_of_ble_eq_true rfl) (Nat.le_of_ble_eq_true rfl) d_Reckoner_rest_70
      · have gc_6 : (fn_lt n4 n1) := fg_ifnz hw39_4 c_6
        refine lv_aload_n hx hb d_Reckoner_rest_45 rfl (lv_at hl 0 rfl) ?_
        refine va_get (D := D) (ci := 8) (v := .ref a3) (C := "FilterGuard$Reckoner") (T := F_Reckoner) (N := 5) hx hb hts i_Reckoner hown hK hP 0 rfl rfl 2 (by decide) (hts _ u_398) (fun _ h9 => h9) rfl d_Reckoner_rest_46 ?_
        refine lv_aload_n hx hb d_Reckoner_rest_49 rfl (lv_at hl 1 rfl) ?_
        refine fg_thenv (wr := [(h0, .inr (8, [.ref a1, .ref a2, .ref a3, .ref a4, .ref a5]))]) (fg_runV (C := "FilterGuard$Num") (As := [.ref h1]) (rest := []) (ci := 11) (q0 := 0) ⟨hx, hb, hml, hown, hts⟩ (c_Num_copy l D a3 0 (-1) 0 (-1) (-9223372036854775808) 9223372036854775807 h1 n1 n2 n3 n4 n5 n6 H.size) rfl (by show fg_nm y_Num_copy 1; decide +kernel) u_1189 u_1083 u_1084 u_187 u_1085 ⟨Nat.le_of_ble_eq_true rfl, Nat.le_of_ble_eq_true rfl⟩ hX (hP.sub (ws' := [(a3, .inr (11, [.long 0, .long (-1), .long 0, .long (-1), .long (-9223372036854775808), .long 9223372036854775807])), (h1, .inr (11, [.long n1, .long n2, .long n3, .long n4, .long n5, .long n6]))]) [1, 2] rfl) (hK.sub (tys' := []) [] rfl) (hD.sub (ws' := [(a3, .inr (11, [.long 0, .long (-1), .long 0, .long (-1), .long (-9223372036854775808), .long 9223372036854775807])), (h1, .inr (11, [.long n1, .long n2, .long n3, .long n4, .long n5, .long n6]))]) [1, 2] (by decide) rfl) rfl rfl rfl rfl hl.1 (Nat.le_of_ble_eq_true rfl) d_Reckoner_rest_50 ⟨(Nat.le_of_ble_eq_true rfl), (Nat.le_of_ble_eq_true rfl)⟩) hP hD hK hS hA [1, 2] [0] rfl rfl (by decide) (by decide) (fun  u H locs hw50_7 hP hD hK hS => ?_)
        try dsimp only at hw50_7
        have hP : va_P D classes [(h0, .inr (8, [.ref a1, .ref a2, .ref a3, .ref a4, .ref a5])), (a3, .inr (11, [.long n1, .long n2, .long n3, .long n4, .long n5, .long n6])), (h1, .inr (11, [.long n1, .long n2, .long n3, .long n4, .long n5, .long n6]))] H := hP
        have hD : va_D A [(h0, .inr (8, [.ref a1, .ref a2, .ref a3, .ref a4, .ref a5])), (a3, .inr (11, [.long n1, .long n2, .long n3, .long n4, .long n5, .long n6])), (h1, .inr (11, [.long n1, .long n2, .long n3, .long n4, .long n5, .long n6]))] := hD
        have hK : va_K D classes [] s := hK
        refine W.widen (k := 0) (n := 0) (Nat.le_of_ble_eq_true rfl) (Nat.le_of_ble_eq_true rfl) ?_
        refine lv_goto (tgt := 70) hx hb d_Reckoner_rest_53 (by decide) ?_
        exact fg_retv (n1, n2, n3, n4, n5, n6) hx hb hr hlocks (by unfold fn_rest; (repeat rw [if_pos gc_2]); (repeat rw [if_neg gc_3]); (repeat rw [if_pos gc_6]); try rfl) (hP.sub (ws' := [(h0, .inr (8, [.ref a1, .ref a2, .ref a3, .ref a4, .ref a5])), (a3, .inr (11, [.long n1, .long n2, .long n3, .long n4, .long n5, .long n6])), (h1, .inr (11, [.long n1, .long n2, .long n3, .long n4, .long n5, .long n6]))]) [0, 1, 2] rfl) (hK.sub (tys' := []) [] rfl) (hD.sub (ws' := [(h0, .inr (8, [.ref a1, .ref a2, .ref a3, .ref a4, .ref a5])), (a3, .inr (11, [.long n1, .long n2, .long n3, .long n4, .long n5, .long n6])), (h1, .inr (11, [.long n1, .long n2, .long n3, .long n4, .long n5, .long n6]))]) [0, 1, 2] (by decide) rfl) hS (Nat.le_of_ble_eq_true rfl) (Nat.le_of_ble_eq_true rfl) d_Reckoner_rest_70
  · have gc_2 : ¬ (n2 = 0) := fg_ifz hw1_0 c_2
    refine lv_aload_n hx hb d_Reckoner_rest_7 rfl (lv_at hl 0 rfl) ?_
    refine va_get (D := D) (ci := 8) (v := .ref a3) (C := "FilterGuard$Reckoner") (T := F_Reckoner) (N := 5) hx hb hts i_Reckoner hown hK hP 0 rfl rfl 2 (by decide) (hts _ u_398) (fun _ h9 => h9) rfl d_Reckoner_rest_8 ?_
    refine lv_lconst (v := 0) hx hb d_Reckoner_rest_11 (by decide) ?_
    refine lv_aload_n hx hb d_Reckoner_rest_12 rfl (lv_at hl 1 rfl) ?_
    refine va_get (D := D) (ci := 11) (v := .long n4) (C := "FilterGuard$Num") (T := F_Num) (N := 6) hx hb hts i_Num hown hK hP 2 rfl rfl 3 (by decide) (hts _ u_377) (fun _ h9 => h9) rfl d_Reckoner_rest_13 ?_
    refine fg_thenv (wr := [(h0, .inr (8, [.ref a1, .ref a2, .ref a3, .ref a4, .ref a5])), (h1, .inr (11, [.long n1, .long n2, .long n3, .long n4, .long n5, .long n6]))]) (fg_runV (C := "FilterGuard$Num") (As := [.long 0, .long n4]) (rest := []) (ci := 11) (q0 := 0) ⟨hx, hb, hml, hown, hts⟩ (c_Num_range l D a3 0 (-1) 0 (-1) (-9223372036854775808) 9223372036854775807 0 n4 H.size) rfl (by show fg_nm y_Num_range 2; decide +kernel) u_1145 u_1146 u_1147 u_187 u_1148 ⟨Nat.le_of_ble_eq_true rfl, Nat.le_of_ble_eq_true rfl⟩ hX (hP.sub (ws' := [(a3, .inr (11, [.long 0, .long (-1), .long 0, .long (-1), .long (-9223372036854775808), .long 9223372036854775807]))]) [1] rfl) (hK.sub (tys' := []) [] rfl) (hD.sub (ws' := [(a3, .inr (11, [.long 0, .long (-1), .long 0, .long (-1), .long (-9223372036854775808), .long 9223372036854775807]))]) [1] (by decide) rfl) rfl rfl rfl rfl hl.1 (Nat.le_of_ble_eq_true rfl) d_Reckoner_rest_16 ⟨(Nat.le_of_ble_eq_true rfl), (Nat.le_of_ble_eq_true rfl)⟩) hP hD hK hS hA [1] [0, 2] rfl rfl (by decide) (by decide) (fun  u H locs hw16_8 hP hD hK hS => ?_)
    try dsimp only at hw16_8
    have hP : va_P D classes [(h0, .inr (8, [.ref a1, .ref a2, .ref a3, .ref a4, .ref a5])), (h1, .inr (11, [.long n1, .long n2, .long n3, .long n4, .long n5, .long n6])), (a3, .inr (11, [.long 0, .long (-1), .long 0, .long n4, .long (-9223372036854775808), .long 9223372036854775807]))] H := hP
    have hD : va_D A [(h0, .inr (8, [.ref a1, .ref a2, .ref a3, .ref a4, .ref a5])), (h1, .inr (11, [.long n1, .long n2, .long n3, .long n4, .long n5, .long n6])), (a3, .inr (11, [.long 0, .long (-1), .long 0, .long n4, .long (-9223372036854775808), .long 9223372036854775807]))] := hD
    have hK : va_K D classes [] s := hK
    refine W.widen (k := 0) (n := 0) (Nat.le_of_ble_eq_true rfl) (Nat.le_of_ble_eq_true rfl) ?_
    refine lv_goto (tgt := 70) hx hb d_Reckoner_rest_19 (by decide) ?_
    exact fg_retv (0, (-1), 0, n4, (-9223372036854775808), 9223372036854775807) hx hb hr hlocks (by unfold fn_rest; (repeat rw [if_neg gc_2]); try rfl) (hP.sub (ws' := [(h0, .inr (8, [.ref a1, .ref a2, .ref a3, .ref a4, .ref a5])), (a3, .inr (11, [.long 0, .long (-1), .long 0, .long n4, .long (-9223372036854775808), .long 9223372036854775807])), (h1, .inr (11, [.long n1, .long n2, .long n3, .long n4, .long n5, .long n6]))]) [0, 2, 1] rfl) (hK.sub (tys' := []) [] rfl) (hD.sub (ws' := [(h0, .inr (8, [.ref a1, .ref a2, .ref a3, .ref a4, .ref a5])), (a3, .inr (11, [.long 0, .long (-1), .long 0, .long n4, .long (-9223372036854775808), .long 9223372036854775807])), (h1, .inr (11, [.long n1, .long n2, .long n3, .long n4, .long n5, .long n6]))]) [0, 2, 1] (by decide) rfl) hS (Nat.le_of_ble_eq_true rfl) (Nat.le_of_ble_eq_true rfl) d_Reckoner_rest_70
abbrev y_Reckoner_and : MethodName := ⟨"FilterGuard$Reckoner", "and", "(LFilterGuard$Num;LFilterGuard$Num;)V"⟩
theorem d_Reckoner_and_0 : decode prog_9_method_12_code 0 = .ok (.aload_n 1, 1) := by decide +kernel
theorem d_Reckoner_and_1 : decode prog_9_method_12_code 1 = .ok (.getfield 49, 3) := by decide +kernel
theorem d_Reckoner_and_4 : decode prog_9_method_12_code 4 = .ok (.aload_n 2, 1) := by decide +kernel
theorem d_Reckoner_and_5 : decode prog_9_method_12_code 5 = .ok (.getfield 49, 3) := by decide +kernel
theorem d_Reckoner_and_8 : decode prog_9_method_12_code 8 = .ok (.land, 1) := by decide +kernel
theorem d_Reckoner_and_9 : decode prog_9_method_12_code 9 = .ok (.lstore_n 3, 1) := by decide +kernel
theorem d_Reckoner_and_10 : decode prog_9_method_12_code 10 = .ok (.aload_n 0, 1) := by decide +kernel
theorem d_Reckoner_and_11 : decode prog_9_method_12_code 11 = .ok (.getfield 21, 3) := by decide +kernel
theorem d_Reckoner_and_14 : decode prog_9_method_12_code 14 = .ok (.lload_n 3, 1) := by decide +kernel
theorem d_Reckoner_and_15 : decode prog_9_method_12_code 15 = .ok (.aload_n 1, 1) := by decide +kernel
theorem d_Reckoner_and_16 : decode prog_9_method_12_code 16 = .ok (.getfield 49, 3) := by decide +kernel
theorem d_Reckoner_and_19 : decode prog_9_method_12_code 19 = .ok (.aload_n 1, 1) := by decide +kernel
theorem d_Reckoner_and_20 : decode prog_9_method_12_code 20 = .ok (.getfield 87, 3) := by decide +kernel
theorem d_Reckoner_and_23 : decode prog_9_method_12_code 23 = .ok (.lor, 1) := by decide +kernel
theorem d_Reckoner_and_24 : decode prog_9_method_12_code 24 = .ok (.aload_n 2, 1) := by decide +kernel
theorem d_Reckoner_and_25 : decode prog_9_method_12_code 25 = .ok (.getfield 49, 3) := by decide +kernel
theorem d_Reckoner_and_28 : decode prog_9_method_12_code 28 = .ok (.aload_n 2, 1) := by decide +kernel
theorem d_Reckoner_and_29 : decode prog_9_method_12_code 29 = .ok (.getfield 87, 3) := by decide +kernel
theorem d_Reckoner_and_32 : decode prog_9_method_12_code 32 = .ok (.lor, 1) := by decide +kernel
theorem d_Reckoner_and_33 : decode prog_9_method_12_code 33 = .ok (.land, 1) := by decide +kernel
theorem d_Reckoner_and_34 : decode prog_9_method_12_code 34 = .ok (.lload_n 3, 1) := by decide +kernel
theorem d_Reckoner_and_35 : decode prog_9_method_12_code 35 = .ok (.ldc2_w 90, 3) := by decide +kernel
theorem d_Reckoner_and_38 : decode prog_9_method_12_code 38 = .ok (.lxor, 1) := by decide +kernel
theorem d_Reckoner_and_39 : decode prog_9_method_12_code 39 = .ok (.land, 1) := by decide +kernel
theorem d_Reckoner_and_40 : decode prog_9_method_12_code 40 = .ok (.invokevirtual 92, 3) := by decide +kernel
theorem d_Reckoner_and_43 : decode prog_9_method_12_code 43 = .ok (.aload_n 0, 1) := by decide +kernel
theorem d_Reckoner_and_44 : decode prog_9_method_12_code 44 = .ok (.getfield 21, 3) := by decide +kernel
theorem d_Reckoner_and_47 : decode prog_9_method_12_code 47 = .ok (.aload_n 1, 1) := by decide +kernel
theorem d_Reckoner_and_48 : decode prog_9_method_12_code 48 = .ok (.getfield 122, 3) := by decide +kernel
theorem d_Reckoner_and_51 : decode prog_9_method_12_code 51 = .ok (.invokevirtual 146, 3) := by decide +kernel
theorem u_1194 : Cond.methodLink "FilterGuard$Reckoner" 146 ⟨"FilterGuard$Num", "lowerGreatest", "(J)V"⟩ ∈ fg_g := fg_in (List.mem_of_getElem? (i := 1194) (by decide +kernel)) rfl
theorem d_Reckoner_and_54 : decode prog_9_method_12_code 54 = .ok (.aload_n 0, 1) := by decide +kernel
theorem d_Reckoner_and_55 : decode prog_9_method_12_code 55 = .ok (.getfield 21, 3) := by decide +kernel
theorem d_Reckoner_and_58 : decode prog_9_method_12_code 58 = .ok (.aload_n 2, 1) := by decide +kernel
theorem d_Reckoner_and_59 : decode prog_9_method_12_code 59 = .ok (.getfield 122, 3) := by decide +kernel
theorem d_Reckoner_and_62 : decode prog_9_method_12_code 62 = .ok (.invokevirtual 146, 3) := by decide +kernel
theorem d_Reckoner_and_65 : decode prog_9_method_12_code 65 = .ok (.return_, 1) := by decide +kernel
def rm_Reck_and : Room := { frames := 2, cells := 0, slots := 0, locals := 60 }
abbrev q_Reck_and (D : va_G) (h0 : Nat) (a1 : Nat) (a2 : Nat) (a3 : Nat) (a4 : Nat) (a5 : Nat) (h1 : Nat) (n1 : Int64) (n2 : Int64) (n3 : Int64) (n4 : Int64) (n5 : Int64) (n6 : Int64) (h2 : Nat) (o1 : Int64) (o2 : Int64) (o3 : Int64) (o4 : Int64) (o5 : Int64) (o6 : Int64) (A : Nat → Prop) : Array Value → Jvm.State → Outcome → Jvm.State → Prop := va_Qv (fun (u : Int64 × Int64 × Int64 × Int64 × Int64 × Int64) => fn_and n1 n2 n4 o1 o2 o4 = (u.1, u.2.1, u.2.2.1, u.2.2.2.1, u.2.2.2.2.1, u.2.2.2.2.2)) (fg_B D A (fun (u : Int64 × Int64 × Int64 × Int64 × Int64 × Int64) => [(h0, .inr (8, [.ref a1, .ref a2, .ref a3, .ref a4, .ref a5])), (a3, .inr (11, [.long u.1, .long u.2.1, .long u.2.2.1, .long u.2.2.2.1, .long u.2.2.2.2.1, .long u.2.2.2.2.2])), (h1, .inr (11, [.long n1, .long n2, .long n3, .long n4, .long n5, .long n6])), (h2, .inr (11, [.long o1, .long o2, .long o3, .long o4, .long o5, .long o6]))]) (fun (u : Int64 × Int64 × Int64 × Int64 × Int64 × Int64) => [])) A
set_option maxHeartbeats 4000000 in
set_option maxRecDepth 100000 in
theorem c_Reck_and (l : Launch) (D : va_G) (h0 : Nat) (a1 : Nat) (a2 : Nat) (a3 : Nat) (a4 : Nat) (a5 : Nat) (h1 : Nat) (n1 : Int64) (n2 : Int64) (n3 : Int64) (n4 : Int64) (n5 : Int64) (n6 : Int64) (h2 : Nat) (o1 : Int64) (o2 : Int64) (o3 : Int64) (o4 : Int64) (o5 : Int64) (o6 : Int64) (sz : Nat) : Met l y_Reckoner_and (fg_w y_Reckoner_and prog_9_method_12_code 5 none) rm_Reck_and (va_Pc [.ref h0, .ref h1, .ref h2] (fg_P D [] [(h0, .inr (8, [.ref a1, .ref a2, .ref a3, .ref a4, .ref a5])), (a3, .inr (11, [.long 0, .long (-1), .long 0, .long (-1), .long (-9223372036854775808), .long 9223372036854775807])), (h1, .inr (11, [.long n1, .long n2, .long n3, .long n4, .long n5, .long n6])), (h2, .inr (11, [.long o1, .long o2, .long o3, .long o4, .long o5, .long o6]))] sz)) (q_Reck_and D h0 a1 a2 a3 a4 a5 h1 n1 n2 n3 n4 n5 n6 h2 o1 o2 o3 o4 o5 o6 (va_A [(h0, .inr (8, [.ref a1, .ref a2, .ref a3, .ref a4, .ref a5])), (a3, .inr (11, [.long 0, .long (-1), .long 0, .long (-1), .long (-9223372036854775808), .long 9223372036854775807])), (h1, .inr (11, [.long n1, .long n2, .long n3, .long n4, .long n5, .long n6])), (h2, .inr (11, [.long o1, .long o2, .long o3, .long o4, .long o5, .long o6]))] sz)) rm_Reck_and.cells rm_Reck_and.slots (va_A [(h0, .inr (8, [.ref a1, .ref a2, .ref a3, .ref a4, .ref a5])), (a3, .inr (11, [.long 0, .long (-1), .long 0, .long (-1), .long (-9223372036854775808), .long 9223372036854775807])), (h1, .inr (11, [.long n1, .long n2, .long n3, .long n4, .long n5, .long n6])), (h2, .inr (11, [.long o1, .long o2, .long o3, .long o4, .long o5, .long o6]))] sz) := by
  refine fg_enter (fun A => q_Reck_and D h0 a1 a2 a3 a4 a5 h1 n1 n2 n3 n4 n5 n6 h2 o1 o2 o3 o4 o5 o6 A) (by decide +kernel) (Nat.le_of_ble_eq_true rfl) ?_
  intro p e s m below meth c ls A hx hb hml hown hts hr hlocks hin hP hK hD hS hA hX hl
  have hl : lv_has ls 5 [(0, .ref h0), (1, .ref h1), (2, .ref h2)] := hl
  refine lv_aload_n hx hb d_Reckoner_and_0 rfl (lv_at hl 1 rfl) ?_
  refine va_get (D := D) (ci := 11) (v := .long n1) (C := "FilterGuard$Num") (T := F_Num) (N := 6) hx hb hts i_Num hown hK hP 2 rfl rfl 0 (by decide) (hts _ u_368) (fun _ h9 => h9) rfl d_Reckoner_and_1 ?_
  refine lv_aload_n hx hb d_Reckoner_and_4 rfl (lv_at hl 2 rfl) ?_
  refine va_get (D := D) (ci := 11) (v := .long o1) (C := "FilterGuard$Num") (T := F_Num) (N := 6) hx hb hts i_Num hown hK hP 3 rfl rfl 0 (by decide) (hts _ u_368) (fun _ h9 => h9) rfl d_Reckoner_and_5 ?_
  refine lv_land hx hb d_Reckoner_and_8 ?_
  refine lv_lstore_n (lv' := [(3, .long (n1 &&& o1)), (0, .ref h0), (1, .ref h1), (2, .ref h2)]) hx hb d_Reckoner_and_9 rfl hl (by decide) rfl (fun ls hl => ?_)
  refine lv_aload_n hx hb d_Reckoner_and_10 rfl (lv_at hl 1 rfl) ?_
  refine va_get (D := D) (ci := 8) (v := .ref a3) (C := "FilterGuard$Reckoner") (T := F_Reckoner) (N := 5) hx hb hts i_Reckoner hown hK hP 0 rfl rfl 2 (by decide) (hts _ u_398) (fun _ h9 => h9) rfl d_Reckoner_and_11 ?_
  refine lv_lload_n hx hb d_Reckoner_and_14 rfl (lv_at hl 0 rfl) ?_
  refine lv_aload_n hx hb d_Reckoner_and_15 rfl (lv_at hl 2 rfl) ?_
  refine va_get (D := D) (ci := 11) (v := .long n1) (C := "FilterGuard$Num") (T := F_Num) (N := 6) hx hb hts i_Num hown hK hP 2 rfl rfl 0 (by decide) (hts _ u_368) (fun _ h9 => h9) rfl d_Reckoner_and_16 ?_
  refine lv_aload_n hx hb d_Reckoner_and_19 rfl (lv_at hl 2 rfl) ?_
  refine va_get (D := D) (ci := 11) (v := .long n2) (C := "FilterGuard$Num") (T := F_Num) (N := 6) hx hb hts i_Num hown hK hP 2 rfl rfl 1 (by decide) (hts _ u_372) (fun _ h9 => h9) rfl d_Reckoner_and_20 ?_
  refine lv_lor hx hb d_Reckoner_and_23 ?_
  refine lv_aload_n hx hb d_Reckoner_and_24 rfl (lv_at hl 3 rfl) ?_
  refine va_get (D := D) (ci := 11) (v := .long o1) (C := "FilterGuard$Num") (T := F_Num) (N := 6) hx hb hts i_Num hown hK hP 3 rfl rfl 0 (by decide) (hts _ u_368) (fun _ h9 => h9) rfl d_Reckoner_and_25 ?_
  refine lv_aload_n hx hb d_Reckoner_and_28 rfl (lv_at hl 3 rfl) ?_
  refine va_get (D := D) (ci := 11) (v := .long o2) (C := "FilterGuard$Num") (T := F_Num) (N := 6) hx hb hts i_Num hown hK hP 3 rfl rfl 1 (by decide) (hts _ u_372) (fun _ h9 => h9) rfl d_Reckoner_and_29 ?_
  refine lv_lor hx hb d_Reckoner_and_32 ?_
  refine lv_land hx hb d_Reckoner_and_33 ?_
  refine lv_lload_n hx hb d_Reckoner_and_34 rfl (lv_at hl 0 rfl) ?_
  refine lv_ldc2 hx hb hown (hts _ u_1139) d_Reckoner_and_35 ?_
  refine lv_lxor hx hb d_Reckoner_and_38 ?_
  refine lv_land hx hb d_Reckoner_and_39 ?_
  refine fg_thenv (wr := [(h0, .inr (8, [.ref a1, .ref a2, .ref a3, .ref a4, .ref a5])), (h1, .inr (11, [.long n1, .long n2, .long n3, .long n4, .long n5, .long n6])), (h2, .inr (11, [.long o1, .long o2, .long o3, .long o4, .long o5, .long o6]))]) (fg_runV (C := "FilterGuard$Num") (As := [.long (n1 &&& o1), .long (((n1 ||| n2) &&& (o1 ||| o2)) &&& ((n1 &&& o1) ^^^ (-1)))]) (rest := []) (ci := 11) (q0 := 0) ⟨hx, hb, hml, hown, hts⟩ (c_Num_bits l D a3 0 (-1) 0 (-1) (-9223372036854775808) 9223372036854775807 (n1 &&& o1) (((n1 ||| n2) &&& (o1 ||| o2)) &&& ((n1 &&& o1) ^^^ (-1))) s.heap.size) rfl (by show fg_nm y_Num_bits 2; decide +kernel) u_1140 u_1141 u_1142 u_187 u_1143 ⟨Nat.le_of_ble_eq_true rfl, Nat.le_of_ble_eq_true rfl⟩ hX (hP.sub (ws' := [(a3, .inr (11, [.long 0, .long (-1), .long 0, .long (-1), .long (-9223372036854775808), .long 9223372036854775807]))]) [1] rfl) (hK.sub (tys' := []) [] rfl) (hD.sub (ws' := [(a3, .inr (11, [.long 0, .long (-1), .long 0, .long (-1), .long (-9223372036854775808), .long 9223372036854775807]))]) [1] (by decide) rfl) rfl rfl rfl rfl hl.1 (Nat.le_of_ble_eq_true rfl) d_Reckoner_and_40 ⟨(Nat.le_of_ble_eq_true rfl), (Nat.le_of_ble_eq_true rfl)⟩) hP hD hK hS hA [1] [0, 2, 3] rfl rfl (by decide) (by decide) (fun  u H locs hw40_0 hP hD hK hS => ?_)
  try dsimp only at hw40_0
  have hP : va_P D classes [(h0, .inr (8, [.ref a1, .ref a2, .ref a3, .ref a4, .ref a5])), (h1, .inr (11, [.long n1, .long n2, .long n3, .long n4, .long n5, .long n6])), (h2, .inr (11, [.long o1, .long o2, .long o3, .long o4, .long o5, .long o6])), (a3, .inr (11, [.long (n1 &&& o1), .long (((n1 ||| n2) &&& (o1 ||| o2)) &&& ((n1 &&& o1) ^^^ (-1))), .long 0, .long (-1), .long (-9223372036854775808), .long 9223372036854775807]))] H := hP
  have hD : va_D A [(h0, .inr (8, [.ref a1, .ref a2, .ref a3, .ref a4, .ref a5])), (h1, .inr (11, [.long n1, .long n2, .long n3, .long n4, .long n5, .long n6])), (h2, .inr (11, [.long o1, .long o2, .long o3, .long o4, .long o5, .long o6])), (a3, .inr (11, [.long (n1 &&& o1), .long (((n1 ||| n2) &&& (o1 ||| o2)) &&& ((n1 &&& o1) ^^^ (-1))), .long 0, .long (-1), .long (-9223372036854775808), .long 9223372036854775807]))] := hD
  have hK : va_K D classes [] s := hK
  refine W.widen (k := 0) (n := 0) (Nat.le_of_ble_eq_true rfl) (Nat.le_of_ble_eq_true rfl) ?_
  refine lv_aload_n hx hb d_Reckoner_and_43 rfl (lv_at hl 1 rfl) ?_
  refine va_get (D := D) (ci := 8) (v := .ref a3) (C := "FilterGuard$Reckoner") (T := F_Reckoner) (N := 5) hx hb hts i_Reckoner hown hK hP 0 rfl rfl 2 (by decide) (hts _ u_398) (fun _ h9 => h9) rfl d_Reckoner_and_44 ?_
  refine lv_aload_n hx hb d_Reckoner_and_47 rfl (lv_at hl 2 rfl) ?_
  refine va_get (D := D) (ci := 11) (v := .long n4) (C := "FilterGuard$Num") (T := F_Num) (N := 6) hx hb hts i_Num hown hK hP 1 rfl rfl 3 (by decide) (hts _ u_377) (fun _ h9 => h9) rfl d_Reckoner_and_48 ?_
  refine fg_thenv (wr := [(h0, .inr (8, [.ref a1, .ref a2, .ref a3, .ref a4, .ref a5])), (h1, .inr (11, [.long n1, .long n2, .long n3, .long n4, .long n5, .long n6])), (h2, .inr (11, [.long o1, .long o2, .long o3, .long o4, .long o5, .long o6]))]) (fg_runV (C := "FilterGuard$Num") (As := [.long n4]) (rest := []) (ci := 11) (q0 := 0) ⟨hx, hb, hml, hown, hts⟩ (c_Num_lower l D a3 (n1 &&& o1) (((n1 ||| n2) &&& (o1 ||| o2)) &&& ((n1 &&& o1) ^^^ (-1))) 0 (-1) (-9223372036854775808) 9223372036854775807 n4 H.size) rfl (by show fg_nm y_Num_lowerGreatest 1; decide +kernel) u_1194 u_1195 u_1196 u_187 u_1197 ⟨Nat.le_of_ble_eq_true rfl, Nat.le_of_ble_eq_true rfl⟩ hX (hP.sub (ws' := [(a3, .inr (11, [.long (n1 &&& o1), .long (((n1 ||| n2) &&& (o1 ||| o2)) &&& ((n1 &&& o1) ^^^ (-1))), .long 0, .long (-1), .long (-9223372036854775808), .long 9223372036854775807]))]) [3] rfl) (hK.sub (tys' := []) [] rfl) (hD.sub (ws' := [(a3, .inr (11, [.long (n1 &&& o1), .long (((n1 ||| n2) &&& (o1 ||| o2)) &&& ((n1 &&& o1) ^^^ (-1))), .long 0, .long (-1), .long (-9223372036854775808), .long 9223372036854775807]))]) [3] (by decide) rfl) rfl rfl rfl rfl hl.1 (Nat.le_of_ble_eq_true rfl) d_Reckoner_and_51 ⟨(Nat.le_of_ble_eq_true rfl), (Nat.le_of_ble_eq_true rfl)⟩) hP hD hK hS hA [3] [0, 1, 2] rfl rfl (by decide) (by decide) (fun  u H locs hw51_1 hP hD hK hS => ?_)
  obtain ⟨y1_51_2, rfl⟩ : ∃ z, z = u := ⟨_, rfl⟩
  try dsimp only at hw51_1
  have hP : va_P D classes [(h0, .inr (8, [.ref a1, .ref a2, .ref a3, .ref a4, .ref a5])), (h1, .inr (11, [.long n1, .long n2, .long n3, .long n4, .long n5, .long n6])), (h2, .inr (11, [.long o1, .long o2, .long o3, .long o4, .long o5, .long o6])), (a3, .inr (11, [.long (n1 &&& o1), .long (((n1 ||| n2) &&& (o1 ||| o2)) &&& ((n1 &&& o1) ^^^ (-1))), .long 0, .long y1_51_2, .long (-9223372036854775808), .long 9223372036854775807]))] H := hP
  have hD : va_D A [(h0, .inr (8, [.ref a1, .ref a2, .ref a3, .ref a4, .ref a5])), (h1, .inr (11, [.long n1, .long n2, .long n3, .long n4, .long n5, .long n6])), (h2, .inr (11, [.long o1, .long o2, .long o3, .long o4, .long o5, .long o6])), (a3, .inr (11, [.long (n1 &&& o1), .long (((n1 ||| n2) &&& (o1 ||| o2)) &&& ((n1 &&& o1) ^^^ (-1))), .long 0, .long y1_51_2, .long (-9223372036854775808), .long 9223372036854775807]))] := hD
  have hK : va_K D classes [] s := hK
  refine W.widen (k := 0) (n := 0) (Nat.le_of_ble_eq_true rfl) (Nat.le_of_ble_eq_true rfl) ?_
  subst hw51_1
  have hP : va_P D classes [(h0, .inr (8, [.ref a1, .ref a2, .ref a3, .ref a4, .ref a5])), (h1, .inr (11, [.long n1, .long n2, .long n3, .long n4, .long n5, .long n6])), (h2, .inr (11, [.long o1, .long o2, .long o3, .long o4, .long o5, .long o6])), (a3, .inr (11, [.long (n1 &&& o1), .long (((n1 ||| n2) &&& (o1 ||| o2)) &&& ((n1 &&& o1) ^^^ (-1))), .long 0, .long (fn_min (-1) n4), .long (-9223372036854775808), .long 9223372036854775807]))] H := hP
  have hD : va_D A [(h0, .inr (8, [.ref a1, .ref a2, .ref a3, .ref a4, .ref a5])), (h1, .inr (11, [.long n1, .long n2, .long n3, .long n4, .long n5, .long n6])), (h2, .inr (11, [.long o1, .long o2, .long o3, .long o4, .long o5, .long o6])), (a3, .inr (11, [.long (n1 &&& o1), .long (((n1 ||| n2) &&& (o1 ||| o2)) &&& ((n1 &&& o1) ^^^ (-1))), .long 0, .long (fn_min (-1) n4), .long (-9223372036854775808), .long 9223372036854775807]))] := hD
  refine lv_aload_n hx hb d_Reckoner_and_54 rfl (lv_at hl 1 rfl) ?_
  refine va_get (D := D) (ci := 8) (v := .ref a3) (C := "FilterGuard$Reckoner") (T := F_Reckoner) (N := 5) hx hb hts i_Reckoner hown hK hP 0 rfl rfl 2 (by decide) (hts _ u_398) (fun _ h9 => h9) rfl d_Reckoner_and_55 ?_
  refine lv_aload_n hx hb d_Reckoner_and_58 rfl (lv_at hl 3 rfl) ?_
  refine va_get (D := D) (ci := 11) (v := .long o4) (C := "FilterGuard$Num") (T := F_Num) (N := 6) hx hb hts i_Num hown hK hP 2 rfl rfl 3 (by decide) (hts _ u_377) (fun _ h9 => h9) rfl d_Reckoner_and_59 ?_
  refine fg_thenv (wr := [(h0, .inr (8, [.ref a1, .ref a2, .ref a3, .ref a4, .ref a5])), (h1, .inr (11, [.long n1, .long n2, .long n3, .long n4, .long n5, .long n6])), (h2, .inr (11, [.long o1, .long o2, .long o3, .long o4, .long o5, .long o6]))]) (fg_runV (C := "FilterGuard$Num") (As := [.long o4]) (rest := []) (ci := 11) (q0 := 0) ⟨hx, hb, hml, hown, hts⟩ (c_Num_lower l D a3 (n1 &&& o1) (((n1 ||| n2) &&& (o1 ||| o2)) &&& ((n1 &&& o1) ^^^ (-1))) 0 (fn_min (-1) n4) (-9223372036854775808) 9223372036854775807 o4 H.size) rfl (by show fg_nm y_Num_lowerGreatest 1; decide +kernel) u_1194 u_1195 u_1196 u_187 u_1197 ⟨Nat.le_of_ble_eq_true rfl, Nat.le_of_ble_eq_true rfl⟩ hX (hP.sub (ws' := [(a3, .inr (11, [.long (n1 &&& o1), .long (((n1 ||| n2) &&& (o1 ||| o2)) &&& ((n1 &&& o1) ^^^ (-1))), .long 0, .long (fn_min (-1) n4), .long (-9223372036854775808), .long 9223372036854775807]))]) [3] rfl) (hK.sub (tys' := []) [] rfl) (hD.sub (ws' := [(a3, .inr (11, [.long (n1 &&& o1), .long (((n1 ||| n2) &&& (o1 ||| o2)) &&& ((n1 &&& o1) ^^^ (-1))), .long 0, .long (fn_min (-1) n4), .long (-9223372036854775808), .long 9223372036854775807]))]) [3] (by decide) rfl) rfl rfl rfl rfl hl.1 (Nat.le_of_ble_eq_true rfl) d_Reckoner_and_62 ⟨(Nat.le_of_ble_eq_true rfl), (Nat.le_of_ble_eq_true rfl)⟩) hP hD hK hS hA [3] [0, 1, 2] rfl rfl (by decide) (by decide) (fun  u H locs hw62_3 hP hD hK hS => ?_)
  obtain ⟨y1_62_4, rfl⟩ : ∃ z, z = u := ⟨_, rfl⟩
  try dsimp only at hw62_3
  have hP : va_P D classes [(h0, .inr (8, [.ref a1, .ref a2, .ref a3, .ref a4, .ref a5])), (h1, .inr (11, [.long n1, .long n2, .long n3, .long n4, .long n5, .long n6])), (h2, .inr (11, [.long o1, .long o2, .long o3, .long o4, .long o5, .long o6])), (a3, .inr (11, [.long (n1 &&& o1), .long (((n1 ||| n2) &&& (o1 ||| o2)) &&& ((n1 &&& o1) ^^^ (-1))), .long 0, .long y1_62_4, .long (-9223372036854775808), .long 9223372036854775807]))] H := hP
  have hD : va_D A [(h0, .inr (8, [.ref a1, .ref a2, .ref a3, .ref a4, .ref a5])), (h1, .inr (11, [.long n1, .long n2, .long n3, .long n4, .long n5, .long n6])), (h2, .inr (11, [.long o1, .long o2, .long o3, .long o4, .long o5, .long o6])), (a3, .inr (11, [.long (n1 &&& o1), .long (((n1 ||| n2) &&& (o1 ||| o2)) &&& ((n1 &&& o1) ^^^ (-1))), .long 0, .long y1_62_4, .long (-9223372036854775808), .long 9223372036854775807]))] := hD
  have hK : va_K D classes [] s := hK
  refine W.widen (k := 0) (n := 0) (Nat.le_of_ble_eq_true rfl) (Nat.le_of_ble_eq_true rfl) ?_
  subst hw62_3
  have hP : va_P D classes [(h0, .inr (8, [.ref a1, .ref a2, .ref a3, .ref a4, .ref a5])), (h1, .inr (11, [.long n1, .long n2, .long n3, .long n4, .long n5, .long n6])), (h2, .inr (11, [.long o1, .long o2, .long o3, .long o4, .long o5, .long o6])), (a3, .inr (11, [.long (n1 &&& o1), .long (((n1 ||| n2) &&& (o1 ||| o2)) &&& ((n1 &&& o1) ^^^ (-1))), .long 0, .long (fn_min (fn_min (-1) n4) o4), .long (-9223372036854775808), .long 9223372036854775807]))] H := hP
  have hD : va_D A [(h0, .inr (8, [.ref a1, .ref a2, .ref a3, .ref a4, .ref a5])), (h1, .inr (11, [.long n1, .long n2, .long n3, .long n4, .long n5, .long n6])), (h2, .inr (11, [.long o1, .long o2, .long o3, .long o4, .long o5, .long o6])), (a3, .inr (11, [.long (n1 &&& o1), .long (((n1 ||| n2) &&& (o1 ||| o2)) &&& ((n1 &&& o1) ^^^ (-1))), .long 0, .long (fn_min (fn_min (-1) n4) o4), .long (-9223372036854775808), .long 9223372036854775807]))] := hD
  exact fg_retv ((n1 &&& o1), (((n1 ||| n2) &&& (o1 ||| o2)) &&& ((n1 &&& o1) ^^^ (-1))), 0, (fn_min (fn_min (-1) n4) o4), (-9223372036854775808), 9223372036854775807) hx hb hr hlocks (by unfold fn_and; skip; try rfl) (hP.sub (ws' := [(h0, .inr (8, [.ref a1, .ref a2, .ref a3, .ref a4, .ref a5])), (a3, .inr (11, [.long (n1 &&& o1), .long (((n1 ||| n2) &&& (o1 ||| o2)) &&& ((n1 &&& o1) ^^^ (-1))), .long 0, .long (fn_min (fn_min (-1) n4) o4), .long (-9223372036854775808), .long 9223372036854775807])), (h1, .inr (11, [.long n1, .long n2, .long n3, .long n4, .long n5, .long n6])), (h2, .inr (11, [.long o1, .long o2, .long o3, .long o4, .long o5, .long o6]))]) [0, 3, 1, 2] rfl) (hK.sub (tys' := []) [] rfl) (hD.sub (ws' := [(h0, .inr (8, [.ref a1, .ref a2, .ref a3, .ref a4, .ref a5])), (a3, .inr (11, [.long (n1 &&& o1), .long (((n1 ||| n2) &&& (o1 ||| o2)) &&& ((n1 &&& o1) ^^^ (-1))), .long 0, .long (fn_min (fn_min (-1) n4) o4), .long (-9223372036854775808), .long 9223372036854775807])), (h1, .inr (11, [.long n1, .long n2, .long n3, .long n4, .long n5, .long n6])), (h2, .inr (11, [.long o1, .long o2, .long o3, .long o4, .long o5, .long o6]))]) [0, 3, 1, 2] (by decide) rfl) hS (Nat.le_of_ble_eq_true rfl) (Nat.le_of_ble_eq_true rfl) d_Reckoner_and_65
def rm_Reck_and_s : Room := { frames := 2, cells := 0, slots := 0, locals := 60 }
abbrev q_Reck_and_s (D : va_G) (h0 : Nat) (a1 : Nat) (a2 : Nat) (a3 : Nat) (a4 : Nat) (a5 : Nat) (h1 : Nat) (n1 : Int64) (n2 : Int64) (n3 : Int64) (n4 : Int64) (n5 : Int64) (n6 : Int64) (A : Nat → Prop) : Array Value → Jvm.State → Outcome → Jvm.State → Prop := va_Qv (fun (u : Int64 × Int64 × Int64 × Int64 × Int64 × Int64) => fn_and n1 n2 n4 n1 n2 n4 = (u.1, u.2.1, u.2.2.1, u.2.2.2.1, u.2.2.2.2.1, u.2.2.2.2.2)) (fg_B D A (fun (u : Int64 × Int64 × Int64 × Int64 × Int64 × Int64) => [(h0, .inr (8, [.ref a1, .ref a2, .ref a3, .ref a4, .ref a5])), (a3, .inr (11, [.long u.1, .long u.2.1, .long u.2.2.1, .long u.2.2.2.1, .long u.2.2.2.2.1, .long u.2.2.2.2.2])), (h1, .inr (11, [.long n1, .long n2, .long n3, .long n4, .long n5, .long n6]))]) (fun (u : Int64 × Int64 × Int64 × Int64 × Int64 × Int64) => [])) A
set_option maxHeartbeats 4000000 in
set_option maxRecDepth 100000 in
theorem c_Reck_and_s (l : Launch) (D : va_G) (h0 : Nat) (a1 : Nat) (a2 : Nat) (a3 : Nat) (a4 : Nat) (a5 : Nat) (h1 : Nat) (n1 : Int64) (n2 : Int64) (n3 : Int64) (n4 : Int64) (n5 : Int64) (n6 : Int64) (sz : Nat) : Met l y_Reckoner_and (fg_w y_Reckoner_and prog_9_method_12_code 5 none) rm_Reck_and_s (va_Pc [.ref h0, .ref h1, .ref h1] (fg_P D [] [(h0, .inr (8, [.ref a1, .ref a2, .ref a3, .ref a4, .ref a5])), (a3, .inr (11, [.long 0, .long (-1), .long 0, .long (-1), .long (-9223372036854775808), .long 9223372036854775807])), (h1, .inr (11, [.long n1, .long n2, .long n3, .long n4, .long n5, .long n6]))] sz)) (q_Reck_and_s D h0 a1 a2 a3 a4 a5 h1 n1 n2 n3 n4 n5 n6 (va_A [(h0, .inr (8, [.ref a1, .ref a2, .ref a3, .ref a4, .ref a5])), (a3, .inr (11, [.long 0, .long (-1), .long 0, .long (-1), .long (-9223372036854775808), .long 9223372036854775807])), (h1, .inr (11, [.long n1, .long n2, .long n3, .long n4, .long n5, .long n6]))] sz)) rm_Reck_and_s.cells rm_Reck_and_s.slots (va_A [(h0, .inr (8, [.ref a1, .ref a2, .ref a3, .ref a4, .ref a5])), (a3, .inr (11, [.long 0, .long (-1), .long 0, .long (-1), .long (-9223372036854775808), .long 9223372036854775807])), (h1, .inr (11, [.long n1, .long n2, .long n3, .long n4, .long n5, .long n6]))] sz) := by
  refine fg_enter (fun A => q_Reck_and_s D h0 a1 a2 a3 a4 a5 h1 n1 n2 n3 n4 n5 n6 A) (by decide +kernel) (Nat.le_of_ble_eq_true rfl) ?_
  intro p e s m below meth c ls A hx hb hml hown hts hr hlocks hin hP hK hD hS hA hX hl
  have hl : lv_has ls 5 [(0, .ref h0), (1, .ref h1), (2, .ref h1)] := hl
  refine lv_aload_n hx hb d_Reckoner_and_0 rfl (lv_at hl 1 rfl) ?_
  refine va_get (D := D) (ci := 11) (v := .long n1) (C := "FilterGuard$Num") (T := F_Num) (N := 6) hx hb hts i_Num hown hK hP 2 rfl rfl 0 (by decide) (hts _ u_368) (fun _ h9 => h9) rfl d_Reckoner_and_1 ?_
  refine lv_aload_n hx hb d_Reckoner_and_4 rfl (lv_at hl 2 rfl) ?_
  refine va_get (D := D) (ci := 11) (v := .long n1) (C := "FilterGuard$Num") (T := F_Num) (N := 6) hx hb hts i_Num hown hK hP 2 rfl rfl 0 (by decide) (hts _ u_368) (fun _ h9 => h9) rfl d_Reckoner_and_5 ?_
  refine lv_land hx hb d_Reckoner_and_8 ?_
  refine lv_lstore_n (lv' := [(3, .long (n1 &&& n1)), (0, .ref h0), (1, .ref h1), (2, .ref h1)]) hx hb d_Reckoner_and_9 rfl hl (by decide) rfl (fun ls hl => ?_)
  refine lv_aload_n hx hb d_Reckoner_and_10 rfl (lv_at hl 1 rfl) ?_
  refine va_get (D := D) (ci := 8) (v := .ref a3) (C := "FilterGuard$Reckoner") (T := F_Reckoner) (N := 5) hx hb hts i_Reckoner hown hK hP 0 rfl rfl 2 (by decide) (hts _ u_398) (fun _ h9 => h9) rfl d_Reckoner_and_11 ?_
  refine lv_lload_n hx hb d_Reckoner_and_14 rfl (lv_at hl 0 rfl) ?_
  refine lv_aload_n hx hb d_Reckoner_and_15 rfl (lv_at hl 2 rfl) ?_
  refine va_get (D := D) (ci := 11) (v := .long n1) (C := "FilterGuard$Num") (T := F_Num) (N := 6) hx hb hts i_Num hown hK hP 2 rfl rfl 0 (by decide) (hts _ u_368) (fun _ h9 => h9) rfl d_Reckoner_and_16 ?_
  refine lv_aload_n hx hb d_Reckoner_and_19 rfl (lv_at hl 2 rfl) ?_
  refine va_get (D := D) (ci := 11) (v := .long n2) (C := "FilterGuard$Num") (T := F_Num) (N := 6) hx hb hts i_Num hown hK hP 2 rfl rfl 1 (by decide) (hts _ u_372) (fun _ h9 => h9) rfl d_Reckoner_and_20 ?_
  refine lv_lor hx hb d_Reckoner_and_23 ?_
  refine lv_aload_n hx hb d_Reckoner_and_24 rfl (lv_at hl 3 rfl) ?_
  refine va_get (D := D) (ci := 11) (v := .long n1) (C := "FilterGuard$Num") (T := F_Num) (N := 6) hx hb hts i_Num hown hK hP 2 rfl rfl 0 (by decide) (hts _ u_368) (fun _ h9 => h9) rfl d_Reckoner_and_25 ?_
  refine lv_aload_n hx hb d_Reckoner_and_28 rfl (lv_at hl 3 rfl) ?_
  refine va_get (D := D) (ci := 11) (v := .long n2) (C := "FilterGuard$Num") (T := F_Num) (N := 6) hx hb hts i_Num hown hK hP 2 rfl rfl 1 (by decide) (hts _ u_372) (fun _ h9 => h9) rfl d_Reckoner_and_29 ?_
  refine lv_lor hx hb d_Reckoner_and_32 ?_
  refine lv_land hx hb d_Reckoner_and_33 ?_
  refine lv_lload_n hx hb d_Reckoner_and_34 rfl (lv_at hl 0 rfl) ?_
  refine lv_ldc2 hx hb hown (hts _ u_1139) d_Reckoner_and_35 ?_
  refine lv_lxor hx hb d_Reckoner_and_38 ?_
  refine lv_land hx hb d_Reckoner_and_39 ?_
  refine fg_thenv (wr := [(h0, .inr (8, [.ref a1, .ref a2, .ref a3, .ref a4, .ref a5])), (h1, .inr (11, [.long n1, .long n2, .long n3, .long n4, .long n5, .long n6]))]) (fg_runV (C := "FilterGuard$Num") (As := [.long (n1 &&& n1), .long (((n1 ||| n2) &&& (n1 ||| n2)) &&& ((n1 &&& n1) ^^^ (-1)))]) (rest := []) (ci := 11) (q0 := 0) ⟨hx, hb, hml, hown, hts⟩ (c_Num_bits l D a3 0 (-1) 0 (-1) (-9223372036854775808) 9223372036854775807 (n1 &&& n1) (((n1 ||| n2) &&& (n1 ||| n2)) &&& ((n1 &&& n1) ^^^ (-1))) s.heap.size) rfl (by show fg_nm y_Num_bits 2; decide +kernel) u_1140 u_1141 u_1142 u_187 u_1143 ⟨Nat.le_of_ble_eq_true rfl, Nat.le_of_ble_eq_true rfl⟩ hX (hP.sub (ws' := [(a3, .inr (11, [.long 0, .long (-1), .long 0, .long (-1), .long (-9223372036854775808), .long 9223372036854775807]))]) [1] rfl) (hK.sub (tys' := []) [] rfl) (hD.sub (ws' := [(a3, .inr (11, [.long 0, .long (-1), .long 0, .long (-1), .long (-9223372036854775808), .long 9223372036854775807]))]) [1] (by decide) rfl) rfl rfl rfl rfl hl.1 (Nat.le_of_ble_eq_true rfl) d_Reckoner_and_40 ⟨(Nat.le_of_ble_eq_true rfl), (Nat.le_of_ble_eq_true rfl)⟩) hP hD hK hS hA [1] [0, 2] rfl rfl (by decide) (by decide) (fun  u H locs hw40_0 hP hD hK hS => ?_)
  try dsimp only at hw40_0
  have hP : va_P D classes [(h0, .inr (8, [.ref a1, .ref a2, .ref a3, .ref a4, .ref a5])), (h1, .inr (11, [.long n1, .long n2, .long n3, .long n4, .long n5, .long n6])), (a3, .inr (11, [.long (n1 &&& n1), .long (((n1 ||| n2) &&& (n1 ||| n2)) &&& ((n1 &&& n1) ^^^ (-1))), .long 0, .long (-1), .long (-9223372036854775808), .long 9223372036854775807]))] H := hP
  have hD : va_D A [(h0, .inr (8, [.ref a1, .ref a2, .ref a3, .ref a4, .ref a5])), (h1, .inr (11, [.long n1, .long n2, .long n3, .long n4, .long n5, .long n6])), (a3, .inr (11, [.long (n1 &&& n1), .long (((n1 ||| n2) &&& (n1 ||| n2)) &&& ((n1 &&& n1) ^^^ (-1))), .long 0, .long (-1), .long (-9223372036854775808), .long 9223372036854775807]))] := hD
  have hK : va_K D classes [] s := hK
  refine W.widen (k := 0) (n := 0) (Nat.le_of_ble_eq_true rfl) (Nat.le_of_ble_eq_true rfl) ?_
  refine lv_aload_n hx hb d_Reckoner_and_43 rfl (lv_at hl 1 rfl) ?_
  refine va_get (D := D) (ci := 8) (v := .ref a3) (C := "FilterGuard$Reckoner") (T := F_Reckoner) (N := 5) hx hb hts i_Reckoner hown hK hP 0 rfl rfl 2 (by decide) (hts _ u_398) (fun _ h9 => h9) rfl d_Reckoner_and_44 ?_
  refine lv_aload_n hx hb d_Reckoner_and_47 rfl (lv_at hl 2 rfl) ?_
  refine va_get (D := D) (ci := 11) (v := .long n4) (C := "FilterGuard$Num") (T := F_Num) (N := 6) hx hb hts i_Num hown hK hP 1 rfl rfl 3 (by decide) (hts _ u_377) (fun _ h9 => h9) rfl d_Reckoner_and_48 ?_
  refine fg_thenv (wr := [(h0, .inr (8, [.ref a1, .ref a2, .ref a3, .ref a4, .ref a5])), (h1, .inr (11, [.long n1, .long n2, .long n3, .long n4, .long n5, .long n6]))]) (fg_runV (C := "FilterGuard$Num") (As := [.long n4]) (rest := []) (ci := 11) (q0 := 0) ⟨hx, hb, hml, hown, hts⟩ (c_Num_lower l D a3 (n1 &&& n1) (((n1 ||| n2) &&& (n1 ||| n2)) &&& ((n1 &&& n1) ^^^ (-1))) 0 (-1) (-9223372036854775808) 9223372036854775807 n4 H.size) rfl (by show fg_nm y_Num_lowerGreatest 1; decide +kernel) u_1194 u_1195 u_1196 u_187 u_1197 ⟨Nat.le_of_ble_eq_true rfl, Nat.le_of_ble_eq_true rfl⟩ hX (hP.sub (ws' := [(a3, .inr (11, [.long (n1 &&& n1), .long (((n1 ||| n2) &&& (n1 ||| n2)) &&& ((n1 &&& n1) ^^^ (-1))), .long 0, .long (-1), .long (-9223372036854775808), .long 9223372036854775807]))]) [2] rfl) (hK.sub (tys' := []) [] rfl) (hD.sub (ws' := [(a3, .inr (11, [.long (n1 &&& n1), .long (((n1 ||| n2) &&& (n1 ||| n2)) &&& ((n1 &&& n1) ^^^ (-1))), .long 0, .long (-1), .long (-9223372036854775808), .long 9223372036854775807]))]) [2] (by decide) rfl) rfl rfl rfl rfl hl.1 (Nat.le_of_ble_eq_true rfl) d_Reckoner_and_51 ⟨(Nat.le_of_ble_eq_true rfl), (Nat.le_of_ble_eq_true rfl)⟩) hP hD hK hS hA [2] [0, 1] rfl rfl (by decide) (by decide) (fun  u H locs hw51_1 hP hD hK hS => ?_)
  obtain ⟨y1_51_2, rfl⟩ : ∃ z, z = u := ⟨_, rfl⟩
  try dsimp only at hw51_1
  have hP : va_P D classes [(h0, .inr (8, [.ref a1, .ref a2, .ref a3, .ref a4, .ref a5])), (h1, .inr (11, [.long n1, .long n2, .long n3, .long n4, .long n5, .long n6])), (a3, .inr (11, [.long (n1 &&& n1), .long (((n1 ||| n2) &&& (n1 ||| n2)) &&& ((n1 &&& n1) ^^^ (-1))), .long 0, .long y1_51_2, .long (-9223372036854775808), .long 9223372036854775807]))] H := hP
  have hD : va_D A [(h0, .inr (8, [.ref a1, .ref a2, .ref a3, .ref a4, .ref a5])), (h1, .inr (11, [.long n1, .long n2, .long n3, .long n4, .long n5, .long n6])), (a3, .inr (11, [.long (n1 &&& n1), .long (((n1 ||| n2) &&& (n1 ||| n2)) &&& ((n1 &&& n1) ^^^ (-1))), .long 0, .long y1_51_2, .long (-9223372036854775808), .long 9223372036854775807]))] := hD
  have hK : va_K D classes [] s := hK
  refine W.widen (k := 0) (n := 0) (Nat.le_of_ble_eq_true rfl) (Nat.le_of_ble_eq_true rfl) ?_
  subst hw51_1
  have hP : va_P D classes [(h0, .inr (8, [.ref a1, .ref a2, .ref a3, .ref a4, .ref a5])), (h1, .inr (11, [.long n1, .long n2, .long n3, .long n4, .long n5, .long n6])), (a3, .inr (11, [.long (n1 &&& n1), .long (((n1 ||| n2) &&& (n1 ||| n2)) &&& ((n1 &&& n1) ^^^ (-1))), .long 0, .long (fn_min (-1) n4), .long (-9223372036854775808), .long 9223372036854775807]))] H := hP
  have hD : va_D A [(h0, .inr (8, [.ref a1, .ref a2, .ref a3, .ref a4, .ref a5])), (h1, .inr (11, [.long n1, .long n2, .long n3, .long n4, .long n5, .long n6])), (a3, .inr (11, [.long (n1 &&& n1), .long (((n1 ||| n2) &&& (n1 ||| n2)) &&& ((n1 &&& n1) ^^^ (-1))), .long 0, .long (fn_min (-1) n4), .long (-9223372036854775808), .long 9223372036854775807]))] := hD
  refine lv_aload_n hx hb d_Reckoner_and_54 rfl (lv_at hl 1 rfl) ?_
  refine va_get (D := D) (ci := 8) (v := .ref a3) (C := "FilterGuard$Reckoner") (T := F_Reckoner) (N := 5) hx hb hts i_Reckoner hown hK hP 0 rfl rfl 2 (by decide) (hts _ u_398) (fun _ h9 => h9) rfl d_Reckoner_and_55 ?_
  refine lv_aload_n hx hb d_Reckoner_and_58 rfl (lv_at hl 3 rfl) ?_
  refine va_get (D := D) (ci := 11) (v := .long n4) (C := "FilterGuard$Num") (T := F_Num) (N := 6) hx hb hts i_Num hown hK hP 1 rfl rfl 3 (by decide) (hts _ u_377) (fun _ h9 => h9) rfl d_Reckoner_and_59 ?_
  refine fg_thenv (wr := [(h0, .inr (8, [.ref a1, .ref a2, .ref a3, .ref a4, .ref a5])), (h1, .inr (11, [.long n1, .long n2, .long n3, .long n4, .long n5, .long n6]))]) (fg_runV (C := "FilterGuard$Num") (As := [.long n4]) (rest := []) (ci := 11) (q0 := 0) ⟨hx, hb, hml, hown, hts⟩ (c_Num_lower l D a3 (n1 &&& n1) (((n1 ||| n2) &&& (n1 ||| n2)) &&& ((n1 &&& n1) ^^^ (-1))) 0 (fn_min (-1) n4) (-9223372036854775808) 9223372036854775807 n4 H.size) rfl (by show fg_nm y_Num_lowerGreatest 1; decide +kernel) u_1194 u_1195 u_1196 u_187 u_1197 ⟨Nat.le_of_ble_eq_true rfl, Nat.le_of_ble_eq_true rfl⟩ hX (hP.sub (ws' := [(a3, .inr (11, [.long (n1 &&& n1), .long (((n1 ||| n2) &&& (n1 ||| n2)) &&& ((n1 &&& n1) ^^^ (-1))), .long 0, .long (fn_min (-1) n4), .long (-9223372036854775808), .long 9223372036854775807]))]) [2] rfl) (hK.sub (tys' := []) [] rfl) (hD.sub (ws' := [(a3, .inr (11, [.long (n1 &&& n1), .long (((n1 ||| n2) &&& (n1 ||| n2)) &&& ((n1 &&& n1) ^^^ (-1))), .long 0, .long (fn_min (-1) n4), .long (-9223372036854775808), .long 9223372036854775807]))]) [2] (by decide) rfl) rfl rfl rfl rfl hl.1 (Nat.le_of_ble_eq_true rfl) d_Reckoner_and_62 ⟨(Nat.le_of_ble_eq_true rfl), (Nat.le_of_ble_eq_true rfl)⟩) hP hD hK hS hA [2] [0, 1] rfl rfl (by decide) (by decide) (fun  u H locs hw62_3 hP hD hK hS => ?_)
  obtain ⟨y1_62_4, rfl⟩ : ∃ z, z = u := ⟨_, rfl⟩
  try dsimp only at hw62_3
  have hP : va_P D classes [(h0, .inr (8, [.ref a1, .ref a2, .ref a3, .ref a4, .ref a5])), (h1, .inr (11, [.long n1, .long n2, .long n3, .long n4, .long n5, .long n6])), (a3, .inr (11, [.long (n1 &&& n1), .long (((n1 ||| n2) &&& (n1 ||| n2)) &&& ((n1 &&& n1) ^^^ (-1))), .long 0, .long y1_62_4, .long (-9223372036854775808), .long 9223372036854775807]))] H := hP
  have hD : va_D A [(h0, .inr (8, [.ref a1, .ref a2, .ref a3, .ref a4, .ref a5])), (h1, .inr (11, [.long n1, .long n2, .long n3, .long n4, .long n5, .long n6])), (a3, .inr (11, [.long (n1 &&& n1), .long (((n1 ||| n2) &&& (n1 ||| n2)) &&& ((n1 &&& n1) ^^^ (-1))), .long 0, .long y1_62_4, .long (-9223372036854775808), .long 9223372036854775807]))] := hD
  have hK : va_K D classes [] s := hK
  refine W.widen (k := 0) (n := 0) (Nat.le_of_ble_eq_true rfl) (Nat.le_of_ble_eq_true rfl) ?_
  subst hw62_3
  have hP : va_P D classes [(h0, .inr (8, [.ref a1, .ref a2, .ref a3, .ref a4, .ref a5])), (h1, .inr (11, [.long n1, .long n2, .long n3, .long n4, .long n5, .long n6])), (a3, .inr (11, [.long (n1 &&& n1), .long (((n1 ||| n2) &&& (n1 ||| n2)) &&& ((n1 &&& n1) ^^^ (-1))), .long 0, .long (fn_min (fn_min (-1) n4) n4), .long (-9223372036854775808), .long 9223372036854775807]))] H := hP
  have hD : va_D A [(h0, .inr (8, [.ref a1, .ref a2, .ref a3, .ref a4, .ref a5])), (h1, .inr (11, [.long n1, .long n2, .long n3, .long n4, .long n5, .long n6])), (a3, .inr (11, [.long (n1 &&& n1), .long (((n1 ||| n2) &&& (n1 ||| n2)) &&& ((n1 &&& n1) ^^^ (-1))), .long 0, .long (fn_min (fn_min (-1) n4) n4), .long (-9223372036854775808), .long 9223372036854775807]))] := hD
  exact fg_retv ((n1 &&& n1), (((n1 ||| n2) &&& (n1 ||| n2)) &&& ((n1 &&& n1) ^^^ (-1))), 0, (fn_min (fn_min (-1) n4) n4), (-9223372036854775808), 9223372036854775807) hx hb hr hlocks (by unfold fn_and; skip; try rfl) (hP.sub (ws' := [(h0, .inr (8, [.ref a1, .ref a2, .ref a3, .ref a4, .ref a5])), (a3, .inr (11, [.long (n1 &&& n1), .long (((n1 ||| n2) &&& (n1 ||| n2)) &&& ((n1 &&& n1) ^^^ (-1))), .long 0, .long (fn_min (fn_min (-1) n4) n4), .long (-9223372036854775808), .long 9223372036854775807])), (h1, .inr (11, [.long n1, .long n2, .long n3, .long n4, .long n5, .long n6]))]) [0, 2, 1] rfl) (hK.sub (tys' := []) [] rfl) (hD.sub (ws' := [(h0, .inr (8, [.ref a1, .ref a2, .ref a3, .ref a4, .ref a5])), (a3, .inr (11, [.long (n1 &&& n1), .long (((n1 ||| n2) &&& (n1 ||| n2)) &&& ((n1 &&& n1) ^^^ (-1))), .long 0, .long (fn_min (fn_min (-1) n4) n4), .long (-9223372036854775808), .long 9223372036854775807])), (h1, .inr (11, [.long n1, .long n2, .long n3, .long n4, .long n5, .long n6]))]) [0, 2, 1] (by decide) rfl) hS (Nat.le_of_ble_eq_true rfl) (Nat.le_of_ble_eq_true rfl) d_Reckoner_and_65
