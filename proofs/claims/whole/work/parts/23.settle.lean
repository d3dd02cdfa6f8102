abbrev y_Num_settle : MethodName := ⟨"FilterGuard$Num", "settle", "()Z"⟩
theorem d_Num_settle_0 : decode prog_8_method_12_code 0 = .ok (.iconst 0, 1) := by decide +kernel
theorem d_Num_settle_1 : decode prog_8_method_12_code 1 = .ok (.istore_n 1, 1) := by decide +kernel
theorem d_Num_settle_2 : decode prog_8_method_12_code 2 = .ok (.iload_n 1, 1) := by decide +kernel
theorem d_Num_settle_3 : decode prog_8_method_12_code 3 = .ok (.iconst 3, 1) := by decide +kernel
theorem d_Num_settle_4 : decode prog_8_method_12_code 4 = .ok (.if_icmp .ge 207, 3) := by decide +kernel
theorem d_Num_settle_211 : decode prog_8_method_12_code 211 = .ok (.iconst 1, 1) := by decide +kernel
theorem d_Num_settle_212 : decode prog_8_method_12_code 212 = .ok (.ireturn, 1) := by decide +kernel
theorem d_Num_settle_7 : decode prog_8_method_12_code 7 = .ok (.aload_n 0, 1) := by decide +kernel
theorem d_Num_settle_8 : decode prog_8_method_12_code 8 = .ok (.aload_n 0, 1) := by decide +kernel
theorem d_Num_settle_9 : decode prog_8_method_12_code 9 = .ok (.getfield 9, 3) := by decide +kernel
theorem d_Num_settle_12 : decode prog_8_method_12_code 12 = .ok (.invokevirtual 40, 3) := by decide +kernel
theorem u_1225 : Cond.methodLink "FilterGuard$Num" 40 ⟨"FilterGuard$Num", "raiseLeast", "(J)V"⟩ ∈ fg_g := fg_in (List.mem_of_getElem? (i := 1225) (by decide +kernel)) rfl
theorem u_1201 : Cond.code ⟨"FilterGuard$Num", "raiseLeast", "(J)V"⟩ prog_8_method_15_code 3 none ∈ fg_g := fg_in (List.mem_of_getElem? (i := 1201) (by decide +kernel)) rfl
theorem u_1199 : Cond.instanceMethod ⟨"FilterGuard$Num", "raiseLeast", "(J)V"⟩ ∈ fg_g := fg_in (List.mem_of_getElem? (i := 1199) (by decide +kernel)) rfl
theorem u_1200 : Cond.selects "FilterGuard$Num" ⟨"FilterGuard$Num", "raiseLeast", "(J)V"⟩ ⟨"FilterGuard$Num", "raiseLeast", "(J)V"⟩ ∈ fg_g := fg_in (List.mem_of_getElem? (i := 1200) (by decide +kernel)) rfl
theorem d_Num_settle_15 : decode prog_8_method_12_code 15 = .ok (.aload_n 0, 1) := by decide +kernel
theorem d_Num_settle_16 : decode prog_8_method_12_code 16 = .ok (.aload_n 0, 1) := by decide +kernel
theorem d_Num_settle_17 : decode prog_8_method_12_code 17 = .ok (.getfield 9, 3) := by decide +kernel
theorem d_Num_settle_20 : decode prog_8_method_12_code 20 = .ok (.aload_n 0, 1) := by decide +kernel
theorem d_Num_settle_21 : decode prog_8_method_12_code 21 = .ok (.getfield 15, 3) := by decide +kernel
theorem d_Num_settle_24 : decode prog_8_method_12_code 24 = .ok (.lor, 1) := by decide +kernel
theorem d_Num_settle_25 : decode prog_8_method_12_code 25 = .ok (.invokevirtual 44, 3) := by decide +kernel
theorem u_1226 : Cond.methodLink "FilterGuard$Num" 44 ⟨"FilterGuard$Num", "lowerGreatest", "(J)V"⟩ ∈ fg_g := fg_in (List.mem_of_getElem? (i := 1226) (by decide +kernel)) rfl
theorem u_1197 : Cond.code ⟨"FilterGuard$Num", "lowerGreatest", "(J)V"⟩ prog_8_method_16_code 3 none ∈ fg_g := fg_in (List.mem_of_getElem? (i := 1197) (by decide +kernel)) rfl
theorem u_1195 : Cond.instanceMethod ⟨"FilterGuard$Num", "lowerGreatest", "(J)V"⟩ ∈ fg_g := fg_in (List.mem_of_getElem? (i := 1195) (by decide +kernel)) rfl
theorem u_1196 : Cond.selects "FilterGuard$Num" ⟨"FilterGuard$Num", "lowerGreatest", "(J)V"⟩ ⟨"FilterGuard$Num", "lowerGreatest", "(J)V"⟩ ∈ fg_g := fg_in (List.mem_of_getElem? (i := 1196) (by decide +kernel)) rfl
theorem d_Num_settle_28 : decode prog_8_method_12_code 28 = .ok (.aload_n 0, 1) := by decide +kernel
theorem d_Num_settle_29 : decode prog_8_method_12_code 29 = .ok (.getfield 18, 3) := by decide +kernel
theorem d_Num_settle_32 : decode prog_8_method_12_code 32 = .ok (.aload_n 0, 1) := by decide +kernel
theorem d_Num_settle_33 : decode prog_8_method_12_code 33 = .ok (.getfield 21, 3) := by decide +kernel
theorem d_Num_settle_36 : decode prog_8_method_12_code 36 = .ok (.lxor, 1) := by decide +kernel
theorem d_Num_settle_37 : decode prog_8_method_12_code 37 = .ok (.lconst 0, 1) := by decide +kernel
theorem d_Num_settle_38 : decode prog_8_method_12_code 38 = .ok (.lcmp, 1) := by decide +kernel
theorem d_Num_settle_39 : decode prog_8_method_12_code 39 = .ok (.ifCond .lt 33, 3) := by decide +kernel
theorem d_Num_settle_72 : decode prog_8_method_12_code 72 = .ok (.aload_n 0, 1) := by decide +kernel
theorem d_Num_settle_73 : decode prog_8_method_12_code 73 = .ok (.getfield 24, 3) := by decide +kernel
theorem d_Num_settle_76 : decode prog_8_method_12_code 76 = .ok (.aload_n 0, 1) := by decide +kernel
theorem d_Num_settle_77 : decode prog_8_method_12_code 77 = .ok (.getfield 27, 3) := by decide +kernel
theorem d_Num_settle_80 : decode prog_8_method_12_code 80 = .ok (.lxor, 1) := by decide +kernel
theorem d_Num_settle_81 : decode prog_8_method_12_code 81 = .ok (.lconst 0, 1) := by decide +kernel
theorem d_Num_settle_82 : decode prog_8_method_12_code 82 = .ok (.lcmp, 1) := by decide +kernel
theorem d_Num_settle_83 : decode prog_8_method_12_code 83 = .ok (.ifCond .lt 19, 3) := by decide +kernel
theorem d_Num_settle_102 : decode prog_8_method_12_code 102 = .ok (.aload_n 0, 1) := by decide +kernel
theorem d_Num_settle_103 : decode prog_8_method_12_code 103 = .ok (.getfield 21, 3) := by decide +kernel
theorem d_Num_settle_106 : decode prog_8_method_12_code 106 = .ok (.aload_n 0, 1) := by decide +kernel
theorem d_Num_settle_107 : decode prog_8_method_12_code 107 = .ok (.getfield 18, 3) := by decide +kernel
theorem d_Num_settle_110 : decode prog_8_method_12_code 110 = .ok (.invokestatic 36, 3) := by decide +kernel
theorem d_Num_settle_113 : decode prog_8_method_12_code 113 = .ok (.ifCond .ne 15, 3) := by decide +kernel
theorem d_Num_settle_128 : decode prog_8_method_12_code 128 = .ok (.iconst 0, 1) := by decide +kernel
theorem d_Num_settle_129 : decode prog_8_method_12_code 129 = .ok (.ireturn, 1) := by decide +kernel
theorem d_Num_settle_116 : decode prog_8_method_12_code 116 = .ok (.aload_n 0, 1) := by decide +kernel
theorem d_Num_settle_117 : decode prog_8_method_12_code 117 = .ok (.getfield 24, 3) := by decide +kernel
theorem d_Num_settle_120 : decode prog_8_method_12_code 120 = .ok (.aload_n 0, 1) := by decide +kernel
theorem d_Num_settle_121 : decode prog_8_method_12_code 121 = .ok (.getfield 27, 3) := by decide +kernel
theorem d_Num_settle_124 : decode prog_8_method_12_code 124 = .ok (.lcmp, 1) := by decide +kernel
theorem d_Num_settle_125 : decode prog_8_method_12_code 125 = .ok (.ifCond .le 5, 3) := by decide +kernel
theorem d_Num_settle_130 : decode prog_8_method_12_code 130 = .ok (.aload_n 0, 1) := by decide +kernel
theorem d_Num_settle_131 : decode prog_8_method_12_code 131 = .ok (.getfield 18, 3) := by decide +kernel
theorem d_Num_settle_134 : decode prog_8_method_12_code 134 = .ok (.aload_n 0, 1) := by decide +kernel
theorem d_Num_settle_135 : decode prog_8_method_12_code 135 = .ok (.getfield 21, 3) := by decide +kernel
theorem d_Num_settle_138 : decode prog_8_method_12_code 138 = .ok (.lxor, 1) := by decide +kernel
theorem d_Num_settle_139 : decode prog_8_method_12_code 139 = .ok (.invokestatic 56, 3) := by decide +kernel
theorem u_1233 : Cond.methodLink "FilterGuard$Num" 56 ⟨"FilterGuard$Num", "downFromHighest", "(J)J"⟩ ∈ fg_g := fg_in (List.mem_of_getElem? (i := 1233) (by decide +kernel)) rfl
theorem u_1235 : Cond.code ⟨"FilterGuard$Num", "downFromHighest", "(J)J"⟩ prog_8_method_13_code 4 (some .long) ∈ fg_g := fg_in (List.mem_of_getElem? (i := 1235) (by decide +kernel)) rfl
theorem u_1234 : Cond.static ⟨"FilterGuard$Num", "downFromHighest", "(J)J"⟩ ∈ fg_g := fg_in (List.mem_of_getElem? (i := 1234) (by decide +kernel)) rfl
theorem d_Num_settle_142 : decode prog_8_method_12_code 142 = .ok (.lstore_n 2, 1) := by decide +kernel
theorem d_Num_settle_143 : decode prog_8_method_12_code 143 = .ok (.aload_n 0, 1) := by decide +kernel
theorem d_Num_settle_144 : decode prog_8_method_12_code 144 = .ok (.getfield 9, 3) := by decide +kernel
theorem d_Num_settle_147 : decode prog_8_method_12_code 147 = .ok (.aload_n 0, 1) := by decide +kernel
theorem d_Num_settle_148 : decode prog_8_method_12_code 148 = .ok (.getfield 18, 3) := by decide +kernel
theorem d_Num_settle_151 : decode prog_8_method_12_code 151 = .ok (.lxor, 1) := by decide +kernel
theorem d_Num_settle_152 : decode prog_8_method_12_code 152 = .ok (.aload_n 0, 1) := by decide +kernel
theorem d_Num_settle_153 : decode prog_8_method_12_code 153 = .ok (.getfield 15, 3) := by decide +kernel
theorem d_Num_settle_156 : decode prog_8_method_12_code 156 = .ok (.ldc2_w 30, 3) := by decide +kernel
theorem d_Num_settle_159 : decode prog_8_method_12_code 159 = .ok (.lxor, 1) := by decide +kernel
theorem d_Num_settle_160 : decode prog_8_method_12_code 160 = .ok (.land, 1) := by decide +kernel
theorem d_Num_settle_161 : decode prog_8_method_12_code 161 = .ok (.lload_n 2, 1) := by decide +kernel
theorem d_Num_settle_162 : decode prog_8_method_12_code 162 = .ok (.ldc2_w 30, 3) := by decide +kernel
theorem d_Num_settle_165 : decode prog_8_method_12_code 165 = .ok (.lxor, 1) := by decide +kernel
theorem d_Num_settle_166 : decode prog_8_method_12_code 166 = .ok (.land, 1) := by decide +kernel
theorem d_Num_settle_167 : decode prog_8_method_12_code 167 = .ok (.lconst 0, 1) := by decide +kernel
theorem d_Num_settle_168 : decode prog_8_method_12_code 168 = .ok (.lcmp, 1) := by decide +kernel
theorem d_Num_settle_169 : decode prog_8_method_12_code 169 = .ok (.ifCond .eq 5, 3) := by decide +kernel
theorem d_Num_settle_174 : decode prog_8_method_12_code 174 = .ok (.aload_n 0, 1) := by decide +kernel
theorem d_Num_settle_175 : decode prog_8_method_12_code 175 = .ok (.aload_n 0, 1) := by decide +kernel
theorem d_Num_settle_176 : decode prog_8_method_12_code 176 = .ok (.getfield 9, 3) := by decide +kernel
theorem d_Num_settle_179 : decode prog_8_method_12_code 179 = .ok (.lload_n 2, 1) := by decide +kernel
theorem d_Num_settle_180 : decode prog_8_method_12_code 180 = .ok (.land, 1) := by decide +kernel
theorem d_Num_settle_181 : decode prog_8_method_12_code 181 = .ok (.aload_n 0, 1) := by decide +kernel
theorem d_Num_settle_182 : decode prog_8_method_12_code 182 = .ok (.getfield 18, 3) := by decide +kernel
theorem d_Num_settle_185 : decode prog_8_method_12_code 185 = .ok (.lload_n 2, 1) := by decide +kernel
theorem d_Num_settle_186 : decode prog_8_method_12_code 186 = .ok (.ldc2_w 30, 3) := by decide +kernel
theorem d_Num_settle_189 : decode prog_8_method_12_code 189 = .ok (.lxor, 1) := by decide +kernel
theorem d_Num_settle_190 : decode prog_8_method_12_code 190 = .ok (.land, 1) := by decide +kernel
theorem d_Num_settle_191 : decode prog_8_method_12_code 191 = .ok (.lor, 1) := by decide +kernel
theorem d_Num_settle_192 : decode prog_8_method_12_code 192 = .ok (.putfield 9, 3) := by decide +kernel
theorem d_Num_settle_195 : decode prog_8_method_12_code 195 = .ok (.aload_n 0, 1) := by decide +kernel
theorem d_Num_settle_196 : decode prog_8_method_12_code 196 = .ok (.dup, 1) := by decide +kernel
theorem d_Num_settle_197 : decode prog_8_method_12_code 197 = .ok (.getfield 15, 3) := by decide +kernel
theorem d_Num_settle_200 : decode prog_8_method_12_code 200 = .ok (.lload_n 2, 1) := by decide +kernel
theorem d_Num_settle_201 : decode prog_8_method_12_code 201 = .ok (.land, 1) := by decide +kernel
theorem d_Num_settle_202 : decode prog_8_method_12_code 202 = .ok (.putfield 15, 3) := by decide +kernel
theorem d_Num_settle_205 : decode prog_8_method_12_code 205 = .ok (.iinc 1 1, 3) := by decide +kernel
theorem d_Num_settle_208 : decode prog_8_method_12_code 208 = .ok (.goto (-206), 3) := by decide +kernel
theorem d_Num_settle_172 : decode prog_8_method_12_code 172 = .ok (.iconst 0, 1) := by decide +kernel
theorem d_Num_settle_173 : decode prog_8_method_12_code 173 = .ok (.ireturn, 1) := by decide +kernel
theorem d_Num_settle_86 : decode prog_8_method_12_code 86 = .ok (.aload_n 0, 1) := by decide +kernel
theorem d_Num_settle_87 : decode prog_8_method_12_code 87 = .ok (.aload_n 0, 1) := by decide +kernel
theorem d_Num_settle_88 : decode prog_8_method_12_code 88 = .ok (.getfield 24, 3) := by decide +kernel
theorem d_Num_settle_91 : decode prog_8_method_12_code 91 = .ok (.invokevirtual 40, 3) := by decide +kernel
theorem d_Num_settle_94 : decode prog_8_method_12_code 94 = .ok (.aload_n 0, 1) := by decide +kernel
theorem d_Num_settle_95 : decode prog_8_method_12_code 95 = .ok (.aload_n 0, 1) := by decide +kernel
theorem d_Num_settle_96 : decode prog_8_method_12_code 96 = .ok (.getfield 27, 3) := by decide +kernel
theorem d_Num_settle_99 : decode prog_8_method_12_code 99 = .ok (.invokevirtual 44, 3) := by decide +kernel
theorem d_Num_settle_42 : decode prog_8_method_12_code 42 = .ok (.aload_n 0, 1) := by decide +kernel
theorem d_Num_settle_43 : decode prog_8_method_12_code 43 = .ok (.aload_n 0, 1) := by decide +kernel
theorem d_Num_settle_44 : decode prog_8_method_12_code 44 = .ok (.getfield 24, 3) := by decide +kernel
theorem d_Num_settle_47 : decode prog_8_method_12_code 47 = .ok (.aload_n 0, 1) := by decide +kernel
theorem d_Num_settle_48 : decode prog_8_method_12_code 48 = .ok (.getfield 18, 3) := by decide +kernel
theorem d_Num_settle_51 : decode prog_8_method_12_code 51 = .ok (.invokestatic 47, 3) := by decide +kernel
theorem u_1227 : Cond.methodLink "FilterGuard$Num" 47 ⟨"java/lang/Math", "max", "(JJ)J"⟩ ∈ fg_g := fg_in (List.mem_of_getElem? (i := 1227) (by decide +kernel)) rfl
theorem u_1228 : Cond.static ⟨"java/lang/Math", "max", "(JJ)J"⟩ ∈ fg_g := fg_in (List.mem_of_getElem? (i := 1228) (by decide +kernel)) rfl
theorem u_193 : Cond.initialized "java/lang/Math" ∈ fg_g := fg_in (List.mem_of_getElem? (i := 193) (by decide +kernel)) rfl
theorem u_1229 : Cond.code ⟨"java/lang/Math", "max", "(JJ)J"⟩ prog_21_method_66_code 4 (some .long) ∈ fg_g := fg_in (List.mem_of_getElem? (i := 1229) (by decide +kernel)) rfl
theorem d_Num_settle_54 : decode prog_8_method_12_code 54 = .ok (.putfield 24, 3) := by decide +kernel
theorem d_Num_settle_57 : decode prog_8_method_12_code 57 = .ok (.aload_n 0, 1) := by decide +kernel
theorem d_Num_settle_58 : decode prog_8_method_12_code 58 = .ok (.aload_n 0, 1) := by decide +kernel
theorem d_Num_settle_59 : decode prog_8_method_12_code 59 = .ok (.getfield 27, 3) := by decide +kernel
theorem d_Num_settle_62 : decode prog_8_method_12_code 62 = .ok (.aload_n 0, 1) := by decide +kernel
theorem d_Num_settle_63 : decode prog_8_method_12_code 63 = .ok (.getfield 21, 3) := by decide +kernel
theorem d_Num_settle_66 : decode prog_8_method_12_code 66 = .ok (.invokestatic 53, 3) := by decide +kernel
theorem u_1230 : Cond.methodLink "FilterGuard$Num" 53 ⟨"java/lang/Math", "min", "(JJ)J"⟩ ∈ fg_g := fg_in (List.mem_of_getElem? (i := 1230) (by decide +kernel)) rfl
theorem u_1231 : Cond.static ⟨"java/lang/Math", "min", "(JJ)J"⟩ ∈ fg_g := fg_in (List.mem_of_getElem? (i := 1231) (by decide +kernel)) rfl
theorem u_1232 : Cond.code ⟨"java/lang/Math", "min", "(JJ)J"⟩ prog_21_method_70_code 4 (some .long) ∈ fg_g := fg_in (List.mem_of_getElem? (i := 1232) (by decide +kernel)) rfl
theorem d_Num_settle_69 : decode prog_8_method_12_code 69 = .ok (.putfield 27, 3) := by decide +kernel
def rm_Num_settle : Room := { frames := 2, cells := 0, slots := 0, locals := 60 }
abbrev q_Num_settle (D : va_G) (h0 : Nat) (n1 : Int64) (n2 : Int64) (n3 : Int64) (n4 : Int64) (n5 : Int64) (n6 : Int64) (A : Nat → Prop) : Array Value → Jvm.State → Outcome → Jvm.State → Prop := va_Qi (fun (r : Int32) (u : Int64 × Int64 × Int64 × Int64 × Int64 × Int64) => (r = 1 ∧ fn_it 3 (n1, n2, n3, n4, n5, n6) = some (u.1, u.2.1, u.2.2.1, u.2.2.2.1, u.2.2.2.2.1, u.2.2.2.2.2)) ∨ (r = 0 ∧ fn_it 3 (n1, n2, n3, n4, n5, n6) = none)) (fg_B D A (fun (u : Int64 × Int64 × Int64 × Int64 × Int64 × Int64) => [(h0, .inr (11, [.long u.1, .long u.2.1, .long u.2.2.1, .long u.2.2.2.1, .long u.2.2.2.2.1, .long u.2.2.2.2.2]))]) (fun (u : Int64 × Int64 × Int64 × Int64 × Int64 × Int64) => [])) A
set_option maxHeartbeats 4000000 in
set_option maxRecDepth 100000 in
theorem c_Num_settle (l : Launch) (D : va_G) (h0 : Nat) (n1 : Int64) (n2 : Int64) (n3 : Int64) (n4 : Int64) (n5 : Int64) (n6 : Int64) (sz : Nat) : Met l y_Num_settle (fg_w y_Num_settle prog_8_method_12_code 4 (some .boolean)) rm_Num_settle (va_Pc [.ref h0] (fg_P D [] [(h0, .inr (11, [.long n1, .long n2, .long n3, .long n4, .long n5, .long n6]))] sz)) (q_Num_settle D h0 n1 n2 n3 n4 n5 n6 (va_A [(h0, .inr (11, [.long n1, .long n2, .long n3, .long n4, .long n5, .long n6]))] sz)) rm_Num_settle.cells rm_Num_settle.slots (va_A [(h0, .inr (11, [.long n1, .long n2, .long n3, .long n4, .long n5, .long n6]))] sz) := by
  refine fg_enter (fun A => q_Num_settle D h0 n1 n2 n3 n4 n5 n6 A) (by decide +kernel) (Nat.le_of_ble_eq_true rfl) ?_
  intro p e s m below meth c ls A hx hb hml hown hts hr hlocks hin hP hK hD hS hA hX hl
  have hl : lv_has ls 4 [(0, .ref h0)] := hl
  refine lv_iconst (v := 0) hx hb d_Num_settle_0 (by decide) ?_
  refine lv_istore_n (lv' := [(1, .int 0), (0, .ref h0)]) hx hb d_Num_settle_1 rfl hl (by decide) rfl (fun ls hl => ?_)
  have loop2 : ∀ (n : Nat) (k : Nat) (v1 : Int64) (v2 : Int64) (v3 : Int64) (v4 : Int64) (v5 : Int64) (v6 : Int64) (H : Heap) (locs : List Loc) (ls : Array Slot), k ≤ 3 → fn_it k (n1, n2, n3, n4, n5, n6) = some (v1, v2, v3, v4, v5, v6) → 3 - k < n → va_P D classes [(h0, .inr (11, [.long v1, .long v2, .long v3, .long v4, .long v5, .long v6]))] H → va_D A [(h0, .inr (11, [.long v1, .long v2, .long v3, .long v4, .long v5, .long v6]))] → va_S A s.heap H locs → lv_has ls 4 [(1, .int (nI k)), (0, .ref h0)] → W p l e rm_Num_settle s m [.ref h0].toArray below meth c H locs (0) (0) (MQ below (q_Num_settle D h0 n1 n2 n3 n4 n5 n6 A) [.ref h0].toArray s rm_Num_settle.cells rm_Num_settle.slots A) (F0 m 2 ls []) := by
    intro n
    induction n with
    | zero => intro k v1 v2 v3 v4 v5 v6 H locs ls hk hit hn; exact absurd hn (Nat.not_lt_zero _)
    | succ n ih =>
      intro k v1 v2 v3 v4 v5 v6 H locs ls hk hit hn hP hD hS hl
      refine lv_iload_n hx hb d_Num_settle_2 rfl (lv_at hl 0 rfl) ?_
      refine lv_iconst (v := 3) hx hb d_Num_settle_3 (by decide) ?_
      refine lv_icmp_ge (tgt := 211) hx hb d_Num_settle_4 (by decide) (fun c_1 => ?_) (fun c_1 => ?_)
      · have hk3 : k = 3 := fg_eqn (x := 3) rfl (by decide) hk c_1
        refine lv_iconst (v := 1) hx hb d_Num_settle_211 (by decide) ?_
        exact fg_retz (v1, v2, v3, v4, v5, v6) hx hb hr hlocks rfl (Or.inl ⟨rfl, by rw [hk3] at hit; exact hit⟩) (hP.sub (ws' := [(h0, .inr (11, [.long v1, .long v2, .long v3, .long v4, .long v5, .long v6]))]) [0] rfl) (hK.sub (tys' := []) [] rfl) (hD.sub (ws' := [(h0, .inr (11, [.long v1, .long v2, .long v3, .long v4, .long v5, .long v6]))]) [0] (by decide) rfl) hS (Nat.le_of_ble_eq_true rfl) (Nat.le_of_ble_eq_true rfl) d_Num_settle_212
      · have hlt : k < 3 := fg_lt (x := 3) rfl (by decide) hk c_1
        refine lv_aload_n hx hb d_Num_settle_7 rfl (lv_at hl 1 rfl) ?_
        refine lv_aload_n hx hb d_Num_settle_8 rfl (lv_at hl 1 rfl) ?_
        refine va_get (D := D) (ci := 11) (v := .long v1) (C := "FilterGuard$Num") (T := F_Num) (N := 6) hx hb hts i_Num hown hK hP 0 rfl rfl 0 (by decide) (hts _ u_367) (fun _ h9 => h9) rfl d_Num_settle_9 ?_
        refine fg_thenv (wr := []) (fg_runV (C := "FilterGuard$Num") (As := [.long v1]) (rest := []) (ci := 11) (q0 := 0) ⟨hx, hb, hml, hown, hts⟩ (c_Num_raise l D h0 v1 v2 v3 v4 v5 v6 v1 H.size) rfl (by show fg_nm y_Num_raiseLeast 1; decide +kernel) u_1225 u_1199 u_1200 u_187 u_1201 ⟨Nat.le_of_ble_eq_true rfl, Nat.le_of_ble_eq_true rfl⟩ hX (hP.sub (ws' := [(h0, .inr (11, [.long v1, .long v2, .long v3, .long v4, .long v5, .long v6]))]) [0] rfl) (hK.sub (tys' := []) [] rfl) (hD.sub (ws' := [(h0, .inr (11, [.long v1, .long v2, .long v3, .long v4, .long v5, .long v6]))]) [0] (by decide) rfl) rfl rfl rfl rfl hl.1 (Nat.le_of_ble_eq_true rfl) d_Num_settle_12 ⟨(Nat.le_of_ble_eq_true rfl), (Nat.le_of_ble_eq_true rfl)⟩) hP hD hK hS hA [0] [] rfl rfl (by decide) (by decide) (fun  u H locs hw12_1 hP hD hK hS => ?_)
        obtain ⟨y1_12_2, rfl⟩ : ∃ z, z = u := ⟨_, rfl⟩
        try dsimp only at hw12_1
        have hP : va_P D classes [(h0, .inr (11, [.long v1, .long v2, .long y1_12_2, .long v4, .long v5, .long v6]))] H := hP
        have hD : va_D A [(h0, .inr (11, [.long v1, .long v2, .long y1_12_2, .long v4, .long v5, .long v6]))] := hD
        have hK : va_K D classes [] s := hK
        refine W.widen (k := 0) (n := 0) (Nat.le_of_ble_eq_true rfl) (Nat.le_of_ble_eq_true rfl) ?_
        subst hw12_1
        have hP : va_P D classes [(h0, .inr (11, [.long v1, .long v2, .long (fn_max v3 v1), .long v4, .long v5, .long v6]))] H := hP
        have hD : va_D A [(h0, .inr (11, [.long v1, .long v2, .long (fn_max v3 v1), .long v4, .long v5, .long v6]))] := hD
        refine lv_aload_n hx hb d_Num_settle_15 rfl (lv_at hl 1 rfl) ?_
        refine lv_aload_n hx hb d_Num_settle_16 rfl (lv_at hl 1 rfl) ?_
        refine va_get (D := D) (ci := 11) (v := .long v1) (C := "FilterGuard$Num") (T := F_Num) (N := 6) hx hb hts i_Num hown hK hP 0 rfl rfl 0 (by decide) (hts _ u_367) (fun _ h9 => h9) rfl d_Num_settle_17 ?_
        refine lv_aload_n hx hb d_Num_settle_20 rfl (lv_at hl 1 rfl) ?_
        refine va_get (D := D) (ci := 11) (v := .long v2) (C := "FilterGuard$Num") (T := F_Num) (N := 6) hx hb hts i_Num hown hK hP 0 rfl rfl 1 (by decide) (hts _ u_371) (fun _ h9 => h9) rfl d_Num_settle_21 ?_
        refine lv_lor hx hb d_Num_settle_24 ?_
        refine fg_thenv (wr := []) (fg_runV (C := "FilterGuard$Num") (As := [.long (v1 ||| v2)]) (rest := []) (ci := 11) (q0 := 0) ⟨hx, hb, hml, hown, hts⟩ (c_Num_lower l D h0 v1 v2 (fn_max v3 v1) v4 v5 v6 (v1 ||| v2) H.size) rfl (by show fg_nm y_Num_lowerGreatest 1; decide +kernel) u_1226 u_1195 u_1196 u_187 u_1197 ⟨Nat.le_of_ble_eq_true rfl, Nat.le_of_ble_eq_true rfl⟩ hX (hP.sub (ws' := [(h0, .inr (11, [.long v1, .long v2, .long (fn_max v3 v1), .long v4, .long v5, .long v6]))]) [0] rfl) (hK.sub (tys' := []) [] rfl) (hD.sub (ws' := [(h0, .inr (11, [.long v1, .long v2, .long (fn_max v3 v1), .long v4, .long v5, .long v6]))]) [0] (by decide) rfl) rfl rfl rfl rfl hl.1 (Nat.le_of_ble_eq_true rfl) d_Num_settle_25 ⟨(Nat.le_of_ble_eq_true rfl), (Nat.le_of_ble_eq_true rfl)⟩) hP hD hK hS hA [0] [] rfl rfl (by decide) (by decide) (fun  u H locs hw25_3 hP hD hK hS => ?_)
        obtain ⟨y1_25_4, rfl⟩ : ∃ z, z = u := ⟨_, rfl⟩
        try dsimp only at hw25_3
        have hP : va_P D classes [(h0, .inr (11, [.long v1, .long v2, .long (fn_max v3 v1), .long y1_25_4, .long v5, .long v6]))] H := hP
        have hD : va_D A [(h0, .inr (11, [.long v1, .long v2, .long (fn_max v3 v1), .long y1_25_4, .long v5, .long v6]))] := hD
        have hK : va_K D classes [] s := hK
        refine W.widen (k := 0) (n := 0) (Nat.le_of_ble_eq_true rfl) (Nat.le_of_ble_eq_true rfl) ?_
        subst hw25_3
        have hP : va_P D classes [(h0, .inr (11, [.long v1, .long v2, .long (fn_max v3 v1), .long (fn_min v4 (v1 ||| v2)), .long v5, .long v6]))] H := hP
        have hD : va_D A [(h0, .inr (11, [.long v1, .long v2, .long (fn_max v3 v1), .long (fn_min v4 (v1 ||| v2)), .long v5, .long v6]))] := hD
        refine lv_aload_n hx hb d_Num_settle_28 rfl (lv_at hl 1 rfl) ?_
        refine va_get (D := D) (ci := 11) (v := .long (fn_max v3 v1)) (C := "FilterGuard$Num") (T := F_Num) (N := 6) hx hb hts i_Num hown hK hP 0 rfl rfl 2 (by decide) (hts _ u_373) (fun _ h9 => h9) rfl d_Num_settle_29 ?_
        refine lv_aload_n hx hb d_Num_settle_32 rfl (lv_at hl 1 rfl) ?_
        refine va_get (D := D) (ci := 11) (v := .long (fn_min v4 (v1 ||| v2))) (C := "FilterGuard$Num") (T := F_Num) (N := 6) hx hb hts i_Num hown hK hP 0 rfl rfl 3 (by decide) (hts _ u_376) (fun _ h9 => h9) rfl d_Num_settle_33 ?_
        refine lv_lxor hx hb d_Num_settle_36 ?_
        refine lv_lconst (v := 0) hx hb d_Num_settle_37 (by decide) ?_
        refine W.lcmp hx hb d_Num_settle_38 ?_
        refine lv_if_lt (tgt := 72) hx hb d_Num_settle_39 (by decide) (fun c_6 => ?_) (fun c_6 => ?_)
        · have gc_6 := (lg_cmp_lt _ _).mp c_6
          refine lv_aload_n hx hb d_Num_settle_72 rfl (lv_at hl 1 rfl) ?_
          refine va_get (D := D) (ci := 11) (v := .long v5) (C := "FilterGuard$Num") (T := F_Num) (N := 6) hx hb hts i_Num hown hK hP 0 rfl rfl 4 (by decide) (hts _ u_379) (fun _ h9 => h9) rfl d_Num_settle_73 ?_
          refine lv_aload_n hx hb d_Num_settle_76 rfl (lv_at hl 1 rfl) ?_
          refine va_get (D := D) (ci := 11) (v := .long v6) (C := "FilterGuard$Num") (T := F_Num) (N := 6) hx hb hts i_Num hown hK hP 0 rfl rfl 5 (by decide) (hts _ u_381) (fun _ h9 => h9) rfl d_Num_settle_77 ?_
          refine lv_lxor hx hb d_Num_settle_80 ?_
          refine lv_lconst (v := 0) hx hb d_Num_settle_81 (by decide) ?_
          refine W.lcmp hx hb d_Num_settle_82 ?_
          refine lv_if_lt (tgt := 102) hx hb d_Num_settle_83 (by decide) (fun c_7 => ?_) (fun c_7 => ?_)
          · have gc_7 := (lg_cmp_lt _ _).mp c_7
            refine lv_aload_n hx hb d_Num_settle_102 rfl (lv_at hl 1 rfl) ?_
            refine va_get (D := D) (ci := 11) (v := .long (fn_min v4 (v1 ||| v2))) (C := "FilterGuard$Num") (T := F_Num) (N := 6) hx hb hts i_Num hown hK hP 0 rfl rfl 3 (by decide) (hts _ u_376) (fun _ h9 => h9) rfl d_Num_settle_103 ?_
            refine lv_aload_n hx hb d_Num_settle_106 rfl (lv_at hl 1 rfl) ?_
            refine va_get (D := D) (ci := 11) (v := .long (fn_max v3 v1)) (C := "FilterGuard$Num") (T := F_Num) (N := 6) hx hb hts i_Num hown hK hP 0 rfl rfl 2 (by decide) (hts _ u_373) (fun _ h9 => h9) rfl d_Num_settle_107 ?_
            refine fg_theni (wr := [(h0, .inr (11, [.long v1, .long v2, .long (fn_max v3 v1), .long (fn_min v4 (v1 ||| v2)), .long v5, .long v6]))]) (fg_runS (As := [.long (fn_min v4 (v1 ||| v2)), .long (fn_max v3 v1)]) (rest := []) ⟨hx, hb, hml, hown, hts⟩ (c_Num_isBelow l D (fn_min v4 (v1 ||| v2)) (fn_max v3 v1) H.size) (by show fg_nm y_Num_isBelow 2; decide +kernel) u_1062 u_1063 u_187 u_1064 ⟨Nat.le_of_ble_eq_true rfl, Nat.le_of_ble_eq_true rfl⟩ hX (hP.sub (ws' := []) [] rfl) (hK.sub (tys' := []) [] rfl) (hD.sub (ws' := []) [] (by decide) rfl) rfl hl.1 (Nat.le_of_ble_eq_true rfl) d_Num_settle_110 ⟨(Nat.le_of_ble_eq_true rfl), (Nat.le_of_ble_eq_true rfl)⟩) hP hD hK hS hA [] [0] rfl rfl (by decide) (by decide) (fun r110_8 u H locs hw110_7 hP hD hK hS => ?_)
            try dsimp only at hw110_7
            have hP : va_P D classes [(h0, .inr (11, [.long v1, .long v2, .long (fn_max v3 v1), .long (fn_min v4 (v1 ||| v2)), .long v5, .long v6]))] H := hP
            have hD : va_D A [(h0, .inr (11, [.long v1, .long v2, .long (fn_max v3 v1), .long (fn_min v4 (v1 ||| v2)), .long v5, .long v6]))] := hD
            have hK : va_K D classes [] s := hK
            refine W.widen (k := 0) (n := 0) (Nat.le_of_ble_eq_true rfl) (Nat.le_of_ble_eq_true rfl) ?_
            refine lv_if_ne (tgt := 128) hx hb d_Num_settle_113 (by decide) (fun c_9 => ?_) (fun c_9 => ?_)
            · have gc_9 := fg_ifnz hw110_7 c_9
              refine lv_iconst (v := 0) hx hb d_Num_settle_128 (by decide) ?_
              exact fg_retz (v1, v2, (fn_max v3 v1), (fn_min v4 (v1 ||| v2)), v5, v6) hx hb hr hlocks rfl (Or.inr ⟨rfl, fn_it_n hit (fn_s1_n1 (x := (v1, v2, v3, v4, v5, v6)) (fn_sa_pos (x := (v1, v2, v3, v4, v5, v6)) gc_6) (fn_sb_pos (x := (v1, v2, v3, v4, v5, v6)) (fn_sa_pos (x := (v1, v2, v3, v4, v5, v6)) gc_6) gc_7) (Or.inl gc_9)) 3 hlt⟩) (hP.sub (ws' := [(h0, .inr (11, [.long v1, .long v2, .long (fn_max v3 v1), .long (fn_min v4 (v1 ||| v2)), .long v5, .long v6]))]) [0] rfl) (hK.sub (tys' := []) [] rfl) (hD.sub (ws' := [(h0, .inr (11, [.long v1, .long v2, .long (fn_max v3 v1), .long (fn_min v4 (v1 ||| v2)), .long v5, .long v6]))]) [0] (by decide) rfl) hS (Nat.le_of_ble_eq_true rfl) (Nat.le_of_ble_eq_true rfl) d_Num_settle_129
            · have gc_9 := fg_ifz hw110_7 c_9
              refine lv_aload_n hx hb d_Num_settle_116 rfl (lv_at hl 1 rfl) ?_
              refine va_get (D := D) (ci := 11) (v := .long v5) (C := "FilterGuard$Num") (T := F_Num) (N := 6) hx hb hts i_Num hown hK hP 0 rfl rfl 4 (by decide) (hts _ u_379) (fun _ h9 => h9) rfl d_Num_settle_117 ?_
              refine lv_aload_n hx hb d_Num_settle_120 rfl (lv_at hl 1 rfl) ?_
              refine va_get (D := D) (ci := 11) (v := .long v6) (C := "FilterGuard$Num") (T := F_Num) (N := 6) hx hb hts i_Num hown hK hP 0 rfl rfl 5 (by decide) (hts _ u_381) (fun _ h9 => h9) rfl d_Num_settle_121 ?_
              refine W.lcmp hx hb d_Num_settle_124 ?_
              refine lv_if_le (tgt := 130) hx hb d_Num_settle_125 (by decide) (fun c_10 => ?_) (fun c_10 => ?_)
              · have gc_10 := (lg_cmp_le _ _).mp c_10
                have qc_10 := not_or.mpr ⟨gc_9, Int64.not_lt.mpr gc_10⟩
                refine lv_aload_n hx hb d_Num_settle_130 rfl (lv_at hl 1 rfl) ?_
                refine va_get (D := D) (ci := 11) (v := .long (fn_max v3 v1)) (C := "FilterGuard$Num") (T := F_Num) (N := 6) hx hb hts i_Num hown hK hP 0 rfl rfl 2 (by decide) (hts _ u_373) (fun _ h9 => h9) rfl d_Num_settle_131 ?_
                refine lv_aload_n hx hb d_Num_settle_134 rfl (lv_at hl 1 rfl) ?_
                refine va_get (D := D) (ci := 11) (v := .long (fn_min v4 (v1 ||| v2))) (C := "FilterGuard$Num") (T := F_Num) (N := 6) hx hb hts i_Num hown hK hP 0 rfl rfl 3 (by decide) (hts _ u_376) (fun _ h9 => h9) rfl d_Num_settle_135 ?_
                refine lv_lxor hx hb d_Num_settle_138 ?_
                refine fg_thenl (wr := [(h0, .inr (11, [.long v1, .long v2, .long (fn_max v3 v1), .long (fn_min v4 (v1 ||| v2)), .long v5, .long v6]))]) (fg_runS (As := [.long ((fn_max v3 v1) ^^^ (fn_min v4 (v1 ||| v2)))]) (rest := []) ⟨hx, hb, hml, hown, hts⟩ (c_Num_down l D ((fn_max v3 v1) ^^^ (fn_min v4 (v1 ||| v2))) H.size) (by show fg_nm y_Num_downFromHighest 1; decide +kernel) u_1233 u_1234 u_187 u_1235 ⟨Nat.le_of_ble_eq_true rfl, Nat.le_of_ble_eq_true rfl⟩ hX (hP.sub (ws' := []) [] rfl) (hK.sub (tys' := []) [] rfl) (hD.sub (ws' := []) [] (by decide) rfl) rfl hl.1 (Nat.le_of_ble_eq_true rfl) d_Num_settle_139 ⟨(Nat.le_of_ble_eq_true rfl), (Nat.le_of_ble_eq_true rfl)⟩) hP hD hK hS hA [] [0] rfl rfl (by decide) (by decide) (fun r139_11 u H locs hw139_10 hP hD hK hS => ?_)
                try dsimp only at hw139_10
                have hP : va_P D classes [(h0, .inr (11, [.long v1, .long v2, .long (fn_max v3 v1), .long (fn_min v4 (v1 ||| v2)), .long v5, .long v6]))] H := hP
                have hD : va_D A [(h0, .inr (11, [.long v1, .long v2, .long (fn_max v3 v1), .long (fn_min v4 (v1 ||| v2)), .long v5, .long v6]))] := hD
                have hK : va_K D classes [] s := hK
                refine W.widen (k := 0) (n := 0) (Nat.le_of_ble_eq_true rfl) (Nat.le_of_ble_eq_true rfl) ?_
                subst hw139_10
                have hP : va_P D classes [(h0, .inr (11, [.long v1, .long v2, .long (fn_max v3 v1), .long (fn_min v4 (v1 ||| v2)), .long v5, .long v6]))] H := hP
                have hD : va_D A [(h0, .inr (11, [.long v1, .long v2, .long (fn_max v3 v1), .long (fn_min v4 (v1 ||| v2)), .long v5, .long v6]))] := hD
                refine lv_lstore_n (lv' := [(2, .long (fn_down ((fn_max v3 v1) ^^^ (fn_min v4 (v1 ||| v2))))), (1, .int (nI k)), (0, .ref h0)]) hx hb d_Num_settle_142 rfl hl (by decide) rfl (fun ls hl => ?_)
                refine lv_aload_n hx hb d_Num_settle_143 rfl (lv_at hl 2 rfl) ?_
                refine va_get (D := D) (ci := 11) (v := .long v1) (C := "FilterGuard$Num") (T := F_Num) (N := 6) hx hb hts i_Num hown hK hP 0 rfl rfl 0 (by decide) (hts _ u_367) (fun _ h9 => h9) rfl d_Num_settle_144 ?_
                refine lv_aload_n hx hb d_Num_settle_147 rfl (lv_at hl 2 rfl) ?_
                refine va_get (D := D) (ci := 11) (v := .long (fn_max v3 v1)) (C := "FilterGuard$Num") (T := F_Num) (N := 6) hx hb hts i_Num hown hK hP 0 rfl rfl 2 (by decide) (hts _ u_373) (fun _ h9 => h9) rfl d_Num_settle_148 ?_
                refine lv_lxor hx hb d_Num_settle_151 ?_
                refine lv_aload_n hx hb d_Num_settle_152 rfl (lv_at hl 2 rfl) ?_
                refine va_get (D := D) (ci := 11) (v := .long v2) (C := "FilterGuard$Num") (T := F_Num) (N := 6) hx hb hts i_Num hown hK hP 0 rfl rfl 1 (by decide) (hts _ u_371) (fun _ h9 => h9) rfl d_Num_settle_153 ?_
                refine lv_ldc2 hx hb hown (hts _ u_1061) d_Num_settle_156 ?_
                refine lv_lxor hx hb d_Num_settle_159 ?_
                refine lv_land hx hb d_Num_settle_160 ?_
                refine lv_lload_n hx hb d_Num_settle_161 rfl (lv_at hl 0 rfl) ?_
                refine lv_ldc2 hx hb hown (hts _ u_1061) d_Num_settle_162 ?_
                refine lv_lxor hx hb d_Num_settle_165 ?_
                refine lv_land hx hb d_Num_settle_166 ?_
                refine lv_lconst (v := 0) hx hb d_Num_settle_167 (by decide) ?_
                refine W.lcmp hx hb d_Num_settle_168 ?_
                refine lv_if_eq (tgt := 174) hx hb d_Num_settle_169 (by decide) (fun c_12 => ?_) (fun c_12 => ?_)
                · have gc_12 := (lg_cmp_eq _ _).mp c_12
                  refine lv_aload_n hx hb d_Num_settle_174 rfl (lv_at hl 2 rfl) ?_
                  refine lv_aload_n hx hb d_Num_settle_175 rfl (lv_at hl 2 rfl) ?_
                  refine va_get (D := D) (ci := 11) (v := .long v1) (C := "FilterGuard$Num") (T := F_Num) (N := 6) hx hb hts i_Num hown hK hP 0 rfl rfl 0 (by decide) (hts _ u_367) (fun _ h9 => h9) rfl d_Num_settle_176 ?_
                  refine lv_lload_n hx hb d_Num_settle_179 rfl (lv_at hl 0 rfl) ?_
                  refine lv_land hx hb d_Num_settle_180 ?_
                  refine lv_aload_n hx hb d_Num_settle_181 rfl (lv_at hl 2 rfl) ?_
                  refine va_get (D := D) (ci := 11) (v := .long (fn_max v3 v1)) (C := "FilterGuard$Num") (T := F_Num) (N := 6) hx hb hts i_Num hown hK hP 0 rfl rfl 2 (by decide) (hts _ u_373) (fun _ h9 => h9) rfl d_Num_settle_182 ?_
                  refine lv_lload_n hx hb d_Num_settle_185 rfl (lv_at hl 0 rfl) ?_
                  refine lv_ldc2 hx hb hown (hts _ u_1061) d_Num_settle_186 ?_
                  refine lv_lxor hx hb d_Num_settle_189 ?_
                  refine lv_land hx hb d_Num_settle_190 ?_
                  refine lv_lor hx hb d_Num_settle_191 ?_
                  refine va_put (D := D) (ci := 11) (v := .long ((v1 &&& (fn_down ((fn_max v3 v1) ^^^ (fn_min v4 (v1 ||| v2))))) ||| ((fn_max v3 v1) &&& ((fn_down ((fn_max v3 v1) ^^^ (fn_min v4 (v1 ||| v2)))) ^^^ (-1))))) (ty := .long) (C := "FilterGuard$Num") (T := F_Num) (N := 6) hx hb hts i_Num t_Num t_Num_ok n_Num hown hK hP hD hS 0 rfl rfl 0 (by decide) (hts _ u_367) (fun _ h9 => h9) rfl (by decide +kernel) rfl rfl (Nat.le_of_ble_eq_true rfl) d_Num_settle_192 (fun H locs hP hD hS => ?_)
                  have hP : va_P D classes [(h0, .inr (11, [.long ((v1 &&& (fn_down ((fn_max v3 v1) ^^^ (fn_min v4 (v1 ||| v2))))) ||| ((fn_max v3 v1) &&& ((fn_down ((fn_max v3 v1) ^^^ (fn_min v4 (v1 ||| v2)))) ^^^ (-1)))), .long v2, .long (fn_max v3 v1), .long (fn_min v4 (v1 ||| v2)), .long v5, .long v6]))] H := hP
                  have hD : va_D A [(h0, .inr (11, [.long ((v1 &&& (fn_down ((fn_max v3 v1) ^^^ (fn_min v4 (v1 ||| v2))))) ||| ((fn_max v3 v1) &&& ((fn_down ((fn_max v3 v1) ^^^ (fn_min v4 (v1 ||| v2)))) ^^^ (-1)))), .long v2, .long (fn_max v3 v1), .long (fn_min v4 (v1 ||| v2)), .long v5, .long v6]))] := hD
                  refine lv_aload_n hx hb d_Num_settle_195 rfl (lv_at hl 2 rfl) ?_
                  refine lv_dup hx hb d_Num_settle_196 rfl ?_
                  refine va_get (D := D) (ci := 11) (v := .long v2) (C := "FilterGuard$Num") (T := F_Num) (N := 6) hx hb hts i_Num hown hK hP 0 rfl rfl 1 (by decide) (hts _ u_371) (fun _ h9 => h9) rfl d_Num_settle_197 ?_
                  refine lv_lload_n hx hb d_Num_settle_200 rfl (lv_at hl 0 rfl) ?_
                  refine lv_land hx hb d_Num_settle_201 ?_
                  refine va_put (D := D) (ci := 11) (v := .long (v2 &&& (fn_down ((fn_max v3 v1) ^^^ (fn_min v4 (v1 ||| v2)))))) (ty := .long) (C := "FilterGuard$Num") (T := F_Num) (N := 6) hx hb hts i_Num t_Num t_Num_ok n_Num hown hK hP hD hS 0 rfl rfl 1 (by decide) (hts _ u_371) (fun _ h9 => h9) rfl (by decide +kernel) rfl rfl (Nat.le_of_ble_eq_true rfl) d_Num_settle_202 (fun H locs hP hD hS => ?_)
                  have hP : va_P D classes [(h0, .inr (11, [.long ((v1 &&& (fn_down ((fn_max v3 v1) ^^^ (fn_min v4 (v1 ||| v2))))) ||| ((fn_max v3 v1) &&& ((fn_down ((fn_max v3 v1) ^^^ (fn_min v4 (v1 ||| v2)))) ^^^ (-1)))), .long (v2 &&& (fn_down ((fn_max v3 v1) ^^^ (fn_min v4 (v1 ||| v2))))), .long (fn_max v3 v1), .long (fn_min v4 (v1 ||| v2)), .long v5, .long v6]))] H := hP
                  have hD : va_D A [(h0, .inr (11, [.long ((v1 &&& (fn_down ((fn_max v3 v1) ^^^ (fn_min v4 (v1 ||| v2))))) ||| ((fn_max v3 v1) &&& ((fn_down ((fn_max v3 v1) ^^^ (fn_min v4 (v1 ||| v2)))) ^^^ (-1)))), .long (v2 &&& (fn_down ((fn_max v3 v1) ^^^ (fn_min v4 (v1 ||| v2))))), .long (fn_max v3 v1), .long (fn_min v4 (v1 ||| v2)), .long v5, .long v6]))] := hD
                  refine lv_iinc (v := nI (k + 1)) (lv' := [(1, .int (nI (k + 1))), (2, .long (fn_down ((fn_max v3 v1) ^^^ (fn_min v4 (v1 ||| v2))))), (0, .ref h0)]) hx hb d_Num_settle_205 hl (k := 1) rfl (nI_1 k) (by decide) rfl (fun ls hl => ?_)
                  refine lv_goto (tgt := 2) hx hb d_Num_settle_208 (by decide) ?_
                  refine W.widen (k := 0) (n := 0) (by omega) (by omega) ?_
                  exact ih (k + 1) ((v1 &&& (fn_down ((fn_max v3 v1) ^^^ (fn_min v4 (v1 ||| v2))))) ||| ((fn_max v3 v1) &&& ((fn_down ((fn_max v3 v1) ^^^ (fn_min v4 (v1 ||| v2)))) ^^^ (-1)))) (v2 &&& (fn_down ((fn_max v3 v1) ^^^ (fn_min v4 (v1 ||| v2))))) (fn_max v3 v1) (fn_min v4 (v1 ||| v2)) v5 v6 _ _ _ (by omega) (fn_it_s hit (fn_s1_s (x := (v1, v2, v3, v4, v5, v6)) (fn_sa_pos (x := (v1, v2, v3, v4, v5, v6)) gc_6) (fn_sb_pos (x := (v1, v2, v3, v4, v5, v6)) (fn_sa_pos (x := (v1, v2, v3, v4, v5, v6)) gc_6) gc_7) qc_10 gc_12)) (by omega) (hP.sub (ws' := [(h0, .inr (11, [.long ((v1 &&& (fn_down ((fn_max v3 v1) ^^^ (fn_min v4 (v1 ||| v2))))) ||| ((fn_max v3 v1) &&& ((fn_down ((fn_max v3 v1) ^^^ (fn_min v4 (v1 ||| v2)))) ^^^ (-1)))), .long (v2 &&& (fn_down ((fn_max v3 v1) ^^^ (fn_min v4 (v1 ||| v2))))), .long (fn_max v3 v1), .long (fn_min v4 (v1 ||| v2)), .long v5, .long v6]))]) [0] rfl) (hD.sub (ws' := [(h0, .inr (11, [.long ((v1 &&& (fn_down ((fn_max v3 v1) ^^^ (fn_min v4 (v1 ||| v2))))) ||| ((fn_max v3 v1) &&& ((fn_down ((fn_max v3 v1) ^^^ (fn_min v4 (v1 ||| v2)))) ^^^ (-1)))), .long (v2 &&& (fn_down ((fn_max v3 v1) ^^^ (fn_min v4 (v1 ||| v2))))), .long (fn_max v3 v1), .long (fn_min v4 (v1 ||| v2)), .long v5, .long v6]))]) [0] (by decide) rfl) hS (lv_sub hl [0, 2] rfl)
                · have gc_12 := fun z => c_12 ((lg_cmp_eq _ _).mpr z)
                  refine lv_iconst (v := 0) hx hb d_Num_settle_172 (by decide) ?_
                  exact fg_retz (v1, v2, (fn_max v3 v1), (fn_min v4 (v1 ||| v2)), v5, v6) hx hb hr hlocks rfl (Or.inr ⟨rfl, fn_it_n hit (fn_s1_n2 (x := (v1, v2, v3, v4, v5, v6)) (fn_sa_pos (x := (v1, v2, v3, v4, v5, v6)) gc_6) (fn_sb_pos (x := (v1, v2, v3, v4, v5, v6)) (fn_sa_pos (x := (v1, v2, v3, v4, v5, v6)) gc_6) gc_7) qc_10 gc_12) 3 hlt⟩) (hP.sub (ws' := [(h0, .inr (11, [.long v1, .long v2, .long (fn_max v3 v1), .long (fn_min v4 (v1 ||| v2)), .long v5, .long v6]))]) [0] rfl) (hK.sub (tys' := []) [] rfl) (hD.sub (ws' := [(h0, .inr (11, [.long v1, .long v2, .long (fn_max v3 v1), .long (fn_min v4 (v1 ||| v2)), .long v5, .long v6]))]) [0] (by decide) rfl) hS (Nat.le_of_ble_eq_true rfl) (Nat.le_of_ble_eq_true rfl) d_Num_settle_173
              · have gc_10 := Int64.not_le.mp (fun z => c_10 ((lg_cmp_le _ _).mpr z))
                refine lv_iconst (v := 0) hx hb d_Num_settle_128 (by decide) ?_
                exact fg_retz (v1, v2, (fn_max v3 v1), (fn_min v4 (v1 ||| v2)), v5, v6) hx hb hr hlocks rfl (Or.inr ⟨rfl, fn_it_n hit (fn_s1_n1 (x := (v1, v2, v3, v4, v5, v6)) (fn_sa_pos (x := (v1, v2, v3, v4, v5, v6)) gc_6) (fn_sb_pos (x := (v1, v2, v3, v4, v5, v6)) (fn_sa_pos (x := (v1, v2, v3, v4, v5, v6)) gc_6) gc_7) (Or.inr gc_10)) 3 hlt⟩) (hP.sub (ws' := [(h0, .inr (11, [.long v1, .long v2, .long (fn_max v3 v1), .long (fn_min v4 (v1 ||| v2)), .long v5, .long v6]))]) [0] rfl) (hK.sub (tys' := []) [] rfl) (hD.sub (ws' := [(h0, .inr (11, [.long v1, .long v2, .long (fn_max v3 v1), .long (fn_min v4 (v1 ||| v2)), .long v5, .long v6]))]) [0] (by decide) rfl) hS (Nat.le_of_ble_eq_true rfl) (Nat.le_of_ble_eq_true rfl) d_Num_settle_129
          · have gc_7 := fun z => c_7 ((lg_cmp_lt _ _).mpr z)
            refine lv_aload_n hx hb d_Num_settle_86 rfl (lv_at hl 1 rfl) ?_
            refine lv_aload_n hx hb d_Num_settle_87 rfl (lv_at hl 1 rfl) ?_
            refine va_get (D := D) (ci := 11) (v := .long v5) (C := "FilterGuard$Num") (T := F_Num) (N := 6) hx hb hts i_Num hown hK hP 0 rfl rfl 4 (by decide) (hts _ u_379) (fun _ h9 => h9) rfl d_Num_settle_88 ?_
            refine fg_thenv (wr := []) (fg_runV (C := "FilterGuard$Num") (As := [.long v5]) (rest := []) (ci := 11) (q0 := 0) ⟨hx, hb, hml, hown, hts⟩ (c_Num_raise l D h0 v1 v2 (fn_max v3 v1) (fn_min v4 (v1 ||| v2)) v5 v6 v5 H.size) rfl (by show fg_nm y_Num_raiseLeast 1; decide +kernel) u_1225 u_1199 u_1200 u_187 u_1201 ⟨Nat.le_of_ble_eq_true rfl, Nat.le_of_ble_eq_true rfl⟩ hX (hP.sub (ws' := [(h0, .inr (11, [.long v1, .long v2, .long (fn_max v3 v1), .long (fn_min v4 (v1 ||| v2)), .long v5, .long v6]))]) [0] rfl) (hK.sub (tys' := []) [] rfl) (hD.sub (ws' := [(h0, .inr (11, [.long v1, .long v2, .long (fn_max v3 v1), .long (fn_min v4 (v1 ||| v2)), .long v5, .long v6]))]) [0] (by decide) rfl) rfl rfl rfl rfl hl.1 (Nat.le_of_ble_eq_true rfl) d_Num_settle_91 ⟨(Nat.le_of_ble_eq_true rfl), (Nat.le_of_ble_eq_true rfl)⟩) hP hD hK hS hA [0] [] rfl rfl (by decide) (by decide) (fun  u H locs hw91_12 hP hD hK hS => ?_)
            obtain ⟨y1_91_13, rfl⟩ : ∃ z, z = u := ⟨_, rfl⟩
            try dsimp only at hw91_12
            have hP : va_P D classes [(h0, .inr (11, [.long v1, .long v2, .long y1_91_13, .long (fn_min v4 (v1 ||| v2)), .long v5, .long v6]))] H := hP
            have hD : va_D A [(h0, .inr (11, [.long v1, .long v2, .long y1_91_13, .long (fn_min v4 (v1 ||| v2)), .long v5, .long v6]))] := hD
            have hK : va_K D classes [] s := hK
            refine W.widen (k := 0) (n := 0) (Nat.le_of_ble_eq_true rfl) (Nat.le_of_ble_eq_true rfl) ?_
            subst hw91_12
            have hP : va_P D classes [(h0, .inr (11, [.long v1, .long v2, .long (fn_max (fn_max v3 v1) v5), .long (fn_min v4 (v1 ||| v2)), .long v5, .long v6]))] H := hP
            have hD : va_D A [(h0, .inr (11, [.long v1, .long v2, .long (fn_max (fn_max v3 v1) v5), .long (fn_min v4 (v1 ||| v2)), .long v5, .long v6]))] := hD
            refine lv_aload_n hx hb d_Num_settle_94 rfl (lv_at hl 1 rfl) ?_
            refine lv_aload_n hx hb d_Num_settle_95 rfl (lv_at hl 1 rfl) ?_
            refine va_get (D := D) (ci := 11) (v := .long v6) (C := "FilterGuard$Num") (T := F_Num) (N := 6) hx hb hts i_Num hown hK hP 0 rfl rfl 5 (by decide) (hts _ u_381) (fun _ h9 => h9) rfl d_Num_settle_96 ?_
            refine fg_thenv (wr := []) (fg_runV (C := "FilterGuard$Num") (As := [.long v6]) (rest := []) (ci := 11) (q0 := 0) ⟨hx, hb, hml, hown, hts⟩ (c_Num_lower l D h0 v1 v2 (fn_max (fn_max v3 v1) v5) (fn_min v4 (v1 ||| v2)) v5 v6 v6 H.size) rfl (by show fg_nm y_Num_lowerGreatest 1; decide +kernel) u_1226 u_1195 u_1196 u_187 u_1197 ⟨Nat.le_of_ble_eq_true rfl, Nat.le_of_ble_eq_true rfl⟩ hX (hP.sub (ws' := [(h0, .inr (11, [.long v1, .long v2, .long (fn_max (fn_max v3 v1) v5), .long (fn_min v4 (v1 ||| v2)), .long v5, .long v6]))]) [0] rfl) (hK.sub (tys' := []) [] rfl) (hD.sub (ws' := [(h0, .inr (11, [.long v1, .long v2, .long (fn_max (fn_max v3 v1) v5), .long (fn_min v4 (v1 ||| v2)), .long v5, .long v6]))]) [0] (by decide) rfl) rfl rfl rfl rfl hl.1 (Nat.le_of_ble_eq_true rfl) d_Num_settle_99 ⟨(Nat.le_of_ble_eq_true rfl), (Nat.le_of_ble_eq_true rfl)⟩) hP hD hK hS hA [0] [] rfl rfl (by decide) (by decide) (fun  u H locs hw99_14 hP hD hK hS => ?_)
            obtain ⟨y1_99_15, rfl⟩ : ∃ z, z = u := ⟨_, rfl⟩
            try dsimp only at hw99_14
            have hP : va_P D classes [(h0, .inr (11, [.long v1, .long v2, .long (fn_max (fn_max v3 v1) v5), .long y1_99_15, .long v5, .long v6]))] H := hP
            have hD : va_D A [(h0, .inr (11, [.long v1, .long v2, .long (fn_max (fn_max v3 v1) v5), .long y1_99_15, .long v5, .long v6]))] := hD
            have hK : va_K D classes [] s := hK
            refine W.widen (k := 0) (n := 0) (Nat.le_of_ble_eq_true rfl) (Nat.le_of_ble_eq_true rfl) ?_
            subst hw99_14
            have hP : va_P D classes [(h0, .inr (11, [.long v1, .long v2, .long (fn_max (fn_max v3 v1) v5), .long (fn_min (fn_min v4 (v1 ||| v2)) v6), .long v5, .long v6]))] H := hP
            have hD : va_D A [(h0, .inr (11, [.long v1, .long v2, .long (fn_max (fn_max v3 v1) v5), .long (fn_min (fn_min v4 (v1 ||| v2)) v6), .long v5, .long v6]))] := hD
            refine lv_aload_n hx hb d_Num_settle_102 rfl (lv_at hl 1 rfl) ?_
            refine va_get (D := D) (ci := 11) (v := .long (fn_min (fn_min v4 (v1 ||| v2)) v6)) (C := "FilterGuard$Num") (T := F_Num) (N := 6) hx hb hts i_Num hown hK hP 0 rfl rfl 3 (by decide) (hts _ u_376) (fun _ h9 => h9) rfl d_Num_settle_103 ?_
            refine lv_aload_n hx hb d_Num_settle_106 rfl (lv_at hl 1 rfl) ?_
            refine va_get (D := D) (ci := 11) (v := .long (fn_max (fn_max v3 v1) v5)) (C := "FilterGuard$Num") (T := F_Num) (N := 6) hx hb hts i_Num hown hK hP 0 rfl rfl 2 (by decide) (hts _ u_373) (fun _ h9 => h9) rfl d_Num_settle_107 ?_
            refine fg_theni (wr := [(h0, .inr (11, [.long v1, .long v2, .long (fn_max (fn_max v3 v1) v5), .long (fn_min (fn_min v4 (v1 ||| v2)) v6), .long v5, .long v6]))]) (fg_runS (As := [.long (fn_min (fn_min v4 (v1 ||| v2)) v6), .long (fn_max (fn_max v3 v1) v5)]) (rest := []) ⟨hx, hb, hml, hown, hts⟩ (c_Num_isBelow l D (fn_min (fn_min v4 (v1 ||| v2)) v6) (fn_max (fn_max v3 v1) v5) H.size) (by show fg_nm y_Num_isBelow 2; decide +kernel) u_1062 u_1063 u_187 u_1064 ⟨Nat.le_of_ble_eq_true rfl, Nat.le_of_ble_eq_true rfl⟩ hX (hP.sub (ws' := []) [] rfl) (hK.sub (tys' := []) [] rfl) (hD.sub (ws' := []) [] (by decide) rfl) rfl hl.1 (Nat.le_of_ble_eq_true rfl) d_Num_settle_110 ⟨(Nat.le_of_ble_eq_true rfl), (Nat.le_of_ble_eq_true rfl)⟩) hP hD hK hS hA [] [0] rfl rfl (by decide) (by decide) (fun r110_17 u H locs hw110_16 hP hD hK hS => ?_)
            try dsimp only at hw110_16
            have hP : va_P D classes [(h0, .inr (11, [.long v1, .long v2, .long (fn_max (fn_max v3 v1) v5), .long (fn_min (fn_min v4 (v1 ||| v2)) v6), .long v5, .long v6]))] H := hP
            have hD : va_D A [(h0, .inr (11, [.long v1, .long v2, .long (fn_max (fn_max v3 v1) v5), .long (fn_min (fn_min v4 (v1 ||| v2)) v6), .long v5, .long v6]))] := hD
            have hK : va_K D classes [] s := hK
            refine W.widen (k := 0) (n := 0) (Nat.le_of_ble_eq_true rfl) (Nat.le_of_ble_eq_true rfl) ?_
            refine lv_if_ne (tgt := 128) hx hb d_Num_settle_113 (by decide) (fun c_18 => ?_) (fun c_18 => ?_)
            · have gc_18 := fg_ifnz hw110_16 c_18
              refine lv_iconst (v := 0) hx hb d_Num_settle_128 (by decide) ?_
              exact fg_retz (v1, v2, (fn_max (fn_max v3 v1) v5), (fn_min (fn_min v4 (v1 ||| v2)) v6), v5, v6) hx hb hr hlocks rfl (Or.inr ⟨rfl, fn_it_n hit (fn_s1_n1 (x := (v1, v2, v3, v4, v5, v6)) (fn_sa_pos (x := (v1, v2, v3, v4, v5, v6)) gc_6) (fn_sb_neg (x := (v1, v2, v3, v4, v5, v6)) (fn_sa_pos (x := (v1, v2, v3, v4, v5, v6)) gc_6) gc_7) (Or.inl gc_18)) 3 hlt⟩) (hP.sub (ws' := [(h0, .inr (11, [.long v1, .long v2, .long (fn_max (fn_max v3 v1) v5), .long (fn_min (fn_min v4 (v1 ||| v2)) v6), .long v5, .long v6]))]) [0] rfl) (hK.sub (tys' := []) [] rfl) (hD.sub (ws' := [(h0, .inr (11, [.long v1, .long v2, .long (fn_max (fn_max v3 v1) v5), .long (fn_min (fn_min v4 (v1 ||| v2)) v6), .long v5, .long v6]))]) [0] (by decide) rfl) hS (Nat.le_of_ble_eq_true rfl) (Nat.le_of_ble_eq_true rfl) d_Num_settle_129
            · have gc_18 := fg_ifz hw110_16 c_18
              refine lv_aload_n hx hb d_Num_settle_116 rfl (lv_at hl 1 rfl) ?_
              refine va_get (D := D) (ci := 11) (v := .long v5) (C := "FilterGuard$Num") (T := F_Num) (N := 6) hx hb hts i_Num hown hK hP 0 rfl rfl 4 (by decide) (hts _ u_379) (fun _ h9 => h9) rfl d_Num_settle_117 ?_
              refine lv_aload_n hx hb d_Num_settle_120 rfl (lv_at hl 1 rfl) ?_
              refine va_get (D := D) (ci := 11) (v := .long v6) (C := "FilterGuard$Num") (T := F_Num) (N := 6) hx hb hts i_Num hown hK hP 0 rfl rfl 5 (by decide) (hts _ u_381) (fun _ h9 => h9) rfl d_Num_settle_121 ?_
              refine W.lcmp hx hb d_Num_settle_124 ?_
              refine lv_if_le (tgt := 130) hx hb d_Num_settle_125 (by decide) (fun c_19 => ?_) (fun c_19 => ?_)
              · have gc_19 := (lg_cmp_le _ _).mp c_19
                have qc_19 := not_or.mpr ⟨gc_18, Int64.not_lt.mpr gc_19⟩
                refine lv_aload_n hx hb d_Num_settle_130 rfl (lv_at hl 1 rfl) ?_
                refine va_get (D := D) (ci := 11) (v := .long (fn_max (fn_max v3 v1) v5)) (C := "FilterGuard$Num") (T := F_Num) (N := 6) hx hb hts i_Num hown hK hP 0 rfl rfl 2 (by decide) (hts _ u_373) (fun _ h9 => h9) rfl d_Num_settle_131 ?_
                refine lv_aload_n hx hb d_Num_settle_134 rfl (lv_at hl 1 rfl) ?_
                refine va_get (D := D) (ci := 11) (v := .long (fn_min (fn_min v4 (v1 ||| v2)) v6)) (C := "FilterGuard$Num") (T := F_Num) (N := 6) hx hb hts i_Num hown hK hP 0 rfl rfl 3 (by decide) (hts _ u_376) (fun _ h9 => h9) rfl d_Num_settle_135 ?_
                refine lv_lxor hx hb d_Num_settle_138 ?_
                refine fg_thenl (wr := [(h0, .inr (11, [.long v1, .long v2, .long (fn_max (fn_max v3 v1) v5), .long (fn_min (fn_min v4 (v1 ||| v2)) v6), .long v5, .long v6]))]) (fg_runS (As := [.long ((fn_max (fn_max v3 v1) v5) ^^^ (fn_min (fn_min v4 (v1 ||| v2)) v6))]) (rest := []) ⟨hx, hb, hml, hown, hts⟩ (c_Num_down l D ((fn_max (fn_max v3 v1) v5) ^^^ (fn_min (fn_min v4 (v1 ||| v2)) v6)) H.size) (by show fg_nm y_Num_downFromHighest 1; decide +kernel) u_1233 u_1234 u_187 u_1235 ⟨Nat.le_of_ble_eq_true rfl, Nat.le_of_ble_eq_true rfl⟩ hX (hP.sub (ws' := []) [] rfl) (hK.sub (tys' := []) [] rfl) (hD.sub (ws' := []) [] (by decide) rfl) rfl hl.1 (Nat.le_of_ble_eq_true rfl) d_Num_settle_139 ⟨(Nat.le_of_ble_eq_true rfl), (Nat.le_of_ble_eq_true rfl)⟩) hP hD hK hS hA [] [0] rfl rfl (by decide) (by decide) (fun r139_20 u H locs hw139_19 hP hD hK hS => ?_)
                try dsimp only at hw139_19
                have hP : va_P D classes [(h0, .inr (11, [.long v1, .long v2, .long (fn_max (fn_max v3 v1) v5), .long (fn_min (fn_min v4 (v1 ||| v2)) v6), .long v5, .long v6]))] H := hP
                have hD : va_D A [(h0, .inr (11, [.long v1, .long v2, .long (fn_max (fn_max v3 v1) v5), .long (fn_min (fn_min v4 (v1 ||| v2)) v6), .long v5, .long v6]))] := hD
                have hK : va_K D classes [] s := hK
                refine W.widen (k := 0) (n := 0) (Nat.le_of_ble_eq_true rfl) (Nat.le_of_ble_eq_true rfl) ?_
                subst hw139_19
                have hP : va_P D classes [(h0, .inr (11, [.long v1, .long v2, .long (fn_max (fn_max v3 v1) v5), .long (fn_min (fn_min v4 (v1 ||| v2)) v6), .long v5, .long v6]))] H := hP
                have hD : va_D A [(h0, .inr (11, [.long v1, .long v2, .long (fn_max (fn_max v3 v1) v5), .long (fn_min (fn_min v4 (v1 ||| v2)) v6), .long v5, .long v6]))] := hD
                refine lv_lstore_n (lv' := [(2, .long (fn_down ((fn_max (fn_max v3 v1) v5) ^^^ (fn_min (fn_min v4 (v1 ||| v2)) v6)))), (1, .int (nI k)), (0, .ref h0)]) hx hb d_Num_settle_142 rfl hl (by decide) rfl (fun ls hl => ?_)
                refine lv_aload_n hx hb d_Num_settle_143 rfl (lv_at hl 2 rfl) ?_
                refine va_get (D := D) (ci := 11) (v := .long v1) (C := "FilterGuard$Num") (T := F_Num) (N := 6) hx hb hts i_Num hown hK hP 0 rfl rfl 0 (by decide) (hts _ u_367) (fun _ h9 => h9) rfl d_Num_settle_144 ?_
                refine lv_aload_n hx hb d_Num_settle_147 rfl (lv_at hl 2 rfl) ?_
                refine va_get (D := D) (ci := 11) (v := .long (fn_max (fn_max v3 v1) v5)) (C := "FilterGuard$Num") (T := F_Num) (N := 6) hx hb hts i_Num hown hK hP 0 rfl rfl 2 (by decide) (hts _ u_373) (fun _ h9 => h9) rfl d_Num_settle_148 ?_
                refine lv_lxor hx hb d_Num_settle_151 ?_
                refine lv_aload_n hx hb d_Num_settle_152 rfl (lv_at hl 2 rfl) ?_
                refine va_get (D := D) (ci := 11) (v := .long v2) (C := "FilterGuard$Num") (T := F_Num) (N := 6) hx hb hts i_Num hown hK hP 0 rfl rfl 1 (by decide) (hts _ u_371) (fun _ h9 => h9) rfl d_Num_settle_153 ?_
                refine lv_ldc2 hx hb hown (hts _ u_1061) d_Num_settle_156 ?_
                refine lv_lxor hx hb d_Num_settle_159 ?_
                refine lv_land hx hb d_Num_settle_160 ?_
                refine lv_lload_n hx hb d_Num_settle_161 rfl (lv_at hl 0 rfl) ?_
                refine lv_ldc2 hx hb hown (hts _ u_1061) d_Num_settle_162 ?_
                refine lv_lxor hx hb d_Num_settle_165 ?_
                refine lv_land hx hb d_Num_settle_166 ?_
                refine lv_lconst (v := 0) hx hb d_Num_settle_167 (by decide) ?_
                refine W.lcmp hx hb d_Num_settle_168 ?_
                refine lv_if_eq (tgt := 174) hx hb d_Num_settle_169 (by decide) (fun c_21 => ?_) (fun c_21 => ?_)
                · have gc_21 := (lg_cmp_eq _ _).mp c_21
                  refine lv_aload_n hx hb d_Num_settle_174 rfl (lv_at hl 2 rfl) ?_
                  refine lv_aload_n hx hb d_Num_settle_175 rfl (lv_at hl 2 rfl) ?_
                  refine va_get (D := D) (ci := 11) (v := .long v1) (C := "FilterGuard$Num") (T := F_Num) (N := 6) hx hb hts i_Num hown hK hP 0 rfl rfl 0 (by decide) (hts _ u_367) (fun _ h9 => h9) rfl d_Num_settle_176 ?_
                  refine lv_lload_n hx hb d_Num_settle_179 rfl (lv_at hl 0 rfl) ?_
                  refine lv_land hx hb d_Num_settle_180 ?_
                  refine lv_aload_n hx hb d_Num_settle_181 rfl (lv_at hl 2 rfl) ?_
                  refine va_get (D := D) (ci := 11) (v := .long (fn_max (fn_max v3 v1) v5)) (C := "FilterGuard$Num") (T := F_Num) (N := 6) hx hb hts i_Num hown hK hP 0 rfl rfl 2 (by decide) (hts _ u_373) (fun _ h9 => h9) rfl d_Num_settle_182 ?_
                  refine lv_lload_n hx hb d_Num_settle_185 rfl (lv_at hl 0 rfl) ?_
                  refine lv_ldc2 hx hb hown (hts _ u_1061) d_Num_settle_186 ?_
                  refine lv_lxor hx hb d_Num_settle_189 ?_
                  refine lv_land hx hb d_Num_settle_190 ?_
                  refine lv_lor hx hb d_Num_settle_191 ?_
                  refine va_put (D := D) (ci := 11) (v := .long ((v1 &&& (fn_down ((fn_max (fn_max v3 v1) v5) ^^^ (fn_min (fn_min v4 (v1 ||| v2)) v6)))) ||| ((fn_max (fn_max v3 v1) v5) &&& ((fn_down ((fn_max (fn_max v3 v1) v5) ^^^ (fn_min (fn_min v4 (v1 ||| v2)) v6))) ^^^ (-1))))) (ty := .long) (C := "FilterGuard$Num") (T := F_Num) (N := 6) hx hb hts i_Num t_Num t_Num_ok n_Num hown hK hP hD hS 0 rfl rfl 0 (by decide) (hts _ u_367) (fun _ h9 => h9) rfl (by decide +kernel) rfl rfl (Nat.le_of_ble_eq_true rfl) d_Num_settle_192 (fun H locs hP hD hS => ?_)
                  have hP : va_P D classes [(h0, .inr (11, [.long ((v1 &&& (fn_down ((fn_max (fn_max v3 v1) v5) ^^^ (fn_min (fn_min v4 (v1 ||| v2)) v6)))) ||| ((fn_max (fn_max v3 v1) v5) &&& ((fn_down ((fn_max (fn_max v3 v1) v5) ^^^ (fn_min (fn_min v4 (v1 ||| v2)) v6))) ^^^ (-1)))), .long v2, .long (fn_max (fn_max v3 v1) v5), .long (fn_min (fn_min v4 (v1 ||| v2)) v6), .long v5, .long v6]))] H := hP
                  have hD : va_D A [(h0, .inr (11, [.long ((v1 &&& (fn_down ((fn_max (fn_max v3 v1) v5) ^^^ (fn_min (fn_min v4 (v1 ||| v2)) v6)))) ||| ((fn_max (fn_max v3 v1) v5) &&& ((fn_down ((fn_max (fn_max v3 v1) v5) ^^^ (fn_min (fn_min v4 (v1 ||| v2)) v6))) ^^^ (-1)))), .long v2, .long (fn_max (fn_max v3 v1) v5), .long (fn_min (fn_min v4 (v1 ||| v2)) v6), .long v5, .long v6]))] := hD
                  refine lv_aload_n hx hb d_Num_settle_195 rfl (lv_at hl 2 rfl) ?_
                  refine lv_dup hx hb d_Num_settle_196 rfl ?_
                  refine va_get (D := D) (ci := 11) (v := .long v2) (C := "FilterGuard$Num") (T := F_Num) (N := 6) hx hb hts i_Num hown hK hP 0 rfl rfl 1 (by decide) (hts _ u_371) (fun _ h9 => h9) rfl d_Num_settle_197 ?_
                  refine lv_lload_n hx hb d_Num_settle_200 rfl (lv_at hl 0 rfl) ?_
                  refine lv_land hx hb d_Num_settle_201 ?_
                  refine va_put (D := D) (ci := 11) (v := .long (v2 &&& (fn_down ((fn_max (fn_max v3 v1) v5) ^^^ (fn_min (fn_min v4 (v1 ||| v2)) v6))))) (ty := .long) (C := "FilterGuard$Num") (T := F_Num) (N := 6) hx hb hts i_Num t_Num t_Num_ok n_Num hown hK hP hD hS 0 rfl rfl 1 (by decide) (hts _ u_371) (fun _ h9 => h9) rfl (by decide +kernel) rfl rfl (Nat.le_of_ble_eq_true rfl) d_Num_settle_202 (fun H locs hP hD hS => ?_)
                  have hP : va_P D classes [(h0, .inr (11, [.long ((v1 &&& (fn_down ((fn_max (fn_max v3 v1) v5) ^^^ (fn_min (fn_min v4 (v1 ||| v2)) v6)))) ||| ((fn_max (fn_max v3 v1) v5) &&& ((fn_down ((fn_max (fn_max v3 v1) v5) ^^^ (fn_min (fn_min v4 (v1 ||| v2)) v6))) ^^^ (-1)))), .long (v2 &&& (fn_down ((fn_max (fn_max v3 v1) v5) ^^^ (fn_min (fn_min v4 (v1 ||| v2)) v6)))), .long (fn_max (fn_max v3 v1) v5), .long (fn_min (fn_min v4 (v1 ||| v2)) v6), .long v5, .long v6]))] H := hP
                  have hD : va_D A [(h0, .inr (11, [.long ((v1 &&& (fn_down ((fn_max (fn_max v3 v1) v5) ^^^ (fn_min (fn_min v4 (v1 ||| v2)) v6)))) ||| ((fn_max (fn_max v3 v1) v5) &&& ((fn_down ((fn_max (fn_max v3 v1) v5) ^^^ (fn_min (fn_min v4 (v1 ||| v2)) v6))) ^^^ (-1)))), .long (v2 &&& (fn_down ((fn_max (fn_max v3 v1) v5) ^^^ (fn_min (fn_min v4 (v1 ||| v2)) v6)))), .long (fn_max (fn_max v3 v1) v5), .long (fn_min (fn_min v4 (v1 ||| v2)) v6), .long v5, .long v6]))] := hD
                  refine lv_iinc (v := nI (k + 1)) (lv' := [(1, .int (nI (k + 1))), (2, .long (fn_down ((fn_max (fn_max v3 v1) v5) ^^^ (fn_min (fn_min v4 (v1 ||| v2)) v6)))), (0, .ref h0)]) hx hb d_Num_settle_205 hl (k := 1) rfl (nI_1 k) (by decide) rfl (fun ls hl => ?_)
                  refine lv_goto (tgt := 2) hx hb d_Num_settle_208 (by decide) ?_
                  refine W.widen (k := 0) (n := 0) (by omega) (by omega) ?_
                  exact ih (k + 1) ((v1 &&& (fn_down ((fn_max (fn_max v3 v1) v5) ^^^ (fn_min (fn_min v4 (v1 ||| v2)) v6)))) ||| ((fn_max (fn_max v3 v1) v5) &&& ((fn_down ((fn_max (fn_max v3 v1) v5) ^^^ (fn_min (fn_min v4 (v1 ||| v2)) v6))) ^^^ (-1)))) (v2 &&& (fn_down ((fn_max (fn_max v3 v1) v5) ^^^ (fn_min (fn_min v4 (v1 ||| v2)) v6)))) (fn_max (fn_max v3 v1) v5) (fn_min (fn_min v4 (v1 ||| v2)) v6) v5 v6 _ _ _ (by omega) (fn_it_s hit (fn_s1_s (x := (v1, v2, v3, v4, v5, v6)) (fn_sa_pos (x := (v1, v2, v3, v4, v5, v6)) gc_6) (fn_sb_neg (x := (v1, v2, v3, v4, v5, v6)) (fn_sa_pos (x := (v1, v2, v3, v4, v5, v6)) gc_6) gc_7) qc_19 gc_21)) (by omega) (hP.sub (ws' := [(h0, .inr (11, [.long ((v1 &&& (fn_down ((fn_max (fn_max v3 v1) v5) ^^^ (fn_min (fn_min v4 (v1 ||| v2)) v6)))) ||| ((fn_max (fn_max v3 v1) v5) &&& ((fn_down ((fn_max (fn_max v3 v1) v5) ^^^ (fn_min (fn_min v4 (v1 ||| v2)) v6))) ^^^ (-1)))), .long (v2 &&& (fn_down ((fn_max (fn_max v3 v1) v5) ^^^ (fn_min (fn_min v4 (v1 ||| v2)) v6)))), .long (fn_max (fn_max v3 v1) v5), .long (fn_min (fn_min v4 (v1 ||| v2)) v6), .long v5, .long v6]))]) [0] rfl) (hD.sub (ws' := [(h0, .inr (11, [.long ((v1 &&& (fn_down ((fn_max (fn_max v3 v1) v5) ^^^ (fn_min (fn_min v4 (v1 ||| v2)) v6)))) ||| ((fn_max (fn_max v3 v1) v5) &&& ((fn_down ((fn_max (fn_max v3 v1) v5) ^^^ (fn_min (fn_min v4 (v1 ||| v2)) v6))) ^^^ (-1)))), .long (v2 &&& (fn_down ((fn_max (fn_max v3 v1) v5) ^^^ (fn_min (fn_min v4 (v1 ||| v2)) v6)))), .long (fn_max (fn_max v3 v1) v5), .long (fn_min (fn_min v4 (v1 ||| v2)) v6), .long v5, .long v6]))]) [0] (by decide) rfl) hS (lv_sub hl [0, 2] rfl)
                · have gc_21 := fun z => c_21 ((lg_cmp_eq _ _).mpr z)
                  refine lv_iconst (v := 0) hx hb d_Num_settle_172 (by decide) ?_
                  exact fg_retz (v1, v2, (fn_max (fn_max v3 v1) v5), (fn_min (fn_min v4 (v1 ||| v2)) v6), v5, v6) hx hb hr hlocks rfl (Or.inr ⟨rfl, fn_it_n hit (fn_s1_n2 (x := (v1, v2, v3, v4, v5, v6)) (fn_sa_pos (x := (v1, v2, v3, v4, v5, v6)) gc_6) (fn_sb_neg (x := (v1, v2, v3, v4, v5, v6)) (fn_sa_pos (x := (v1, v2, v3, v4, v5, v6)) gc_6) gc_7) qc_19 gc_21) 3 hlt⟩) (hP.sub (ws' := [(h0, .inr (11, [.long v1, .long v2, .long (fn_max (fn_max v3 v1) v5), .long (fn_min (fn_min v4 (v1 ||| v2)) v6), .long v5, .long v6]))]) [0] rfl) (hK.sub (tys' := []) [] rfl) (hD.sub (ws' := [(h0, .inr (11, [.long v1, .long v2, .long (fn_max (fn_max v3 v1) v5), .long (fn_min (fn_min v4 (v1 ||| v2)) v6), .long v5, .long v6]))]) [0] (by decide) rfl) hS (Nat.le_of_ble_eq_true rfl) (Nat.le_of_ble_eq_true rfl) d_Num_settle_173
              · have gc_19 := Int64.not_le.mp (fun z => c_19 ((lg_cmp_le _ _).mpr z))
                refine lv_iconst (v := 0) hx hb d_Num_settle_128 (by decide) ?_
                exact fg_retz (v1, v2, (fn_max (fn_max v3 v1) v5), (fn_min (fn_min v4 (v1 ||| v2)) v6), v5, v6) hx hb hr hlocks rfl (Or.inr ⟨rfl, fn_it_n hit (fn_s1_n1 (x := (v1, v2, v3, v4, v5, v6)) (fn_sa_pos (x := (v1, v2, v3, v4, v5, v6)) gc_6) (fn_sb_neg (x := (v1, v2, v3, v4, v5, v6)) (fn_sa_pos (x := (v1, v2, v3, v4, v5, v6)) gc_6) gc_7) (Or.inr gc_19)) 3 hlt⟩) (hP.sub (ws' := [(h0, .inr (11, [.long v1, .long v2, .long (fn_max (fn_max v3 v1) v5), .long (fn_min (fn_min v4 (v1 ||| v2)) v6), .long v5, .long v6]))]) [0] rfl) (hK.sub (tys' := []) [] rfl) (hD.sub (ws' := [(h0, .inr (11, [.long v1, .long v2, .long (fn_max (fn_max v3 v1) v5), .long (fn_min (fn_min v4 (v1 ||| v2)) v6), .long v5, .long v6]))]) [0] (by decide) rfl) hS (Nat.le_of_ble_eq_true rfl) (Nat.le_of_ble_eq_true rfl) d_Num_settle_129
        · have gc_6 := fun z => c_6 ((lg_cmp_lt _ _).mpr z)
          refine lv_aload_n hx hb d_Num_settle_42 rfl (lv_at hl 1 rfl) ?_
          refine lv_aload_n hx hb d_Num_settle_43 rfl (lv_at hl 1 rfl) ?_
          refine va_get (D := D) (ci := 11) (v := .long v5) (C := "FilterGuard$Num") (T := F_Num) (N := 6) hx hb hts i_Num hown hK hP 0 rfl rfl 4 (by decide) (hts _ u_379) (fun _ h9 => h9) rfl d_Num_settle_44 ?_
          refine lv_aload_n hx hb d_Num_settle_47 rfl (lv_at hl 1 rfl) ?_
          refine va_get (D := D) (ci := 11) (v := .long (fn_max v3 v1)) (C := "FilterGuard$Num") (T := F_Num) (N := 6) hx hb hts i_Num hown hK hP 0 rfl rfl 2 (by decide) (hts _ u_373) (fun _ h9 => h9) rfl d_Num_settle_48 ?_
          refine va_mmax_long hx hb (hml.trans hl.1.symm) hown (hts _ u_1227) (hts _ u_1228) (hts _ u_193) (hts _ u_1229) (Nat.le_of_ble_eq_true rfl) (Nat.le_of_ble_eq_true rfl) (Nat.le_of_ble_eq_true rfl) (Nat.le_of_ble_eq_true rfl) d_Num_settle_51 ?_
          refine fg_topl (y := fn_smax v5 (fn_max v3 v1)) rfl ?_
          refine va_put (D := D) (ci := 11) (v := .long (fn_smax v5 (fn_max v3 v1))) (ty := .long) (C := "FilterGuard$Num") (T := F_Num) (N := 6) hx hb hts i_Num t_Num t_Num_ok n_Num hown hK hP hD hS 0 rfl rfl 4 (by decide) (hts _ u_379) (fun _ h9 => h9) rfl (by decide +kernel) rfl rfl (Nat.le_of_ble_eq_true rfl) d_Num_settle_54 (fun H locs hP hD hS => ?_)
          have hP : va_P D classes [(h0, .inr (11, [.long v1, .long v2, .long (fn_max v3 v1), .long (fn_min v4 (v1 ||| v2)), .long (fn_smax v5 (fn_max v3 v1)), .long v6]))] H := hP
          have hD : va_D A [(h0, .inr (11, [.long v1, .long v2, .long (fn_max v3 v1), .long (fn_min v4 (v1 ||| v2)), .long (fn_smax v5 (fn_max v3 v1)), .long v6]))] := hD
          refine lv_aload_n hx hb d_Num_settle_57 rfl (lv_at hl 1 rfl) ?_
          refine lv_aload_n hx hb d_Num_settle_58 rfl (lv_at hl 1 rfl) ?_
          refine va_get (D := D) (ci := 11) (v := .long v6) (C := "FilterGuard$Num") (T := F_Num) (N := 6) hx hb hts i_Num hown hK hP 0 rfl rfl 5 (by decide) (hts _ u_381) (fun _ h9 => h9) rfl d_Num_settle_59 ?_
          refine lv_aload_n hx hb d_Num_settle_62 rfl (lv_at hl 1 rfl) ?_
          refine va_get (D := D) (ci := 11) (v := .long (fn_min v4 (v1 ||| v2))) (C := "FilterGuard$Num") (T := F_Num) (N := 6) hx hb hts i_Num hown hK hP 0 rfl rfl 3 (by decide) (hts _ u_376) (fun _ h9 => h9) rfl d_Num_settle_63 ?_
          refine va_mmin_long hx hb (hml.trans hl.1.symm) hown (hts _ u_1230) (hts _ u_1231) (hts _ u_193) (hts _ u_1232) (Nat.le_of_ble_eq_true rfl) (Nat.le_of_ble_eq_true rfl) (Nat.le_of_ble_eq_true rfl) (Nat.le_of_ble_eq_true rfl) d_Num_settle_66 ?_
          refine fg_topl (y := fn_smin v6 (fn_min v4 (v1 ||| v2))) rfl ?_
          refine va_put (D := D) (ci := 11) (v := .long (fn_smin v6 (fn_min v4 (v1 ||| v2)))) (ty := .long) (C := "FilterGuard$Num") (T := F_Num) (N := 6) hx hb hts i_Num t_Num t_Num_ok n_Num hown hK hP hD hS 0 rfl rfl 5 (by decide) (hts _ u_381) (fun _ h9 => h9) rfl (by decide +kernel) rfl rfl (Nat.le_of_ble_eq_true rfl) d_Num_settle_69 (fun H locs hP hD hS => ?_)
          have hP : va_P D classes [(h0, .inr (11, [.long v1, .long v2, .long (fn_max v3 v1), .long (fn_min v4 (v1 ||| v2)), .long (fn_smax v5 (fn_max v3 v1)), .long (fn_smin v6 (fn_min v4 (v1 ||| v2)))]))] H := hP
          have hD : va_D A [(h0, .inr (11, [.long v1, .long v2, .long (fn_max v3 v1), .long (fn_min v4 (v1 ||| v2)), .long (fn_smax v5 (fn_max v3 v1)), .long (fn_smin v6 (fn_min v4 (v1 ||| v2)))]))] := hD
          refine lv_aload_n hx hb d_Num_settle_72 rfl (lv_at hl 1 rfl) ?_
          refine va_get (D := D) (ci := 11) (v := .long (fn_smax v5 (fn_max v3 v1))) (C := "FilterGuard$Num") (T := F_Num) (N := 6) hx hb hts i_Num hown hK hP 0 rfl rfl 4 (by decide) (hts _ u_379) (fun _ h9 => h9) rfl d_Num_settle_73 ?_
          refine lv_aload_n hx hb d_Num_settle_76 rfl (lv_at hl 1 rfl) ?_
          refine va_get (D := D) (ci := 11) (v := .long (fn_smin v6 (fn_min v4 (v1 ||| v2)))) (C := "FilterGuard$Num") (T := F_Num) (N := 6) hx hb hts i_Num hown hK hP 0 rfl rfl 5 (by decide) (hts _ u_381) (fun _ h9 => h9) rfl d_Num_settle_77 ?_
          refine lv_lxor hx hb d_Num_settle_80 ?_
          refine lv_lconst (v := 0) hx hb d_Num_settle_81 (by decide) ?_
          refine W.lcmp hx hb d_Num_settle_82 ?_
          refine lv_if_lt (tgt := 102) hx hb d_Num_settle_83 (by decide) (fun c_22 => ?_) (fun c_22 => ?_)
          · have gc_22 := (lg_cmp_lt _ _).mp c_22
            refine lv_aload_n hx hb d_Num_settle_102 rfl (lv_at hl 1 rfl) ?_
            refine va_get (D := D) (ci := 11) (v := .long (fn_min v4 (v1 ||| v2))) (C := "FilterGuard$Num") (T := F_Num) (N := 6) hx hb hts i_Num hown hK hP 0 rfl rfl 3 (by decide) (hts _ u_376) (fun _ h9 => h9) rfl d_Num_settle_103 ?_
            refine lv_aload_n hx hb d_Num_settle_106 rfl (lv_at hl 1 rfl) ?_
            refine va_get (D := D) (ci := 11) (v := .long (fn_max v3 v1)) (C := "FilterGuard$Num") (T := F_Num) (N := 6) hx hb hts i_Num hown hK hP 0 rfl rfl 2 (by decide) (hts _ u_373) (fun _ h9 => h9) rfl d_Num_settle_107 ?_
            refine fg_theni (wr := [(h0, .inr (11, [.long v1, .long v2, .long (fn_max v3 v1), .long (fn_min v4 (v1 ||| v2)), .long (fn_smax v5 (fn_max v3 v1)), .long (fn_smin v6 (fn_min v4 (v1 ||| v2)))]))]) (fg_runS (As := [.long (fn_min v4 (v1 ||| v2)), .long (fn_max v3 v1)]) (rest := []) ⟨hx, hb, hml, hown, hts⟩ (c_Num_isBelow l D (fn_min v4 (v1 ||| v2)) (fn_max v3 v1) H.size) (by show fg_nm y_Num_isBelow 2; decide +kernel) u_1062 u_1063 u_187 u_1064 ⟨Nat.le_of_ble_eq_true rfl, Nat.le_of_ble_eq_true rfl⟩ hX (hP.sub (ws' := []) [] rfl) (hK.sub (tys' := []) [] rfl) (hD.sub (ws' := []) [] (by decide) rfl) rfl hl.1 (Nat.le_of_ble_eq_true rfl) d_Num_settle_110 ⟨(Nat.le_of_ble_eq_true rfl), (Nat.le_of_ble_eq_true rfl)⟩) hP hD hK hS hA [] [0] rfl rfl (by decide) (by decide) (fun r110_23 u H locs hw110_22 hP hD hK hS => ?_)
            try dsimp only at hw110_22
            have hP : va_P D classes [(h0, .inr (11, [.long v1, .long v2, .long (fn_max v3 v1), .long (fn_min v4 (v1 ||| v2)), .long (fn_smax v5 (fn_max v3 v1)), .long (fn_smin v6 (fn_min v4 (v1 ||| v2)))]))] H := hP
            have hD : va_D A [(h0, .inr (11, [.long v1, .long v2, .long (fn_max v3 v1), .long (fn_min v4 (v1 ||| v2)), .long (fn_smax v5 (fn_max v3 v1)), .long (fn_smin v6 (fn_min v4 (v1 ||| v2)))]))] := hD
            have hK : va_K D classes [] s := hK
            refine W.widen (k := 0) (n := 0) (Nat.le_of_ble_eq_true rfl) (Nat.le_of_ble_eq_true rfl) ?_
            refine lv_if_ne (tgt := 128) hx hb d_Num_settle_113 (by decide) (fun c_24 => ?_) (fun c_24 => ?_)
            · have gc_24 := fg_ifnz hw110_22 c_24
              refine lv_iconst (v := 0) hx hb d_Num_settle_128 (by decide) ?_
              exact fg_retz (v1, v2, (fn_max v3 v1), (fn_min v4 (v1 ||| v2)), fn_smax v5 (fn_max v3 v1), fn_smin v6 (fn_min v4 (v1 ||| v2))) hx hb hr hlocks rfl (Or.inr ⟨rfl, fn_it_n hit (fn_s1_n1 (x := (v1, v2, v3, v4, v5, v6)) (fn_sa_neg (x := (v1, v2, v3, v4, v5, v6)) gc_6) (fn_sb_pos (x := (v1, v2, v3, v4, v5, v6)) (fn_sa_neg (x := (v1, v2, v3, v4, v5, v6)) gc_6) gc_22) (Or.inl gc_24)) 3 hlt⟩) (hP.sub (ws' := [(h0, .inr (11, [.long v1, .long v2, .long (fn_max v3 v1), .long (fn_min v4 (v1 ||| v2)), .long (fn_smax v5 (fn_max v3 v1)), .long (fn_smin v6 (fn_min v4 (v1 ||| v2)))]))]) [0] rfl) (hK.sub (tys' := []) [] rfl) (hD.sub (ws' := [(h0, .inr (11, [.long v1, .long v2, .long (fn_max v3 v1), .long (fn_min v4 (v1 ||| v2)), .long (fn_smax v5 (fn_max v3 v1)), .long (fn_smin v6 (fn_min v4 (v1 ||| v2)))]))]) [0] (by decide) rfl) hS (Nat.le_of_ble_eq_true rfl) (Nat.le_of_ble_eq_true rfl) d_Num_settle_129
            · have gc_24 := fg_ifz hw110_22 c_24
              refine lv_aload_n hx hb d_Num_settle_116 rfl (lv_at hl 1 rfl) ?_
              refine va_get (D := D) (ci := 11) (v := .long (fn_smax v5 (fn_max v3 v1))) (C := "FilterGuard$Num") (T := F_Num) (N := 6) hx hb hts i_Num hown hK hP 0 rfl rfl 4 (by decide) (hts _ u_379) (fun _ h9 => h9) rfl d_Num_settle_117 ?_
              refine lv_aload_n hx hb d_Num_settle_120 rfl (lv_at hl 1 rfl) ?_
              refine va_get (D := D) (ci := 11) (v := .long (fn_smin v6 (fn_min v4 (v1 ||| v2)))) (C := "FilterGuard$Num") (T := F_Num) (N := 6) hx hb hts i_Num hown hK hP 0 rfl rfl 5 (by decide) (hts _ u_381) (fun _ h9 => h9) rfl d_Num_settle_121 ?_
              refine W.lcmp hx hb d_Num_settle_124 ?_
              refine lv_if_le (tgt := 130) hx hb d_Num_settle_125 (by decide) (fun c_25 => ?_) (fun c_25 => ?_)
              · have gc_25 := (lg_cmp_le _ _).mp c_25
                have qc_25 := not_or.mpr ⟨gc_24, Int64.not_lt.mpr gc_25⟩
                refine lv_aload_n hx hb d_Num_settle_130 rfl (lv_at hl 1 rfl) ?_
                refine va_get (D := D) (ci := 11) (v := .long (fn_max v3 v1)) (C := "FilterGuard$Num") (T := F_Num) (N := 6) hx hb hts i_Num hown hK hP 0 rfl rfl 2 (by decide) (hts _ u_373) (fun _ h9 => h9) rfl d_Num_settle_131 ?_
                refine lv_aload_n hx hb d_Num_settle_134 rfl (lv_at hl 1 rfl) ?_
                refine va_get (D := D) (ci := 11) (v := .long (fn_min v4 (v1 ||| v2))) (C := "FilterGuard$Num") (T := F_Num) (N := 6) hx hb hts i_Num hown hK hP 0 rfl rfl 3 (by decide) (hts _ u_376) (fun _ h9 => h9) rfl d_Num_settle_135 ?_
                refine lv_lxor hx hb d_Num_settle_138 ?_
                refine fg_thenl (wr := [(h0, .inr (11, [.long v1, .long v2, .long (fn_max v3 v1), .long (fn_min v4 (v1 ||| v2)), .long (fn_smax v5 (fn_max v3 v1)), .long (fn_smin v6 (fn_min v4 (v1 ||| v2)))]))]) (fg_runS (As := [.long ((fn_max v3 v1) ^^^ (fn_min v4 (v1 ||| v2)))]) (rest := []) ⟨hx, hb, hml, hown, hts⟩ (c_Num_down l D ((fn_max v3 v1) ^^^ (fn_min v4 (v1 ||| v2))) H.size) (by show fg_nm y_Num_downFromHighest 1; decide +kernel) u_1233 u_1234 u_187 u_1235 ⟨Nat.le_of_ble_eq_true rfl, Nat.le_of_ble_eq_true rfl⟩ hX (hP.sub (ws' := []) [] rfl) (hK.sub (tys' := []) [] rfl) (hD.sub (ws' := []) [] (by decide) rfl) rfl hl.1 (Nat.le_of_ble_eq_true rfl) d_Num_settle_139 ⟨(Nat.le_of_ble_eq_true rfl), (Nat.le_of_ble_eq_true rfl)⟩) hP hD hK hS hA [] [0] rfl rfl (by decide) (by decide) (fun r139_26 u H locs hw139_25 hP hD hK hS => ?_)
                try dsimp only at hw139_25
                have hP : va_P D classes [(h0, .inr (11, [.long v1, .long v2, .long (fn_max v3 v1), .long (fn_min v4 (v1 ||| v2)), .long (fn_smax v5 (fn_max v3 v1)), .long (fn_smin v6 (fn_min v4 (v1 ||| v2)))]))] H := hP
                have hD : va_D A [(h0, .inr (11, [.long v1, .long v2, .long (fn_max v3 v1), .long (fn_min v4 (v1 ||| v2)), .long (fn_smax v5 (fn_max v3 v1)), .long (fn_smin v6 (fn_min v4 (v1 ||| v2)))]))] := hD
                have hK : va_K D classes [] s := hK
                refine W.widen (k := 0) (n := 0) (Nat.le_of_ble_eq_true rfl) (Nat.le_of_ble_eq_true rfl) ?_
                subst hw139_25
                have hP : va_P D classes [(h0, .inr (11, [.long v1, .long v2, .long (fn_max v3 v1), .long (fn_min v4 (v1 ||| v2)), .long (fn_smax v5 (fn_max v3 v1)), .long (fn_smin v6 (fn_min v4 (v1 ||| v2)))]))] H := hP
                have hD : va_D A [(h0, .inr (11, [.long v1, .long v2, .long (fn_max v3 v1), .long (fn_min v4 (v1 ||| v2)), .long (fn_smax v5 (fn_max v3 v1)), .long (fn_smin v6 (fn_min v4 (v1 ||| v2)))]))] := hD
                refine lv_lstore_n (lv' := [(2, .long (fn_down ((fn_max v3 v1) ^^^ (fn_min v4 (v1 ||| v2))))), (1, .int (nI k)), (0, .ref h0)]) hx hb d_Num_settle_142 rfl hl (by decide) rfl (fun ls hl => ?_)
                refine lv_aload_n hx hb d_Num_settle_143 rfl (lv_at hl 2 rfl) ?_
                refine va_get (D := D) (ci := 11) (v := .long v1) (C := "FilterGuard$Num") (T := F_Num) (N := 6) hx hb hts i_Num hown hK hP 0 rfl rfl 0 (by decide) (hts _ u_367) (fun _ h9 => h9) rfl d_Num_settle_144 ?_
                refine lv_aload_n hx hb d_Num_settle_147 rfl (lv_at hl 2 rfl) ?_
                refine va_get (D := D) (ci := 11) (v := .long (fn_max v3 v1)) (C := "FilterGuard$Num") (T := F_Num) (N := 6) hx hb hts i_Num hown hK hP 0 rfl rfl 2 (by decide) (hts _ u_373) (fun _ h9 => h9) rfl d_Num_settle_148 ?_
                refine lv_lxor hx hb d_Num_settle_151 ?_
                refine lv_aload_n hx hb d_Num_settle_152 rfl (lv_at hl 2 rfl) ?_
                refine va_get (D := D) (ci := 11) (v := .long v2) (C := "FilterGuard$Num") (T := F_Num) (N := 6) hx hb hts i_Num hown hK hP 0 rfl rfl 1 (by decide) (hts _ u_371) (fun _ h9 => h9) rfl d_Num_settle_153 ?_
                refine lv_ldc2 hx hb hown (hts _ u_1061) d_Num_settle_156 ?_
                refine lv_lxor hx hb d_Num_settle_159 ?_
                refine lv_land hx hb d_Num_settle_160 ?_
                refine lv_lload_n hx hb d_Num_settle_161 rfl (lv_at hl 0 rfl) ?_
                refine lv_ldc2 hx hb hown (hts _ u_1061) d_Num_settle_162 ?_
                refine lv_lxor hx hb d_Num_settle_165 ?_
                refine lv_land hx hb d_Num_settle_166 ?_
                refine lv_lconst (v := 0) hx hb d_Num_settle_167 (by decide) ?_
                refine W.lcmp hx hb d_Num_settle_168 ?_
                refine lv_if_eq (tgt := 174) hx hb d_Num_settle_169 (by decide) (fun c_27 => ?_) (fun c_27 => ?_)
                · have gc_27 := (lg_cmp_eq _ _).mp c_27
                  refine lv_aload_n hx hb d_Num_settle_174 rfl (lv_at hl 2 rfl) ?_
                  refine lv_aload_n hx hb d_Num_settle_175 rfl (lv_at hl 2 rfl) ?_
                  refine va_get (D := D) (ci := 11) (v := .long v1) (C := "FilterGuard$Num") (T := F_Num) (N := 6) hx hb hts i_Num hown hK hP 0 rfl rfl 0 (by decide) (hts _ u_367) (fun _ h9 => h9) rfl d_Num_settle_176 ?_
                  refine lv_lload_n hx hb d_Num_settle_179 rfl (lv_at hl 0 rfl) ?_
                  refine lv_land hx hb d_Num_settle_180 ?_
                  refine lv_aload_n hx hb d_Num_settle_181 rfl (lv_at hl 2 rfl) ?_
                  refine va_get (D := D) (ci := 11) (v := .long (fn_max v3 v1)) (C := "FilterGuard$Num") (T := F_Num) (N := 6) hx hb hts i_Num hown hK hP 0 rfl rfl 2 (by decide) (hts _ u_373) (fun _ h9 => h9) rfl d_Num_settle_182 ?_
                  refine lv_lload_n hx hb d_Num_settle_185 rfl (lv_at hl 0 rfl) ?_
                  refine lv_ldc2 hx hb hown (hts _ u_1061) d_Num_settle_186 ?_
                  refine lv_lxor hx hb d_Num_settle_189 ?_
                  refine lv_land hx hb d_Num_settle_190 ?_
                  refine lv_lor hx hb d_Num_settle_191 ?_
                  refine va_put (D := D) (ci := 11) (v := .long ((v1 &&& (fn_down ((fn_max v3 v1) ^^^ (fn_min v4 (v1 ||| v2))))) ||| ((fn_max v3 v1) &&& ((fn_down ((fn_max v3 v1) ^^^ (fn_min v4 (v1 ||| v2)))) ^^^ (-1))))) (ty := .long) (C := "FilterGuard$Num") (T := F_Num) (N := 6) hx hb hts i_Num t_Num t_Num_ok n_Num hown hK hP hD hS 0 rfl rfl 0 (by decide) (hts _ u_367) (fun _ h9 => h9) rfl (by decide +kernel) rfl rfl (Nat.le_of_ble_eq_true rfl) d_Num_settle_192 (fun H locs hP hD hS => ?_)
                  have hP : va_P D classes [(h0, .inr (11, [.long ((v1 &&& (fn_down ((fn_max v3 v1) ^^^ (fn_min v4 (v1 ||| v2))))) ||| ((fn_max v3 v1) &&& ((fn_down ((fn_max v3 v1) ^^^ (fn_min v4 (v1 ||| v2)))) ^^^ (-1)))), .long v2, .long (fn_max v3 v1), .long (fn_min v4 (v1 ||| v2)), .long (fn_smax v5 (fn_max v3 v1)), .long (fn_smin v6 (fn_min v4 (v1 ||| v2)))]))] H := hP
                  have hD : va_D A [(h0, .inr (11, [.long ((v1 &&& (fn_down ((fn_max v3 v1) ^^^ (fn_min v4 (v1 ||| v2))))) ||| ((fn_max v3 v1) &&& ((fn_down ((fn_max v3 v1) ^^^ (fn_min v4 (v1 ||| v2)))) ^^^ (-1)))), .long v2, .long (fn_max v3 v1), .long (fn_min v4 (v1 ||| v2)), .long (fn_smax v5 (fn_max v3 v1)), .long (fn_smin v6 (fn_min v4 (v1 ||| v2)))]))] := hD
                  refine lv_aload_n hx hb d_Num_settle_195 rfl (lv_at hl 2 rfl) ?_
                  refine lv_dup hx hb d_Num_settle_196 rfl ?_
                  refine va_get (D := D) (ci := 11) (v := .long v2) (C := "FilterGuard$Num") (T := F_Num) (N := 6) hx hb hts i_Num hown hK hP 0 rfl rfl 1 (by decide) (hts _ u_371) (fun _ h9 => h9) rfl d_Num_settle_197 ?_
                  refine lv_lload_n hx hb d_Num_settle_200 rfl (lv_at hl 0 rfl) ?_
                  refine lv_land hx hb d_Num_settle_201 ?_
                  refine va_put (D := D) (ci := 11) (v := .long (v2 &&& (fn_down ((fn_max v3 v1) ^^^ (fn_min v4 (v1 ||| v2)))))) (ty := .long) (C := "FilterGuard$Num") (T := F_Num) (N := 6) hx hb hts i_Num t_Num t_Num_ok n_Num hown hK hP hD hS 0 rfl rfl 1 (by decide) (hts _ u_371) (fun _ h9 => h9) rfl (by decide +kernel) rfl rfl (Nat.le_of_ble_eq_true rfl) d_Num_settle_202 (fun H locs hP hD hS => ?_)
                  have hP : va_P D classes [(h0, .inr (11, [.long ((v1 &&& (fn_down ((fn_max v3 v1) ^^^ (fn_min v4 (v1 ||| v2))))) ||| ((fn_max v3 v1) &&& ((fn_down ((fn_max v3 v1) ^^^ (fn_min v4 (v1 ||| v2)))) ^^^ (-1)))), .long (v2 &&& (fn_down ((fn_max v3 v1) ^^^ (fn_min v4 (v1 ||| v2))))), .long (fn_max v3 v1), .long (fn_min v4 (v1 ||| v2)), .long (fn_smax v5 (fn_max v3 v1)), .long (fn_smin v6 (fn_min v4 (v1 ||| v2)))]))] H := hP
                  have hD : va_D A [(h0, .inr (11, [.long ((v1 &&& (fn_down ((fn_max v3 v1) ^^^ (fn_min v4 (v1 ||| v2))))) ||| ((fn_max v3 v1) &&& ((fn_down ((fn_max v3 v1) ^^^ (fn_min v4 (v1 ||| v2)))) ^^^ (-1)))), .long (v2 &&& (fn_down ((fn_max v3 v1) ^^^ (fn_min v4 (v1 ||| v2))))), .long (fn_max v3 v1), .long (fn_min v4 (v1 ||| v2)), .long (fn_smax v5 (fn_max v3 v1)), .long (fn_smin v6 (fn_min v4 (v1 ||| v2)))]))] := hD
                  refine lv_iinc (v := nI (k + 1)) (lv' := [(1, .int (nI (k + 1))), (2, .long (fn_down ((fn_max v3 v1) ^^^ (fn_min v4 (v1 ||| v2))))), (0, .ref h0)]) hx hb d_Num_settle_205 hl (k := 1) rfl (nI_1 k) (by decide) rfl (fun ls hl => ?_)
                  refine lv_goto (tgt := 2) hx hb d_Num_settle_208 (by decide) ?_
                  refine W.widen (k := 0) (n := 0) (by omega) (by omega) ?_
                  exact ih (k + 1) ((v1 &&& (fn_down ((fn_max v3 v1) ^^^ (fn_min v4 (v1 ||| v2))))) ||| ((fn_max v3 v1) &&& ((fn_down ((fn_max v3 v1) ^^^ (fn_min v4 (v1 ||| v2)))) ^^^ (-1)))) (v2 &&& (fn_down ((fn_max v3 v1) ^^^ (fn_min v4 (v1 ||| v2))))) (fn_max v3 v1) (fn_min v4 (v1 ||| v2)) (fn_smax v5 (fn_max v3 v1)) (fn_smin v6 (fn_min v4 (v1 ||| v2))) _ _ _ (by omega) (fn_it_s hit (fn_s1_s (x := (v1, v2, v3, v4, v5, v6)) (fn_sa_neg (x := (v1, v2, v3, v4, v5, v6)) gc_6) (fn_sb_pos (x := (v1, v2, v3, v4, v5, v6)) (fn_sa_neg (x := (v1, v2, v3, v4, v5, v6)) gc_6) gc_22) qc_25 gc_27)) (by omega) (hP.sub (ws' := [(h0, .inr (11, [.long ((v1 &&& (fn_down ((fn_max v3 v1) ^^^ (fn_min v4 (v1 ||| v2))))) ||| ((fn_max v3 v1) &&& ((fn_down ((fn_max v3 v1) ^^^ (fn_min v4 (v1 ||| v2)))) ^^^ (-1)))), .long (v2 &&& (fn_down ((fn_max v3 v1) ^^^ (fn_min v4 (v1 ||| v2))))), .long (fn_max v3 v1), .long (fn_min v4 (v1 ||| v2)), .long (fn_smax v5 (fn_max v3 v1)), .long (fn_smin v6 (fn_min v4 (v1 ||| v2)))]))]) [0] rfl) (hD.sub (ws' := [(h0, .inr (11, [.long ((v1 &&& (fn_down ((fn_max v3 v1) ^^^ (fn_min v4 (v1 ||| v2))))) ||| ((fn_max v3 v1) &&& ((fn_down ((fn_max v3 v1) ^^^ (fn_min v4 (v1 ||| v2)))) ^^^ (-1)))), .long (v2 &&& (fn_down ((fn_max v3 v1) ^^^ (fn_min v4 (v1 ||| v2))))), .long (fn_max v3 v1), .long (fn_min v4 (v1 ||| v2)), .long (fn_smax v5 (fn_max v3 v1)), .long (fn_smin v6 (fn_min v4 (v1 ||| v2)))]))]) [0] (by decide) rfl) hS (lv_sub hl [0, 2] rfl)
                · have gc_27 := fun z => c_27 ((lg_cmp_eq _ _).mpr z)
                  refine lv_iconst (v := 0) hx hb d_Num_settle_172 (by decide) ?_
                  exact fg_retz (v1, v2, (fn_max v3 v1), (fn_min v4 (v1 ||| v2)), fn_smax v5 (fn_max v3 v1), fn_smin v6 (fn_min v4 (v1 ||| v2))) hx hb hr hlocks rfl (Or.inr ⟨rfl, fn_it_n hit (fn_s1_n2 (x := (v1, v2, v3, v4, v5, v6)) (fn_sa_neg (x := (v1, v2, v3, v4, v5, v6)) gc_6) (fn_sb_pos (x := (v1, v2, v3, v4, v5, v6)) (fn_sa_neg (x := (v1, v2, v3, v4, v5, v6)) gc_6) gc_22) qc_25 gc_27) 3 hlt⟩) (hP.sub (ws' := [(h0, .inr (11, [.long v1, .long v2, .long (fn_max v3 v1), .long (fn_min v4 (v1 ||| v2)), .long (fn_smax v5 (fn_max v3 v1)), .long (fn_smin v6 (fn_min v4 (v1 ||| v2)))]))]) [0] rfl) (hK.sub (tys' := []) [] rfl) (hD.sub (ws' := [(h0, .inr (11, [.long v1, .long v2, .long (fn_max v3 v1), .long (fn_min v4 (v1 ||| v2)), .long (fn_smax v5 (fn_max v3 v1)), .long (fn_smin v6 (fn_min v4 (v1 ||| v2)))]))]) [0] (by decide) rfl) hS (Nat.le_of_ble_eq_true rfl) (Nat.le_of_ble_eq_true rfl) d_Num_settle_173
              · have gc_25 := Int64.not_le.mp (fun z => c_25 ((lg_cmp_le _ _).mpr z))
                refine lv_iconst (v := 0) hx hb d_Num_settle_128 (by decide) ?_
                exact fg_retz (v1, v2, (fn_max v3 v1), (fn_min v4 (v1 ||| v2)), fn_smax v5 (fn_max v3 v1), fn_smin v6 (fn_min v4 (v1 ||| v2))) hx hb hr hlocks rfl (Or.inr ⟨rfl, fn_it_n hit (fn_s1_n1 (x := (v1, v2, v3, v4, v5, v6)) (fn_sa_neg (x := (v1, v2, v3, v4, v5, v6)) gc_6) (fn_sb_pos (x := (v1, v2, v3, v4, v5, v6)) (fn_sa_neg (x := (v1, v2, v3, v4, v5, v6)) gc_6) gc_22) (Or.inr gc_25)) 3 hlt⟩) (hP.sub (ws' := [(h0, .inr (11, [.long v1, .long v2, .long (fn_max v3 v1), .long (fn_min v4 (v1 ||| v2)), .long (fn_smax v5 (fn_max v3 v1)), .long (fn_smin v6 (fn_min v4 (v1 ||| v2)))]))]) [0] rfl) (hK.sub (tys' := []) [] rfl) (hD.sub (ws' := [(h0, .inr (11, [.long v1, .long v2, .long (fn_max v3 v1), .long (fn_min v4 (v1 ||| v2)), .long (fn_smax v5 (fn_max v3 v1)), .long (fn_smin v6 (fn_min v4 (v1 ||| v2)))]))]) [0] (by decide) rfl) hS (Nat.le_of_ble_eq_true rfl) (Nat.le_of_ble_eq_true rfl) d_Num_settle_129
          · have gc_22 := fun z => c_22 ((lg_cmp_lt _ _).mpr z)
            refine lv_aload_n hx hb d_Num_settle_86 rfl (lv_at hl 1 rfl) ?_
            refine lv_aload_n hx hb d_Num_settle_87 rfl (lv_at hl 1 rfl) ?_
            refine va_get (D := D) (ci := 11) (v := .long (fn_smax v5 (fn_max v3 v1))) (C := "FilterGuard$Num") (T := F_Num) (N := 6) hx hb hts i_Num hown hK hP 0 rfl rfl 4 (by decide) (hts _ u_379) (fun _ h9 => h9) rfl d_Num_settle_88 ?_
            refine fg_thenv (wr := []) (fg_runV (C := "FilterGuard$Num") (As := [.long (fn_smax v5 (fn_max v3 v1))]) (rest := []) (ci := 11) (q0 := 0) ⟨hx, hb, hml, hown, hts⟩ (c_Num_raise l D h0 v1 v2 (fn_max v3 v1) (fn_min v4 (v1 ||| v2)) (fn_smax v5 (fn_max v3 v1)) (fn_smin v6 (fn_min v4 (v1 ||| v2))) (fn_smax v5 (fn_max v3 v1)) H.size) rfl (by show fg_nm y_Num_raiseLeast 1; decide +kernel) u_1225 u_1199 u_1200 u_187 u_1201 ⟨Nat.le_of_ble_eq_true rfl, Nat.le_of_ble_eq_true rfl⟩ hX (hP.sub (ws' := [(h0, .inr (11, [.long v1, .long v2, .long (fn_max v3 v1), .long (fn_min v4 (v1 ||| v2)), .long (fn_smax v5 (fn_max v3 v1)), .long (fn_smin v6 (fn_min v4 (v1 ||| v2)))]))]) [0] rfl) (hK.sub (tys' := []) [] rfl) (hD.sub (ws' := [(h0, .inr (11, [.long v1, .long v2, .long (fn_max v3 v1), .long (fn_min v4 (v1 ||| v2)), .long (fn_smax v5 (fn_max v3 v1)), .long (fn_smin v6 (fn_min v4 (v1 ||| v2)))]))]) [0] (by decide) rfl) rfl rfl rfl rfl hl.1 (Nat.le_of_ble_eq_true rfl) d_Num_settle_91 ⟨(Nat.le_of_ble_eq_true rfl), (Nat.le_of_ble_eq_true rfl)⟩) hP hD hK hS hA [0] [] rfl rfl (by decide) (by decide) (fun  u H locs hw91_27 hP hD hK hS => ?_)
            obtain ⟨y1_91_28, rfl⟩ : ∃ z, z = u := ⟨_, rfl⟩
            try dsimp only at hw91_27
            have hP : va_P D classes [(h0, .inr (11, [.long v1, .long v2, .long y1_91_28, .long (fn_min v4 (v1 ||| v2)), .long (fn_smax v5 (fn_max v3 v1)), .long (fn_smin v6 (fn_min v4 (v1 ||| v2)))]))] H := hP
            have hD : va_D A [(h0, .inr (11, [.long v1, .long v2, .long y1_91_28, .long (fn_min v4 (v1 ||| v2)), .long (fn_smax v5 (fn_max v3 v1)), .long (fn_smin v6 (fn_min v4 (v1 ||| v2)))]))] := hD
            have hK : va_K D classes [] s := hK
            refine W.widen (k := 0) (n := 0) (Nat.le_of_ble_eq_true rfl) (Nat.le_of_ble_eq_true rfl) ?_
            subst hw91_27
            have hP : va_P D classes [(h0, .inr (11, [.long v1, .long v2, .long (fn_max (fn_max v3 v1) (fn_smax v5 (fn_max v3 v1))), .long (fn_min v4 (v1 ||| v2)), .long (fn_smax v5 (fn_max v3 v1)), .long (fn_smin v6 (fn_min v4 (v1 ||| v2)))]))] H := hP
            have hD : va_D A [(h0, .inr (11, [.long v1, .long v2, .long (fn_max (fn_max v3 v1) (fn_smax v5 (fn_max v3 v1))), .long (fn_min v4 (v1 ||| v2)), .long (fn_smax v5 (fn_max v3 v1)), .long (fn_smin v6 (fn_min v4 (v1 ||| v2)))]))] := hD
            refine lv_aload_n hx hb d_Num_settle_94 rfl (lv_at hl 1 rfl) ?_
            refine lv_aload_n hx hb d_Num_settle_95 rfl (lv_at hl 1 rfl) ?_
            refine va_get (D := D) (ci := 11) (v := .long (fn_smin v6 (fn_min v4 (v1 ||| v2)))) (C := "FilterGuard$Num") (T := F_Num) (N := 6) hx hb hts i_Num hown hK hP 0 rfl rfl 5 (by decide) (hts _ u_381) (fun _ h9 => h9) rfl d_Num_settle_96 ?_
            refine fg_thenv (wr := []) (fg_runV (C := "FilterGuard$Num") (As := [.long (fn_smin v6 (fn_min v4 (v1 ||| v2)))]) (rest := []) (ci := 11) (q0 := 0) ⟨hx, hb, hml, hown, hts⟩ (c_Num_lower l D h0 v1 v2 (fn_max (fn_max v3 v1) (fn_smax v5 (fn_max v3 v1))) (fn_min v4 (v1 ||| v2)) (fn_smax v5 (fn_max v3 v1)) (fn_smin v6 (fn_min v4 (v1 ||| v2))) (fn_smin v6 (fn_min v4 (v1 ||| v2))) H.size) rfl (by show fg_nm y_Num_lowerGreatest 1; decide +kernel) u_1226 u_1195 u_1196 u_187 u_1197 ⟨Nat.le_of_ble_eq_true rfl, Nat.le_of_ble_eq_true rfl⟩ hX (hP.sub (ws' := [(h0, .inr (11, [.long v1, .long v2, .long (fn_max (fn_max v3 v1) (fn_smax v5 (fn_max v3 v1))), .long (fn_min v4 (v1 ||| v2)), .long (fn_smax v5 (fn_max v3 v1)), .long (fn_smin v6 (fn_min v4 (v1 ||| v2)))]))]) [0] rfl) (hK.sub (tys' := []) [] rfl) (hD.sub (ws' := [(h0, .inr (11, [.long v1, .long v2, .long (fn_max (fn_max v3 v1) (fn_smax v5 (fn_max v3 v1))), .long (fn_min v4 (v1 ||| v2)), .long (fn_smax v5 (fn_max v3 v1)), .long (fn_smin v6 (fn_min v4 (v1 ||| v2)))]))]) [0] (by decide) rfl) rfl rfl rfl rfl hl.1 (Nat.le_of_ble_eq_true rfl) d_Num_settle_99 ⟨(Nat.le_of_ble_eq_true rfl), (Nat.le_of_ble_eq_true rfl)⟩) hP hD hK hS hA [0] [] rfl rfl (by decide) (by decide) (fun  u H locs hw99_29 hP hD hK hS => ?_)
            obtain ⟨y1_99_30, rfl⟩ : ∃ z, z = u := ⟨_, rfl⟩
            try dsimp only at hw99_29
            have hP : va_P D classes [(h0, .inr (11, [.long v1, .long v2, .long (fn_max (fn_max v3 v1) (fn_smax v5 (fn_max v3 v1))), .long y1_99_30, .long (fn_smax v5 (fn_max v3 v1)), .long (fn_smin v6 (fn_min v4 (v1 ||| v2)))]))] H := hP
            have hD : va_D A [(h0, .inr (11, [.long v1, .long v2, .long (fn_max (fn_max v3 v1) (fn_smax v5 (fn_max v3 v1))), .long y1_99_30, .long (fn_smax v5 (fn_max v3 v1)), .long (fn_smin v6 (fn_min v4 (v1 ||| v2)))]))] := hD
            have hK : va_K D classes [] s := hK
            refine W.widen (k := 0) (n := 0) (Nat.le_of_ble_eq_true rfl) (Nat.le_of_ble_eq_true rfl) ?_
            subst hw99_29
            have hP : va_P D classes [(h0, .inr (11, [.long v1, .long v2, .long (fn_max (fn_max v3 v1) (fn_smax v5 (fn_max v3 v1))), .long (fn_min (fn_min v4 (v1 ||| v2)) (fn_smin v6 (fn_min v4 (v1 ||| v2)))), .long (fn_smax v5 (fn_max v3 v1)), .long (fn_smin v6 (fn_min v4 (v1 ||| v2)))]))] H := hP
            have hD : va_D A [(h0, .inr (11, [.long v1, .long v2, .long (fn_max (fn_max v3 v1) (fn_smax v5 (fn_max v3 v1))), .long (fn_min (fn_min v4 (v1 ||| v2)) (fn_smin v6 (fn_min v4 (v1 ||| v2)))), .long (fn_smax v5 (fn_max v3 v1)), .long (fn_smin v6 (fn_min v4 (v1 ||| v2)))]))] := hD
            refine lv_aload_n hx hb d_Num_settle_102 rfl (lv_at hl 1 rfl) ?_
            refine va_get (D := D) (ci := 11) (v := .long (fn_min (fn_min v4 (v1 ||| v2)) (fn_smin v6 (fn_min v4 (v1 ||| v2))))) (C := "FilterGuard$Num") (T := F_Num) (N := 6) hx hb hts i_Num hown hK hP 0 rfl rfl 3 (by decide) (hts _ u_376) (fun _ h9 => h9) rfl d_Num_settle_103 ?_
            refine lv_aload_n hx hb d_Num_settle_106 rfl (lv_at hl 1 rfl) ?_
            refine va_get (D := D) (ci := 11) (v := .long (fn_max (fn_max v3 v1) (fn_smax v5 (fn_max v3 v1)))) (C := "FilterGuard$Num") (T := F_Num) (N := 6) hx hb hts i_Num hown hK hP 0 rfl rfl 2 (by decide) (hts _ u_373) (fun _ h9 => h9) rfl d_Num_settle_107 ?_
            refine fg_theni (wr := [(h0, .inr (11, [.long v1, .long v2, .long (fn_max (fn_max v3 v1) (fn_smax v5 (fn_max v3 v1))), .long (fn_min (fn_min v4 (v1 ||| v2)) (fn_smin v6 (fn_min v4 (v1 ||| v2)))), .long (fn_smax v5 (fn_max v3 v1)), .long (fn_smin v6 (fn_min v4 (v1 ||| v2)))]))]) (fg_runS (As := [.long (fn_min (fn_min v4 (v1 ||| v2)) (fn_smin v6 (fn_min v4 (v1 ||| v2)))), .long (fn_max (fn_max v3 v1) (fn_smax v5 (fn_max v3 v1)))]) (rest := []) ⟨hx, hb, hml, hown, hts⟩ (c_Num_isBelow l D (fn_min (fn_min v4 (v1 ||| v2)) (fn_smin v6 (fn_min v4 (v1 ||| v2)))) (fn_max (fn_max v3 v1) (fn_smax v5 (fn_max v3 v1))) H.size) (by show fg_nm y_Num_isBelow 2; decide +kernel) u_1062 u_1063 u_187 u_1064 ⟨Nat.le_of_ble_eq_true rfl, Nat.le_of_ble_eq_true rfl⟩ hX (hP.sub (ws' := []) [] rfl) (hK.sub (tys' := []) [] rfl) (hD.sub (ws' := []) [] (by decide) rfl) rfl hl.1 (Nat.le_of_ble_eq_true rfl) d_Num_settle_110 ⟨(Nat.le_of_ble_eq_true rfl), (Nat.le_of_ble_eq_true rfl)⟩) hP hD hK hS hA [] [0] rfl rfl (by decide) (by decide) (fun r110_32 u H locs hw110_31 hP hD hK hS => ?_)
            try dsimp only at hw110_31
            have hP : va_P D classes [(h0, .inr (11, [.long v1, .long v2, .long (fn_max (fn_max v3 v1) (fn_smax v5 (fn_max v3 v1))), .long (fn_min (fn_min v4 (v1 ||| v2)) (fn_smin v6 (fn_min v4 (v1 ||| v2)))), .long (fn_smax v5 (fn_max v3 v1)), .long (fn_smin v6 (fn_min v4 (v1 ||| v2)))]))] H := hP
            have hD : va_D A [(h0, .inr (11, [.long v1, .long v2, .long (fn_max (fn_max v3 v1) (fn_smax v5 (fn_max v3 v1))), .long (fn_min (fn_min v4 (v1 ||| v2)) (fn_smin v6 (fn_min v4 (v1 ||| v2)))), .long (fn_smax v5 (fn_max v3 v1)), .long (fn_smin v6 (fn_min v4 (v1 ||| v2)))]))] := hD
            have hK : va_K D classes [] s := hK
            refine W.widen (k := 0) (n := 0) (Nat.le_of_ble_eq_true rfl) (Nat.le_of_ble_eq_true rfl) ?_
            refine lv_if_ne (tgt := 128) hx hb d_Num_settle_113 (by decide) (fun c_33 => ?_) (fun c_33 => ?_)
            · have gc_33 := fg_ifnz hw110_31 c_33
              refine lv_iconst (v := 0) hx hb d_Num_settle_128 (by decide) ?_
              exact fg_retz (v1, v2, (fn_max (fn_max v3 v1) (fn_smax v5 (fn_max v3 v1))), (fn_min (fn_min v4 (v1 ||| v2)) (fn_smin v6 (fn_min v4 (v1 ||| v2)))), (fn_smax v5 (fn_max v3 v1)), (fn_smin v6 (fn_min v4 (v1 ||| v2)))) hx hb hr hlocks rfl (Or.inr ⟨rfl, fn_it_n hit (fn_s1_n1 (x := (v1, v2, v3, v4, v5, v6)) (fn_sa_neg (x := (v1, v2, v3, v4, v5, v6)) gc_6) (fn_sb_neg (x := (v1, v2, v3, v4, v5, v6)) (fn_sa_neg (x := (v1, v2, v3, v4, v5, v6)) gc_6) gc_22) (Or.inl gc_33)) 3 hlt⟩) (hP.sub (ws' := [(h0, .inr (11, [.long v1, .long v2, .long (fn_max (fn_max v3 v1) (fn_smax v5 (fn_max v3 v1))), .long (fn_min (fn_min v4 (v1 ||| v2)) (fn_smin v6 (fn_min v4 (v1 ||| v2)))), .long (fn_smax v5 (fn_max v3 v1)), .long (fn_smin v6 (fn_min v4 (v1 ||| v2)))]))]) [0] rfl) (hK.sub (tys' := []) [] rfl) (hD.sub (ws' := [(h0, .inr (11, [.long v1, .long v2, .long (fn_max (fn_max v3 v1) (fn_smax v5 (fn_max v3 v1))), .long (fn_min (fn_min v4 (v1 ||| v2)) (fn_smin v6 (fn_min v4 (v1 ||| v2)))), .long (fn_smax v5 (fn_max v3 v1)), .long (fn_smin v6 (fn_min v4 (v1 ||| v2)))]))]) [0] (by decide) rfl) hS (Nat.le_of_ble_eq_true rfl) (Nat.le_of_ble_eq_true rfl) d_Num_settle_129
            · have gc_33 := fg_ifz hw110_31 c_33
              refine lv_aload_n hx hb d_Num_settle_116 rfl (lv_at hl 1 rfl) ?_
              refine va_get (D := D) (ci := 11) (v := .long (fn_smax v5 (fn_max v3 v1))) (C := "FilterGuard$Num") (T := F_Num) (N := 6) hx hb hts i_Num hown hK hP 0 rfl rfl 4 (by decide) (hts _ u_379) (fun _ h9 => h9) rfl d_Num_settle_117 ?_
              refine lv_aload_n hx hb d_Num_settle_120 rfl (lv_at hl 1 rfl) ?_
              refine va_get (D := D) (ci := 11) (v := .long (fn_smin v6 (fn_min v4 (v1 ||| v2)))) (C := "FilterGuard$Num") (T := F_Num) (N := 6) hx hb hts i_Num hown hK hP 0 rfl rfl 5 (by decide) (hts _ u_381) (fun _ h9 => h9) rfl d_Num_settle_121 ?_
              refine W.lcmp hx hb d_Num_settle_124 ?_
              refine lv_if_le (tgt := 130) hx hb d_Num_settle_125 (by decide) (fun c_34 => ?_) (fun c_34 => ?_)
              · have gc_34 := (lg_cmp_le _ _).mp c_34
                have qc_34 := not_or.mpr ⟨gc_33, Int64.not_lt.mpr gc_34⟩
                refine lv_aload_n hx hb d_Num_settle_130 rfl (lv_at hl 1 rfl) ?_
                refine va_get (D := D) (ci := 11) (v := .long (fn_max (fn_max v3 v1) (fn_smax v5 (fn_max v3 v1)))) (C := "FilterGuard$Num") (T := F_Num) (N := 6) hx hb hts i_Num hown hK hP 0 rfl rfl 2 (by decide) (hts _ u_373) (fun _ h9 => h9) rfl d_Num_settle_131 ?_
                refine lv_aload_n hx hb d_Num_settle_134 rfl (lv_at hl 1 rfl) ?_
                refine va_get (D := D) (ci := 11) (v := .long (fn_min (fn_min v4 (v1 ||| v2)) (fn_smin v6 (fn_min v4 (v1 ||| v2))))) (C := "FilterGuard$Num") (T := F_Num) (N := 6) hx hb hts i_Num hown hK hP 0 rfl rfl 3 (by decide) (hts _ u_376) (fun _ h9 => h9) rfl d_Num_settle_135 ?_
                refine lv_lxor hx hb d_Num_settle_138 ?_
                refine fg_thenl (wr := [(h0, .inr (11, [.long v1, .long v2, .long (fn_max (fn_max v3 v1) (fn_smax v5 (fn_max v3 v1))), .long (fn_min (fn_min v4 (v1 ||| v2)) (fn_smin v6 (fn_min v4 (v1 ||| v2)))), .long (fn_smax v5 (fn_max v3 v1)), .long (fn_smin v6 (fn_min v4 (v1 ||| v2)))]))]) (fg_runS (As := [.long ((fn_max (fn_max v3 v1) (fn_smax v5 (fn_max v3 v1))) ^^^ (fn_min (fn_min v4 (v1 ||| v2)) (fn_smin v6 (fn_min v4 (v1 ||| v2)))))]) (rest := []) ⟨hx, hb, hml, hown, hts⟩ (c_Num_down l D ((fn_max (fn_max v3 v1) (fn_smax v5 (fn_max v3 v1))) ^^^ (fn_min (fn_min v4 (v1 ||| v2)) (fn_smin v6 (fn_min v4 (v1 ||| v2))))) H.size) (by show fg_nm y_Num_downFromHighest 1; decide +kernel) u_1233 u_1234 u_187 u_1235 ⟨Nat.le_of_ble_eq_true rfl, Nat.le_of_ble_eq_true rfl⟩ hX (hP.sub (ws' := []) [] rfl) (hK.sub (tys' := []) [] rfl) (hD.sub (ws' := []) [] (by decide) rfl) rfl hl.1 (Nat.le_of_ble_eq_true rfl) d_Num_settle_139 ⟨(Nat.le_of_ble_eq_true rfl), (Nat.le_of_ble_eq_true rfl)⟩) hP hD hK hS hA [] [0] rfl rfl (by decide) (by decide) (fun r139_35 u H locs hw139_34 hP hD hK hS => ?_)
                try dsimp only at hw139_34
                have hP : va_P D classes [(h0, .inr (11, [.long v1, .long v2, .long (fn_max (fn_max v3 v1) (fn_smax v5 (fn_max v3 v1))), .long (fn_min (fn_min v4 (v1 ||| v2)) (fn_smin v6 (fn_min v4 (v1 ||| v2)))), .long (fn_smax v5 (fn_max v3 v1)), .long (fn_smin v6 (fn_min v4 (v1 ||| v2)))]))] H := hP
                have hD : va_D A [(h0, .inr (11, [.long v1, .long v2, .long (fn_max (fn_max v3 v1) (fn_smax v5 (fn_max v3 v1))), .long (fn_min (fn_min v4 (v1 ||| v2)) (fn_smin v6 (fn_min v4 (v1 ||| v2)))), .long (fn_smax v5 (fn_max v3 v1)), .long (fn_smin v6 (fn_min v4 (v1 ||| v2)))]))] := hD
                have hK : va_K D classes [] s := hK
                refine W.widen (k := 0) (n := 0) (Nat.le_of_ble_eq_true rfl) (Nat.le_of_ble_eq_true rfl) ?_
                subst hw139_34
                have hP : va_P D classes [(h0, .inr (11, [.long v1, .long v2, .long (fn_max (fn_max v3 v1) (fn_smax v5 (fn_max v3 v1))), .long (fn_min (fn_min v4 (v1 ||| v2)) (fn_smin v6 (fn_min v4 (v1 ||| v2)))), .long (fn_smax v5 (fn_max v3 v1)), .long (fn_smin v6 (fn_min v4 (v1 ||| v2)))]))] H := hP
                have hD : va_D A [(h0, .inr (11, [.long v1, .long v2, .long (fn_max (fn_max v3 v1) (fn_smax v5 (fn_max v3 v1))), .long (fn_min (fn_min v4 (v1 ||| v2)) (fn_smin v6 (fn_min v4 (v1 ||| v2)))), .long (fn_smax v5 (fn_max v3 v1)), .long (fn_smin v6 (fn_min v4 (v1 ||| v2)))]))] := hD
                refine lv_lstore_n (lv' := [(2, .long (fn_down ((fn_max (fn_max v3 v1) (fn_smax v5 (fn_max v3 v1))) ^^^ (fn_min (fn_min v4 (v1 ||| v2)) (fn_smin v6 (fn_min v4 (v1 ||| v2))))))), (1, .int (nI k)), (0, .ref h0)]) hx hb d_Num_settle_142 rfl hl (by decide) rfl (fun ls hl => ?_)
                refine lv_aload_n hx hb d_Num_settle_143 rfl (lv_at hl 2 rfl) ?_
                refine va_get (D := D) (ci := 11) (v := .long v1) (C := "FilterGuard$Num") (T := F_Num) (N := 6) hx hb hts i_Num hown hK hP 0 rfl rfl 0 (by decide) (hts _ u_367) (fun _ h9 => h9) rfl d_Num_settle_144 ?_
                refine lv_aload_n hx hb d_Num_settle_147 rfl (lv_at hl 2 rfl) ?_
                refine va_get (D := D) (ci := 11) (v := .long (fn_max (fn_max v3 v1) (fn_smax v5 (fn_max v3 v1)))) (C := "FilterGuard$Num") (T := F_Num) (N := 6) hx hb hts i_Num hown hK hP 0 rfl rfl 2 (by decide) (hts _ u_373) (fun _ h9 => h9) rfl d_Num_settle_148 ?_
                refine lv_lxor hx hb d_Num_settle_151 ?_
                refine lv_aload_n hx hb d_Num_settle_152 rfl (lv_at hl 2 rfl) ?_
                refine va_get (D := D) (ci := 11) (v := .long v2) (C := "FilterGuard$Num") (T := F_Num) (N := 6) hx hb hts i_Num hown hK hP 0 rfl rfl 1 (by decide) (hts _ u_371) (fun _ h9 => h9) rfl d_Num_settle_153 ?_
                refine lv_ldc2 hx hb hown (hts _ u_1061) d_Num_settle_156 ?_
                refine lv_lxor hx hb d_Num_settle_159 ?_
                refine lv_land hx hb d_Num_settle_160 ?_
                refine lv_lload_n hx hb d_Num_settle_161 rfl (lv_at hl 0 rfl) ?_
                refine lv_ldc2 hx hb hown (hts _ u_1061) d_Num_settle_162 ?_
                refine lv_lxor hx hb d_Num_settle_165 ?_
                refine lv_land hx hb d_Num_settle_166 ?_
                refine lv_lconst (v := 0) hx hb d_Num_settle_167 (by decide) ?_
                refine W.lcmp hx hb d_Num_settle_168 ?_
                refine lv_if_eq (tgt := 174) hx hb d_Num_settle_169 (by decide) (fun c_36 => ?_) (fun c_36 => ?_)
                · have gc_36 := (lg_cmp_eq _ _).mp c_36
                  refine lv_aload_n hx hb d_Num_settle_174 rfl (lv_at hl 2 rfl) ?_
                  refine lv_aload_n hx hb d_Num_settle_175 rfl (lv_at hl 2 rfl) ?_
                  refine va_get (D := D) (ci := 11) (v := .long v1) (C := "FilterGuard$Num") (T := F_Num) (N := 6) hx hb hts i_Num hown hK hP 0 rfl rfl 0 (by decide) (hts _ u_367) (fun _ h9 => h9) rfl d_Num_settle_176 ?_
                  refine lv_lload_n hx hb d_Num_settle_179 rfl (lv_at hl 0 rfl) ?_
                  refine lv_land hx hb d_Num_settle_180 ?_
                  refine lv_aload_n hx hb d_Num_settle_181 rfl (lv_at hl 2 rfl) ?_
                  refine va_get (D := D) (ci := 11) (v := .long (fn_max (fn_max v3 v1) (fn_smax v5 (fn_max v3 v1)))) (C := "FilterGuard$Num") (T := F_Num) (N := 6) hx hb hts i_Num hown hK hP 0 rfl rfl 2 (by decide) (hts _ u_373) (fun _ h9 => h9) rfl d_Num_settle_182 ?_
                  refine lv_lload_n hx hb d_Num_settle_185 rfl (lv_at hl 0 rfl) ?_
                  refine lv_ldc2 hx hb hown (hts _ u_1061) d_Num_settle_186 ?_
                  refine lv_lxor hx hb d_Num_settle_189 ?_
                  refine lv_land hx hb d_Num_settle_190 ?_
                  refine lv_lor hx hb d_Num_settle_191 ?_
                  refine va_put (D := D) (ci := 11) (v := .long ((v1 &&& (fn_down ((fn_max (fn_max v3 v1) (fn_smax v5 (fn_max v3 v1))) ^^^ (fn_min (fn_min v4 (v1 ||| v2)) (fn_smin v6 (fn_min v4 (v1 ||| v2))))))) ||| ((fn_max (fn_max v3 v1) (fn_smax v5 (fn_max v3 v1))) &&& ((fn_down ((fn_max (fn_max v3 v1) (fn_smax v5 (fn_max v3 v1))) ^^^ (fn_min (fn_min v4 (v1 ||| v2)) (fn_smin v6 (fn_min v4 (v1 ||| v2)))))) ^^^ (-1))))) (ty := .long) (C := "FilterGuard$Num") (T := F_Num) (N := 6) hx hb hts i_Num t_Num t_Num_ok n_Num hown hK hP hD hS 0 rfl rfl 0 (by decide) (hts _ u_367) (fun _ h9 => h9) rfl (by decide +kernel) rfl rfl (Nat.le_of_ble_eq_true rfl) d_Num_settle_192 (fun H locs hP hD hS => ?_)
                  have hP : va_P D classes [(h0, .inr (11, [.long ((v1 &&& (fn_down ((fn_max (fn_max v3 v1) (fn_smax v5 (fn_max v3 v1))) ^^^ (fn_min (fn_min v4 (v1 ||| v2)) (fn_smin v6 (fn_min v4 (v1 ||| v2))))))) ||| ((fn_max (fn_max v3 v1) (fn_smax v5 (fn_max v3 v1))) &&& ((fn_down ((fn_max (fn_max v3 v1) (fn_smax v5 (fn_max v3 v1))) ^^^ (fn_min (fn_min v4 (v1 ||| v2)) (fn_smin v6 (fn_min v4 (v1 ||| v2)))))) ^^^ (-1)))), .long v2, .long (fn_max (fn_max v3 v1) (fn_smax v5 (fn_max v3 v1))), .long (fn_min (fn_min v4 (v1 ||| v2)) (fn_smin v6 (fn_min v4 (v1 ||| v2)))), .long (fn_smax v5 (fn_max v3 v1)), .long (fn_smin v6 (fn_min v4 (v1 ||| v2)))]))] H := hP
                  have hD : va_D A [(h0, .inr (11, [.long ((v1 &&& (fn_down ((fn_max (fn_max v3 v1) (fn_smax v5 (fn_max v3 v1))) ^^^ (fn_min (fn_min v4 (v1 ||| v2)) (fn_smin v6 (fn_min v4 (v1 ||| v2))))))) ||| ((fn_max (fn_max v3 v1) (fn_smax v5 (fn_max v3 v1))) &&& ((fn_down ((fn_max (fn_max v3 v1) (fn_smax v5 (fn_max v3 v1))) ^^^ (fn_min (fn_min v4 (v1 ||| v2)) (fn_smin v6 (fn_min v4 (v1 ||| v2)))))) ^^^ (-1)))), .long v2, .long (fn_max (fn_max v3 v1) (fn_smax v5 (fn_max v3 v1))), .long (fn_min (fn_min v4 (v1 ||| v2)) (fn_smin v6 (fn_min v4 (v1 ||| v2)))), .long (fn_smax v5 (fn_max v3 v1)), .long (fn_smin v6 (fn_min v4 (v1 ||| v2)))]))] := hD
                  refine lv_aload_n hx hb d_Num_settle_195 rfl (lv_at hl 2 rfl) ?_
                  refine lv_dup hx hb d_Num_settle_196 rfl ?_
                  refine va_get (D := D) (ci := 11) (v := .long v2) (C := "FilterGuard$Num") (T := F_Num) (N := 6) hx hb hts i_Num hown hK hP 0 rfl rfl 1 (by decide) (hts _ u_371) (fun _ h9 => h9) rfl d_Num_settle_197 ?_
                  refine lv_lload_n hx hb d_Num_settle_200 rfl (lv_at hl 0 rfl) ?_
                  refine lv_land hx hb d_Num_settle_201 ?_
                  refine va_put (D := D) (ci := 11) (v := .long (v2 &&& (fn_down ((fn_max (fn_max v3 v1) (fn_smax v5 (fn_max v3 v1))) ^^^ (fn_min (fn_min v4 (v1 ||| v2)) (fn_smin v6 (fn_min v4 (v1 ||| v2)))))))) (ty := .long) (C := "FilterGuard$Num") (T := F_Num) (N := 6) hx hb hts i_Num t_Num t_Num_ok n_Num hown hK hP hD hS 0 rfl rfl 1 (by decide) (hts _ u_371) (fun _ h9 => h9) rfl (by decide +kernel) rfl rfl (Nat.le_of_ble_eq_true rfl) d_Num_settle_202 (fun H locs hP hD hS => ?_)
                  have hP : va_P D classes [(h0, .inr (11, [.long ((v1 &&& (fn_down ((fn_max (fn_max v3 v1) (fn_smax v5 (fn_max v3 v1))) ^^^ (fn_min (fn_min v4 (v1 ||| v2)) (fn_smin v6 (fn_min v4 (v1 ||| v2))))))) ||| ((fn_max (fn_max v3 v1) (fn_smax v5 (fn_max v3 v1))) &&& ((fn_down ((fn_max (fn_max v3 v1) (fn_smax v5 (fn_max v3 v1))) ^^^ (fn_min (fn_min v4 (v1 ||| v2)) (fn_smin v6 (fn_min v4 (v1 ||| v2)))))) ^^^ (-1)))), .long (v2 &&& (fn_down ((fn_max (fn_max v3 v1) (fn_smax v5 (fn_max v3 v1))) ^^^ (fn_min (fn_min v4 (v1 ||| v2)) (fn_smin v6 (fn_min v4 (v1 ||| v2))))))), .long (fn_max (fn_max v3 v1) (fn_smax v5 (fn_max v3 v1))), .long (fn_min (fn_min v4 (v1 ||| v2)) (fn_smin v6 (fn_min v4 (v1 ||| v2)))), .long (fn_smax v5 (fn_max v3 v1)), .long (fn_smin v6 (fn_min v4 (v1 ||| v2)))]))] H := hP
                  have hD : va_D A [(h0, .inr (11, [.long ((v1 &&& (fn_down ((fn_max (fn_max v3 v1) (fn_smax v5 (fn_max v3 v1))) ^^^ (fn_min (fn_min v4 (v1 ||| v2)) (fn_smin v6 (fn_min v4 (v1 ||| v2))))))) ||| ((fn_max (fn_max v3 v1) (fn_smax v5 (fn_max v3 v1))) &&& ((fn_down ((fn_max (fn_max v3 v1) (fn_smax v5 (fn_max v3 v1))) ^^^ (fn_min (fn_min v4 (v1 ||| v2)) (fn_smin v6 (fn_min v4 (v1 ||| v2)))))) ^^^ (-1)))), .long (v2 &&& (fn_down ((fn_max (fn_max v3 v1) (fn_smax v5 (fn_max v3 v1))) ^^^ (fn_min (fn_min v4 (v1 ||| v2)) (fn_smin v6 (fn_min v4 (v1 ||| v2))))))), .long (fn_max (fn_max v3 v1) (fn_smax v5 (fn_max v3 v1))), .long (fn_min (fn_min v4 (v1 ||| v2)) (fn_smin v6 (fn_min v4 (v1 ||| v2)))), .long (fn_smax v5 (fn_max v3 v1)), .long (fn_smin v6 (fn_min v4 (v1 ||| v2)))]))] := hD
                  refine lv_iinc (v := nI (k + 1)) (lv' := [(1, .int (nI (k + 1))), (2, .long (fn_down ((fn_max (fn_max v3 v1) (fn_smax v5 (fn_max v3 v1))) ^^^ (fn_min (fn_min v4 (v1 ||| v2)) (fn_smin v6 (fn_min v4 (v1 ||| v2))))))), (0, .ref h0)]) hx hb d_Num_settle_205 hl (k := 1) rfl (nI_1 k) (by decide) rfl (fun ls hl => ?_)
                  refine lv_goto (tgt := 2) hx hb d_Num_settle_208 (by decide) ?_
                  refine W.widen (k := 0) (n := 0) (by omega) (by omega) ?_
                  exact ih (k + 1) ((v1 &&& (fn_down ((fn_max (fn_max v3 v1) (fn_smax v5 (fn_max v3 v1))) ^^^ (fn_min (fn_min v4 (v1 ||| v2)) (fn_smin v6 (fn_min v4 (v1 ||| v2))))))) ||| ((fn_max (fn_max v3 v1) (fn_smax v5 (fn_max v3 v1))) &&& ((fn_down ((fn_max (fn_max v3 v1) (fn_smax v5 (fn_max v3 v1))) ^^^ (fn_min (fn_min v4 (v1 ||| v2)) (fn_smin v6 (fn_min v4 (v1 ||| v2)))))) ^^^ (-1)))) (v2 &&& (fn_down ((fn_max (fn_max v3 v1) (fn_smax v5 (fn_max v3 v1))) ^^^ (fn_min (fn_min v4 (v1 ||| v2)) (fn_smin v6 (fn_min v4 (v1 ||| v2))))))) (fn_max (fn_max v3 v1) (fn_smax v5 (fn_max v3 v1))) (fn_min (fn_min v4 (v1 ||| v2)) (fn_smin v6 (fn_min v4 (v1 ||| v2)))) (fn_smax v5 (fn_max v3 v1)) (fn_smin v6 (fn_min v4 (v1 ||| v2))) _ _ _ (by omega) (fn_it_s hit (fn_s1_s (x := (v1, v2, v3, v4, v5, v6)) (fn_sa_neg (x := (v1, v2, v3, v4, v5, v6)) gc_6) (fn_sb_neg (x := (v1, v2, v3, v4, v5, v6)) (fn_sa_neg (x := (v1, v2, v3, v4, v5, v6)) gc_6) gc_22) qc_34 gc_36)) (by omega) (hP.sub (ws' := [(h0, .inr (11, [.long ((v1 &&& (fn_down ((fn_max (fn_max v3 v1) (fn_smax v5 (fn_max v3 v1))) ^^^ (fn_min (fn_min v4 (v1 ||| v2)) (fn_smin v6 (fn_min v4 (v1 ||| v2))))))) ||| ((fn_max (fn_max v3 v1) (fn_smax v5 (fn_max v3 v1))) &&& ((fn_down ((fn_max (fn_max v3 v1) (fn_smax v5 (fn_max v3 v1))) ^^^ (fn_min (fn_min v4 (v1 ||| v2)) (fn_smin v6 (fn_min v4 (v1 ||| v2)))))) ^^^ (-1)))), .long (v2 &&& (fn_down ((fn_max (fn_max v3 v1) (fn_smax v5 (fn_max v3 v1))) ^^^ (fn_min (fn_min v4 (v1 ||| v2)) (fn_smin v6 (fn_min v4 (v1 ||| v2))))))), .long (fn_max (fn_max v3 v1) (fn_smax v5 (fn_max v3 v1))), .long (fn_min (fn_min v4 (v1 ||| v2)) (fn_smin v6 (fn_min v4 (v1 ||| v2)))), .long (fn_smax v5 (fn_max v3 v1)), .long (fn_smin v6 (fn_min v4 (v1 ||| v2)))]))]) [0] rfl) (hD.sub (ws' := [(h0, .inr (11, [.long ((v1 &&& (fn_down ((fn_max (fn_max v3 v1) (fn_smax v5 (fn_max v3 v1))) ^^^ (fn_min (fn_min v4 (v1 ||| v2)) (fn_smin v6 (fn_min v4 (v1 ||| v2))))))) ||| ((fn_max (fn_max v3 v1) (fn_smax v5 (fn_max v3 v1))) &&& ((fn_down ((fn_max (fn_max v3 v1) (fn_smax v5 (fn_max v3 v1))) ^^^ (fn_min (fn_min v4 (v1 ||| v2)) (fn_smin v6 (fn_min v4 (v1 ||| v2)))))) ^^^ (-1)))), .long (v2 &&& (fn_down ((fn_max (fn_max v3 v1) (fn_smax v5 (fn_max v3 v1))) ^^^ (fn_min (fn_min v4 (v1 ||| v2)) (fn_smin v6 (fn_min v4 (v1 ||| v2))))))), .long (fn_max (fn_max v3 v1) (fn_smax v5 (fn_max v3 v1))), .long (fn_min (fn_min v4 (v1 ||| v2)) (fn_smin v6 (fn_min v4 (v1 ||| v2)))), .long (fn_smax v5 (fn_max v3 v1)), .long (fn_smin v6 (fn_min v4 (v1 ||| v2)))]))]) [0] (by decide) rfl) hS (lv_sub hl [0, 2] rfl)
                · have gc_36 := fun z => c_36 ((lg_cmp_eq _ _).mpr z)
                  refine lv_iconst (v := 0) hx hb d_Num_settle_172 (by decide) ?_
                  exact fg_retz (v1, v2, (fn_max (fn_max v3 v1) (fn_smax v5 (fn_max v3 v1))), (fn_min (fn_min v4 (v1 ||| v2)) (fn_smin v6 (fn_min v4 (v1 ||| v2)))), (fn_smax v5 (fn_max v3 v1)), (fn_smin v6 (fn_min v4 (v1 ||| v2)))) hx hb hr hlocks rfl (Or.inr ⟨rfl, fn_it_n hit (fn_s1_n2 (x := (v1, v2, v3, v4, v5, v6)) (fn_sa_neg (x := (v1, v2, v3, v4, v5, v6)) gc_6) (fn_sb_neg (x := (v1, v2, v3, v4, v5, v6)) (fn_sa_neg (x := (v1, v2, v3, v4, v5, v6)) gc_6) gc_22) qc_34 gc_36) 3 hlt⟩) (hP.sub (ws' := [(h0, .inr (11, [.long v1, .long v2, .long (fn_max (fn_max v3 v1) (fn_smax v5 (fn_max v3 v1))), .long (fn_min (fn_min v4 (v1 ||| v2)) (fn_smin v6 (fn_min v4 (v1 ||| v2)))), .long (fn_smax v5 (fn_max v3 v1)), .long (fn_smin v6 (fn_min v4 (v1 ||| v2)))]))]) [0] rfl) (hK.sub (tys' := []) [] rfl) (hD.sub (ws' := [(h0, .inr (11, [.long v1, .long v2, .long (fn_max (fn_max v3 v1) (fn_smax v5 (fn_max v3 v1))), .long (fn_min (fn_min v4 (v1 ||| v2)) (fn_smin v6 (fn_min v4 (v1 ||| v2)))), .long (fn_smax v5 (fn_max v3 v1)), .long (fn_smin v6 (fn_min v4 (v1 ||| v2)))]))]) [0] (by decide) rfl) hS (Nat.le_of_ble_eq_true rfl) (Nat.le_of_ble_eq_true rfl) d_Num_settle_173
              · have gc_34 := Int64.not_le.mp (fun z => c_34 ((lg_cmp_le _ _).mpr z))
                refine lv_iconst (v := 0) hx hb d_Num_settle_128 (by decide) ?_
                exact fg_retz (v1, v2, (fn_max (fn_max v3 v1) (fn_smax v5 (fn_max v3 v1))), (fn_min (fn_min v4 (v1 ||| v2)) (fn_smin v6 (fn_min v4 (v1 ||| v2)))), (fn_smax v5 (fn_max v3 v1)), (fn_smin v6 (fn_min v4 (v1 ||| v2)))) hx hb hr hlocks rfl (Or.inr ⟨rfl, fn_it_n hit (fn_s1_n1 (x := (v1, v2, v3, v4, v5, v6)) (fn_sa_neg (x := (v1, v2, v3, v4, v5, v6)) gc_6) (fn_sb_neg (x := (v1, v2, v3, v4, v5, v6)) (fn_sa_neg (x := (v1, v2, v3, v4, v5, v6)) gc_6) gc_22) (Or.inr gc_34)) 3 hlt⟩) (hP.sub (ws' := [(h0, .inr (11, [.long v1, .long v2, .long (fn_max (fn_max v3 v1) (fn_smax v5 (fn_max v3 v1))), .long (fn_min (fn_min v4 (v1 ||| v2)) (fn_smin v6 (fn_min v4 (v1 ||| v2)))), .long (fn_smax v5 (fn_max v3 v1)), .long (fn_smin v6 (fn_min v4 (v1 ||| v2)))]))]) [0] rfl) (hK.sub (tys' := []) [] rfl) (hD.sub (ws' := [(h0, .inr (11, [.long v1, .long v2, .long (fn_max (fn_max v3 v1) (fn_smax v5 (fn_max v3 v1))), .long (fn_min (fn_min v4 (v1 ||| v2)) (fn_smin v6 (fn_min v4 (v1 ||| v2)))), .long (fn_smax v5 (fn_max v3 v1)), .long (fn_smin v6 (fn_min v4 (v1 ||| v2)))]))]) [0] (by decide) rfl) hS (Nat.le_of_ble_eq_true rfl) (Nat.le_of_ble_eq_true rfl) d_Num_settle_129
  refine W.widen (k := 0) (n := 0) (by omega) (by omega) ?_
  exact loop2 (3 + 1) 0 n1 n2 n3 n4 n5 n6 _ _ _ (by omega) rfl (by omega) (hP.sub (ws' := [(h0, .inr (11, [.long n1, .long n2, .long n3, .long n4, .long n5, .long n6]))]) [0] rfl) (hD.sub (ws' := [(h0, .inr (11, [.long n1, .long n2, .long n3, .long n4, .long n5, .long n6]))]) [0] (by decide) rfl) hS (lv_sub hl [0, 1] rfl)
