theorem d_Code_look_229 : decode prog_4_method_3_code 229 = .ok (.aload_n 0, 1) := by decide +kernel
theorem d_Code_look_230 : decode prog_4_method_3_code 230 = .ok (.iload 4, 2) := by decide +kernel
theorem d_Code_look_232 : decode prog_4_method_3_code 232 = .ok (.bipush 6, 2) := by decide +kernel
theorem d_Code_look_234 : decode prog_4_method_3_code 234 = .ok (.if_icmp .ne 7, 3) := by decide +kernel
theorem d_Code_look_241 : decode prog_4_method_3_code 241 = .ok (.iconst 0, 1) := by decide +kernel
theorem d_Code_look_242 : decode prog_4_method_3_code 242 = .ok (.invokevirtual 75, 3) := by decide +kernel
theorem u_973 : Cond.methodLink "FilterGuard$Code" 75 ⟨"FilterGuard$Code", "lookAtJump", "(Z)V"⟩ ∈ fg_g := fg_in (List.mem_of_getElem? (i := 973) (by decide +kernel)) rfl
theorem u_976 : Cond.code ⟨"FilterGuard$Code", "lookAtJump", "(Z)V"⟩ prog_4_method_6_code 2 none ∈ fg_g := fg_in (List.mem_of_getElem? (i := 976) (by decide +kernel)) rfl
theorem u_975 : Cond.instanceMethod ⟨"FilterGuard$Code", "lookAtJump", "(Z)V"⟩ ∈ fg_g := fg_in (List.mem_of_getElem? (i := 975) (by decide +kernel)) rfl
theorem u_5 : Cond.selects "FilterGuard$Code" ⟨"FilterGuard$Code", "lookAtJump", "(Z)V"⟩ ⟨"FilterGuard$Code", "lookAtJump", "(Z)V"⟩ ∈ fg_g := fg_in (List.mem_of_getElem? (i := 5) (by decide +kernel)) rfl
theorem d_Code_look_245 : decode prog_4_method_3_code 245 = .ok (.return_, 1) := by decide +kernel
theorem d_Code_look_237 : decode prog_4_method_3_code 237 = .ok (.iconst 1, 1) := by decide +kernel
theorem d_Code_look_238 : decode prog_4_method_3_code 238 = .ok (.goto 4, 3) := by decide +kernel
theorem d_Code_look_198 : decode prog_4_method_3_code 198 = .ok (.aload_n 0, 1) := by decide +kernel
theorem d_Code_look_199 : decode prog_4_method_3_code 199 = .ok (.iload 4, 2) := by decide +kernel
theorem d_Code_look_201 : decode prog_4_method_3_code 201 = .ok (.iconst 4, 1) := by decide +kernel
theorem d_Code_look_202 : decode prog_4_method_3_code 202 = .ok (.if_icmp .ne 7, 3) := by decide +kernel
theorem d_Code_look_209 : decode prog_4_method_3_code 209 = .ok (.iconst 0, 1) := by decide +kernel
theorem d_Code_look_210 : decode prog_4_method_3_code 210 = .ok (.invokevirtual 71, 3) := by decide +kernel
theorem u_967 : Cond.methodLink "FilterGuard$Code" 71 ⟨"FilterGuard$Code", "lookAtArithmetic", "(Z)V"⟩ ∈ fg_g := fg_in (List.mem_of_getElem? (i := 967) (by decide +kernel)) rfl
theorem u_970 : Cond.code ⟨"FilterGuard$Code", "lookAtArithmetic", "(Z)V"⟩ prog_4_method_5_code 3 none ∈ fg_g := fg_in (List.mem_of_getElem? (i := 970) (by decide +kernel)) rfl
theorem u_969 : Cond.instanceMethod ⟨"FilterGuard$Code", "lookAtArithmetic", "(Z)V"⟩ ∈ fg_g := fg_in (List.mem_of_getElem? (i := 969) (by decide +kernel)) rfl
theorem u_4 : Cond.selects "FilterGuard$Code" ⟨"FilterGuard$Code", "lookAtArithmetic", "(Z)V"⟩ ⟨"FilterGuard$Code", "lookAtArithmetic", "(Z)V"⟩ ∈ fg_g := fg_in (List.mem_of_getElem? (i := 4) (by decide +kernel)) rfl
theorem d_Code_look_213 : decode prog_4_method_3_code 213 = .ok (.goto 32, 3) := by decide +kernel
theorem d_Code_look_205 : decode prog_4_method_3_code 205 = .ok (.iconst 1, 1) := by decide +kernel
theorem d_Code_look_206 : decode prog_4_method_3_code 206 = .ok (.goto 4, 3) := by decide +kernel
theorem d_Code_look_173 : decode prog_4_method_3_code 173 = .ok (.putfield 68, 3) := by decide +kernel
theorem d_Code_look_176 : decode prog_4_method_3_code 176 = .ok (.aload_n 0, 1) := by decide +kernel
theorem d_Code_look_177 : decode prog_4_method_3_code 177 = .ok (.getfield 29, 3) := by decide +kernel
theorem d_Code_look_180 : decode prog_4_method_3_code 180 = .ok (.bipush 7, 2) := by decide +kernel
theorem d_Code_look_182 : decode prog_4_method_3_code 182 = .ok (.iand, 1) := by decide +kernel
theorem d_Code_look_183 : decode prog_4_method_3_code 183 = .ok (.istore 4, 2) := by decide +kernel
theorem d_Code_look_185 : decode prog_4_method_3_code 185 = .ok (.iload 4, 2) := by decide +kernel
theorem d_Code_look_187 : decode prog_4_method_3_code 187 = .ok (.iconst 4, 1) := by decide +kernel
theorem d_Code_look_188 : decode prog_4_method_3_code 188 = .ok (.if_icmp .eq 10, 3) := by decide +kernel
theorem d_Code_look_191 : decode prog_4_method_3_code 191 = .ok (.iload 4, 2) := by decide +kernel
theorem d_Code_look_193 : decode prog_4_method_3_code 193 = .ok (.bipush 7, 2) := by decide +kernel
theorem d_Code_look_195 : decode prog_4_method_3_code 195 = .ok (.if_icmp .ne 21, 3) := by decide +kernel
theorem d_Code_look_216 : decode prog_4_method_3_code 216 = .ok (.iload 4, 2) := by decide +kernel
theorem d_Code_look_218 : decode prog_4_method_3_code 218 = .ok (.iconst 5, 1) := by decide +kernel
theorem d_Code_look_219 : decode prog_4_method_3_code 219 = .ok (.if_icmp .eq 10, 3) := by decide +kernel
theorem d_Code_look_222 : decode prog_4_method_3_code 222 = .ok (.iload 4, 2) := by decide +kernel
theorem d_Code_look_224 : decode prog_4_method_3_code 224 = .ok (.bipush 6, 2) := by decide +kernel
theorem d_Code_look_226 : decode prog_4_method_3_code 226 = .ok (.if_icmp .ne 19, 3) := by decide +kernel
theorem d_Code_look_168 : decode prog_4_method_3_code 168 = .ok (.iconst 1, 1) := by decide +kernel
theorem d_Code_look_169 : decode prog_4_method_3_code 169 = .ok (.goto 4, 3) := by decide +kernel
theorem d_Code_look_140 : decode prog_4_method_3_code 140 = .ok (.putfield 65, 3) := by decide +kernel
theorem d_Code_look_143 : decode prog_4_method_3_code 143 = .ok (.aload_n 0, 1) := by decide +kernel
theorem d_Code_look_144 : decode prog_4_method_3_code 144 = .ok (.aload_n 0, 1) := by decide +kernel
theorem d_Code_look_145 : decode prog_4_method_3_code 145 = .ok (.getfield 55, 3) := by decide +kernel
theorem g_Code_10 {p : Program} {l : Launch} {e : Env} {R : Room} {s : Jvm.State} {m : MethodId} {args : Array Value} {below : List Frame} {meth : Method} {c : Code} {H : Heap} {locs : List Loc} {cells slots : Nat} {Q : Jvm.State → Prop} {cc : ByteArray} {pc : Nat} {ls : Array Slot} {rest : List Value} {D : va_G} {ad : Nat → Nat → Nat} {ca : Nat → ClassId} {M : me_M} {N : Nat → Nat} {own : String} {index j : Nat} (hexec : p.tables.exec = Jvm.exec) (hb : c.code = cc) (hts : ∀ w ∈ fg_g, w.before args s = true) (hown : s.vm.findClass own = some m.cls) (hK : va_K D classes (me_T ca) s) (hP : va_P D classes (me_W ad ca M) H) (hwf : me_wf N M) (hj : j < N 2) (hlink : (Cond.fieldLink own index "FilterGuard$Code" "family" "I").before args s = true) (hdg : decode cc pc = .ok (.getfield index, 3)) (kk : W p l e R s m args below meth c H locs cells slots Q (F0 m (pc + 3) ls (.int (mI M 2 j 10) :: rest))) : W p l e R s m args below meth c H locs cells slots Q (F0 m pc ls (.ref (ad 2 j) :: rest)) := me_get (k := 2) (f := 10) (C := "FilterGuard$Code") (T := F_Code) (Nf := 16) hexec hb hts i_Code hown hK hP hwf hj (by decide) rfl (by decide) (by decide) hlink (fun _ h9 => h9) hdg kk
theorem d_Code_look_148 : decode prog_4_method_3_code 148 = .ok (.iconst 2, 1) := by decide +kernel
theorem d_Code_look_149 : decode prog_4_method_3_code 149 = .ok (.if_icmp .eq 19, 3) := by decide +kernel
theorem d_Code_look_152 : decode prog_4_method_3_code 152 = .ok (.aload_n 0, 1) := by decide +kernel
theorem d_Code_look_153 : decode prog_4_method_3_code 153 = .ok (.getfield 55, 3) := by decide +kernel
theorem d_Code_look_156 : decode prog_4_method_3_code 156 = .ok (.iconst 3, 1) := by decide +kernel
theorem d_Code_look_157 : decode prog_4_method_3_code 157 = .ok (.if_icmp .eq 11, 3) := by decide +kernel
theorem d_Code_look_160 : decode prog_4_method_3_code 160 = .ok (.aload_n 0, 1) := by decide +kernel
theorem d_Code_look_161 : decode prog_4_method_3_code 161 = .ok (.getfield 55, 3) := by decide +kernel
theorem d_Code_look_164 : decode prog_4_method_3_code 164 = .ok (.iconst 5, 1) := by decide +kernel
theorem d_Code_look_165 : decode prog_4_method_3_code 165 = .ok (.if_icmp .ne 7, 3) := by decide +kernel
theorem d_Code_look_172 : decode prog_4_method_3_code 172 = .ok (.iconst 0, 1) := by decide +kernel
theorem d_Code_look_135 : decode prog_4_method_3_code 135 = .ok (.iconst 1, 1) := by decide +kernel
theorem d_Code_look_136 : decode prog_4_method_3_code 136 = .ok (.goto 4, 3) := by decide +kernel
theorem d_Code_look_22 : decode prog_4_method_3_code 22 = .ok (.lstore_n 2, 1) := by decide +kernel
theorem d_Code_look_23 : decode prog_4_method_3_code 23 = .ok (.aload_n 0, 1) := by decide +kernel
theorem d_Code_look_24 : decode prog_4_method_3_code 24 = .ok (.lload_n 2, 1) := by decide +kernel
theorem d_Code_look_25 : decode prog_4_method_3_code 25 = .ok (.l2i, 1) := by decide +kernel
theorem d_Code_look_26 : decode prog_4_method_3_code 26 = .ok (.sipush 255, 3) := by decide +kernel
theorem d_Code_look_29 : decode prog_4_method_3_code 29 = .ok (.iand, 1) := by decide +kernel
theorem d_Code_look_30 : decode prog_4_method_3_code 30 = .ok (.putfield 29, 3) := by decide +kernel
theorem p_Code_5 {p : Program} {l : Launch} {e : Env} {R : Room} {s : Jvm.State} {m : MethodId} {args : Array Value} {below : List Frame} {meth : Method} {c : Code} {H : Heap} {locs : List Loc} {cells slots : Nat} {Q : Jvm.State → Prop} {cc : ByteArray} {pc : Nat} {ls : Array Slot} {rest : List Value} {D : va_G} {A : Nat → Prop} {H0 : Heap} {ad : Nat → Nat → Nat} {ca : Nat → ClassId} {M M1 : me_M} {N : Nat → Nat} {own : String} {index j : Nat} {v : Int32} (he : M1 = wI M 2 j 5 v) (hexec : p.tables.exec = Jvm.exec) (hb : c.code = cc) (hts : ∀ w ∈ fg_g, w.before args s = true) (hown : s.vm.findClass own = some m.cls) (hK : va_K D classes (me_T ca) s) (hP : va_P D classes (me_W ad ca M) H) (hD : va_D A (me_W ad ca M)) (hwf : me_wf N M) (hS : va_S A H0 H locs) (hj : j < N 2) (hlink : (Cond.fieldLink own index "FilterGuard$Code" "op" "I").before args s = true) (hdg : decode cc pc = .ok (.putfield index, 3)) (kk : ∀ (H1 : Heap) (locs1 : List Loc), va_P D classes (me_W ad ca M1) H1 → va_D A (me_W ad ca M1) → me_wf N M1 → va_S A H0 H1 locs1 → W p l e R s m args below meth c H1 locs1 cells slots Q (F0 m (pc + 3) ls rest)) : W p l e R s m args below meth c H locs cells slots Q (F0 m pc ls (.int v :: .ref (ad 2 j) :: rest)) := by
  subst he
  exact me_put (M1 := wI M 2 j 5 v) (k := 2) (f := 5) (C := "FilterGuard$Code") (T := F_Code) (Nf := 16) hexec hb hts i_Code t_Code t_Code_ok n_Code hown hK hP hD hwf hS hj (by decide) rfl (by decide) (by decide) hlink (fun _ h9 => h9) rfl rfl rfl rfl (fun a b h => me_wIE h) (me_fIw (by decide) (by decide)) hdg (fun H1 locs1 a1 a2 a3 => kk H1 locs1 a1 a2 (me_wfI hwf (fun z => absurd z (by decide)) (fun z => absurd z (by decide))) a3)
theorem d_Code_look_33 : decode prog_4_method_3_code 33 = .ok (.aload_n 0, 1) := by decide +kernel
theorem d_Code_look_34 : decode prog_4_method_3_code 34 = .ok (.lload_n 2, 1) := by decide +kernel
theorem d_Code_look_35 : decode prog_4_method_3_code 35 = .ok (.bipush 8, 2) := by decide +kernel
theorem d_Code_look_37 : decode prog_4_method_3_code 37 = .ok (.lushr, 1) := by decide +kernel
theorem d_Code_look_38 : decode prog_4_method_3_code 38 = .ok (.l2i, 1) := by decide +kernel
theorem d_Code_look_39 : decode prog_4_method_3_code 39 = .ok (.bipush 15, 2) := by decide +kernel
theorem d_Code_look_41 : decode prog_4_method_3_code 41 = .ok (.iand, 1) := by decide +kernel
theorem d_Code_look_42 : decode prog_4_method_3_code 42 = .ok (.putfield 32, 3) := by decide +kernel
theorem u_233 : Cond.fieldLink "FilterGuard$Code" 32 "FilterGuard$Code" "to" "I" ∈ fg_g := fg_in (List.mem_of_getElem? (i := 233) (by decide +kernel)) rfl
theorem p_Code_6 {p : Program} {l : Launch} {e : Env} {R : Room} {s : Jvm.State} {m : MethodId} {args : Array Value} {below : List Frame} {meth : Method} {c : Code} {H : Heap} {locs : List Loc} {cells slots : Nat} {Q : Jvm.State → Prop} {cc : ByteArray} {pc : Nat} {ls : Array Slot} {rest : List Value} {D : va_G} {A : Nat → Prop} {H0 : Heap} {ad : Nat → Nat → Nat} {ca : Nat → ClassId} {M M1 : me_M} {N : Nat → Nat} {own : String} {index j : Nat} {v : Int32} (he : M1 = wI M 2 j 6 v) (hexec : p.tables.exec = Jvm.exec) (hb : c.code = cc) (hts : ∀ w ∈ fg_g, w.before args s = true) (hown : s.vm.findClass own = some m.cls) (hK : va_K D classes (me_T ca) s) (hP : va_P D classes (me_W ad ca M) H) (hD : va_D A (me_W ad ca M)) (hwf : me_wf N M) (hS : va_S A H0 H locs) (hj : j < N 2) (hlink : (Cond.fieldLink own index "FilterGuard$Code" "to" "I").before args s = true) (hdg : decode cc pc = .ok (.putfield index, 3)) (kk : ∀ (H1 : Heap) (locs1 : List Loc), va_P D classes (me_W ad ca M1) H1 → va_D A (me_W ad ca M1) → me_wf N M1 → va_S A H0 H1 locs1 → W p l e R s m args below meth c H1 locs1 cells slots Q (F0 m (pc + 3) ls rest)) : W p l e R s m args below meth c H locs cells slots Q (F0 m pc ls (.int v :: .ref (ad 2 j) :: rest)) := by
  subst he
  exact me_put (M1 := wI M 2 j 6 v) (k := 2) (f := 6) (C := "FilterGuard$Code") (T := F_Code) (Nf := 16) hexec hb hts i_Code t_Code t_Code_ok n_Code hown hK hP hD hwf hS hj (by decide) rfl (by decide) (by decide) hlink (fun _ h9 => h9) rfl rfl rfl rfl (fun a b h => me_wIE h) (me_fIw (by decide) (by decide)) hdg (fun H1 locs1 a1 a2 a3 => kk H1 locs1 a1 a2 (me_wfI hwf (fun z => absurd z (by decide)) (fun z => absurd z (by decide))) a3)
theorem d_Code_look_45 : decode prog_4_method_3_code 45 = .ok (.aload_n 0, 1) := by decide +kernel
theorem d_Code_look_46 : decode prog_4_method_3_code 46 = .ok (.lload_n 2, 1) := by decide +kernel
theorem d_Code_look_47 : decode prog_4_method_3_code 47 = .ok (.bipush 12, 2) := by decide +kernel
theorem d_Code_look_49 : decode prog_4_method_3_code 49 = .ok (.lushr, 1) := by decide +kernel
theorem d_Code_look_50 : decode prog_4_method_3_code 50 = .ok (.l2i, 1) := by decide +kernel
theorem d_Code_look_51 : decode prog_4_method_3_code 51 = .ok (.bipush 15, 2) := by decide +kernel
theorem d_Code_look_53 : decode prog_4_method_3_code 53 = .ok (.iand, 1) := by decide +kernel
theorem d_Code_look_54 : decode prog_4_method_3_code 54 = .ok (.putfield 35, 3) := by decide +kernel
theorem u_238 : Cond.fieldLink "FilterGuard$Code" 35 "FilterGuard$Code" "from" "I" ∈ fg_g := fg_in (List.mem_of_getElem? (i := 238) (by decide +kernel)) rfl
theorem p_Code_7 {p : Program} {l : Launch} {e : Env} {R : Room} {s : Jvm.State} {m : MethodId} {args : Array Value} {below : List Frame} {meth : Method} {c : Code} {H : Heap} {locs : List Loc} {cells slots : Nat} {Q : Jvm.State → Prop} {cc : ByteArray} {pc : Nat} {ls : Array Slot} {rest : List Value} {D : va_G} {A : Nat → Prop} {H0 : Heap} {ad : Nat → Nat → Nat} {ca : Nat → ClassId} {M M1 : me_M} {N : Nat → Nat} {own : String} {index j : Nat} {v : Int32} (he : M1 = wI M 2 j 7 v) (hexec : p.tables.exec = Jvm.exec) (hb : c.code = cc) (hts : ∀ w ∈ fg_g, w.before args s = true) (hown : s.vm.findClass own = some m.cls) (hK : va_K D classes (me_T ca) s) (hP : va_P D classes (me_W ad ca M) H) (hD : va_D A (me_W ad ca M)) (hwf : me_wf N M) (hS : va_S A H0 H locs) (hj : j < N 2) (hlink : (Cond.fieldLink own index "FilterGuard$Code" "from" "I").before args s = true) (hdg : decode cc pc = .ok (.putfield index, 3)) (kk : ∀ (H1 : Heap) (locs1 : List Loc), va_P D classes (me_W ad ca M1) H1 → va_D A (me_W ad ca M1) → me_wf N M1 → va_S A H0 H1 locs1 → W p l e R s m args below meth c H1 locs1 cells slots Q (F0 m (pc + 3) ls rest)) : W p l e R s m args below meth c H locs cells slots Q (F0 m pc ls (.int v :: .ref (ad 2 j) :: rest)) := by
  subst he
  exact me_put (M1 := wI M 2 j 7 v) (k := 2) (f := 7) (C := "FilterGuard$Code") (T := F_Code) (Nf := 16) hexec hb hts i_Code t_Code t_Code_ok n_Code hown hK hP hD hwf hS hj (by decide) rfl (by decide) (by decide) hlink (fun _ h9 => h9) rfl rfl rfl rfl (fun a b h => me_wIE h) (me_fIw (by decide) (by decide)) hdg (fun H1 locs1 a1 a2 a3 => kk H1 locs1 a1 a2 (me_wfI hwf (fun z => absurd z (by decide)) (fun z => absurd z (by decide))) a3)
theorem d_Code_look_57 : decode prog_4_method_3_code 57 = .ok (.aload_n 0, 1) := by decide +kernel
theorem d_Code_look_58 : decode prog_4_method_3_code 58 = .ok (.lload_n 2, 1) := by decide +kernel
theorem d_Code_look_59 : decode prog_4_method_3_code 59 = .ok (.bipush 16, 2) := by decide +kernel
theorem d_Code_look_61 : decode prog_4_method_3_code 61 = .ok (.lushr, 1) := by decide +kernel
theorem d_Code_look_62 : decode prog_4_method_3_code 62 = .ok (.l2i, 1) := by decide +kernel
theorem d_Code_look_63 : decode prog_4_method_3_code 63 = .ok (.i2s, 1) := by decide +kernel
theorem d_Code_look_64 : decode prog_4_method_3_code 64 = .ok (.putfield 38, 3) := by decide +kernel
theorem u_242 : Cond.fieldLink "FilterGuard$Code" 38 "FilterGuard$Code" "offset" "I" ∈ fg_g := fg_in (List.mem_of_getElem? (i := 242) (by decide +kernel)) rfl
theorem p_Code_8 {p : Program} {l : Launch} {e : Env} {R : Room} {s : Jvm.State} {m : MethodId} {args : Array Value} {below : List Frame} {meth : Method} {c : Code} {H : Heap} {locs : List Loc} {cells slots : Nat} {Q : Jvm.State → Prop} {cc : ByteArray} {pc : Nat} {ls : Array Slot} {rest : List Value} {D : va_G} {A : Nat → Prop} {H0 : Heap} {ad : Nat → Nat → Nat} {ca : Nat → ClassId} {M M1 : me_M} {N : Nat → Nat} {own : String} {index j : Nat} {v : Int32} (he : M1 = wI M 2 j 8 v) (hexec : p.tables.exec = Jvm.exec) (hb : c.code = cc) (hts : ∀ w ∈ fg_g, w.before args s = true) (hown : s.vm.findClass own = some m.cls) (hK : va_K D classes (me_T ca) s) (hP : va_P D classes (me_W ad ca M) H) (hD : va_D A (me_W ad ca M)) (hwf : me_wf N M) (hS : va_S A H0 H locs) (hj : j < N 2) (hlink : (Cond.fieldLink own index "FilterGuard$Code" "offset" "I").before args s = true) (hdg : decode cc pc = .ok (.putfield index, 3)) (kk : ∀ (H1 : Heap) (locs1 : List Loc), va_P D classes (me_W ad ca M1) H1 → va_D A (me_W ad ca M1) → me_wf N M1 → va_S A H0 H1 locs1 → W p l e R s m args below meth c H1 locs1 cells slots Q (F0 m (pc + 3) ls rest)) : W p l e R s m args below meth c H locs cells slots Q (F0 m pc ls (.int v :: .ref (ad 2 j) :: rest)) := by
  subst he
  exact me_put (M1 := wI M 2 j 8 v) (k := 2) (f := 8) (C := "FilterGuard$Code") (T := F_Code) (Nf := 16) hexec hb hts i_Code t_Code t_Code_ok n_Code hown hK hP hD hwf hS hj (by decide) rfl (by decide) (by decide) hlink (fun _ h9 => h9) rfl rfl rfl rfl (fun a b h => me_wIE h) (me_fIw (by decide) (by decide)) hdg (fun H1 locs1 a1 a2 a3 => kk H1 locs1 a1 a2 (me_wfI hwf (fun z => absurd z (by decide)) (fun z => absurd z (by decide))) a3)
theorem d_Code_look_67 : decode prog_4_method_3_code 67 = .ok (.aload_n 0, 1) := by decide +kernel
theorem d_Code_look_68 : decode prog_4_method_3_code 68 = .ok (.lload_n 2, 1) := by decide +kernel
theorem d_Code_look_69 : decode prog_4_method_3_code 69 = .ok (.bipush 32, 2) := by decide +kernel
theorem d_Code_look_71 : decode prog_4_method_3_code 71 = .ok (.lushr, 1) := by decide +kernel
theorem d_Code_look_72 : decode prog_4_method_3_code 72 = .ok (.l2i, 1) := by decide +kernel
theorem d_Code_look_73 : decode prog_4_method_3_code 73 = .ok (.putfield 41, 3) := by decide +kernel
theorem u_247 : Cond.fieldLink "FilterGuard$Code" 41 "FilterGuard$Code" "field" "I" ∈ fg_g := fg_in (List.mem_of_getElem? (i := 247) (by decide +kernel)) rfl
theorem p_Code_9 {p : Program} {l : Launch} {e : Env} {R : Room} {s : Jvm.State} {m : MethodId} {args : Array Value} {below : List Frame} {meth : Method} {c : Code} {H : Heap} {locs : List Loc} {cells slots : Nat} {Q : Jvm.State → Prop} {cc : ByteArray} {pc : Nat} {ls : Array Slot} {rest : List Value} {D : va_G} {A : Nat → Prop} {H0 : Heap} {ad : Nat → Nat → Nat} {ca : Nat → ClassId} {M M1 : me_M} {N : Nat → Nat} {own : String} {index j : Nat} {v : Int32} (he : M1 = wI M 2 j 9 v) (hexec : p.tables.exec = Jvm.exec) (hb : c.code = cc) (hts : ∀ w ∈ fg_g, w.before args s = true) (hown : s.vm.findClass own = some m.cls) (hK : va_K D classes (me_T ca) s) (hP : va_P D classes (me_W ad ca M) H) (hD : va_D A (me_W ad ca M)) (hwf : me_wf N M) (hS : va_S A H0 H locs) (hj : j < N 2) (hlink : (Cond.fieldLink own index "FilterGuard$Code" "field" "I").before args s = true) (hdg : decode cc pc = .ok (.putfield index, 3)) (kk : ∀ (H1 : Heap) (locs1 : List Loc), va_P D classes (me_W ad ca M1) H1 → va_D A (me_W ad ca M1) → me_wf N M1 → va_S A H0 H1 locs1 → W p l e R s m args below meth c H1 locs1 cells slots Q (F0 m (pc + 3) ls rest)) : W p l e R s m args below meth c H locs cells slots Q (F0 m pc ls (.int v :: .ref (ad 2 j) :: rest)) := by
  subst he
  exact me_put (M1 := wI M 2 j 9 v) (k := 2) (f := 9) (C := "FilterGuard$Code") (T := F_Code) (Nf := 16) hexec hb hts i_Code t_Code t_Code_ok n_Code hown hK hP hD hwf hS hj (by decide) rfl (by decide) (by decide) hlink (fun _ h9 => h9) rfl rfl rfl rfl (fun a b h => me_wIE h) (me_fIw (by decide) (by decide)) hdg (fun H1 locs1 a1 a2 a3 => kk H1 locs1 a1 a2 (me_wfI hwf (fun z => absurd z (by decide)) (fun z => absurd z (by decide))) a3)
theorem d_Code_look_76 : decode prog_4_method_3_code 76 = .ok (.aload_n 0, 1) := by decide +kernel
theorem d_Code_look_77 : decode prog_4_method_3_code 77 = .ok (.getstatic 44, 3) := by decide +kernel
theorem o_961 : Cond.fieldLinkNest "FilterGuard$Code" 44 "FilterGuard" "SIZES" "[I" "FilterGuard" ∈ lw_tbl := List.mem_of_getElem? (i := 961) (by decide +kernel)
theorem d_Code_look_80 : decode prog_4_method_3_code 80 = .ok (.aload_n 0, 1) := by decide +kernel
theorem d_Code_look_81 : decode prog_4_method_3_code 81 = .ok (.getfield 29, 3) := by decide +kernel
theorem d_Code_look_84 : decode prog_4_method_3_code 84 = .ok (.iconst 3, 1) := by decide +kernel
theorem d_Code_look_85 : decode prog_4_method_3_code 85 = .ok (.ishr, 1) := by decide +kernel
theorem d_Code_look_86 : decode prog_4_method_3_code 86 = .ok (.iconst 3, 1) := by decide +kernel
theorem d_Code_look_87 : decode prog_4_method_3_code 87 = .ok (.iand, 1) := by decide +kernel
theorem d_Code_look_88 : decode prog_4_method_3_code 88 = .ok (.iaload, 1) := by decide +kernel
theorem d_Code_look_89 : decode prog_4_method_3_code 89 = .ok (.putfield 48, 3) := by decide +kernel
theorem u_257 : Cond.fieldLink "FilterGuard$Code" 48 "FilterGuard$Code" "bytes" "I" ∈ fg_g := fg_in (List.mem_of_getElem? (i := 257) (by decide +kernel)) rfl
theorem p_Code_11 {p : Program} {l : Launch} {e : Env} {R : Room} {s : Jvm.State} {m : MethodId} {args : Array Value} {below : List Frame} {meth : Method} {c : Code} {H : Heap} {locs : List Loc} {cells slots : Nat} {Q : Jvm.State → Prop} {cc : ByteArray} {pc : Nat} {ls : Array Slot} {rest : List Value} {D : va_G} {A : Nat → Prop} {H0 : Heap} {ad : Nat → Nat → Nat} {ca : Nat → ClassId} {M M1 : me_M} {N : Nat → Nat} {own : String} {index j : Nat} {v : Int32} (he : M1 = wI M 2 j 11 v) (hexec : p.tables.exec = Jvm.exec) (hb : c.code = cc) (hts : ∀ w ∈ fg_g, w.before args s = true) (hown : s.vm.findClass own = some m.cls) (hK : va_K D classes (me_T ca) s) (hP : va_P D classes (me_W ad ca M) H) (hD : va_D A (me_W ad ca M)) (hwf : me_wf N M) (hS : va_S A H0 H locs) (hj : j < N 2) (hlink : (Cond.fieldLink own index "FilterGuard$Code" "bytes" "I").before args s = true) (hdg : decode cc pc = .ok (.putfield index, 3)) (kk : ∀ (H1 : Heap) (locs1 : List Loc), va_P D classes (me_W ad ca M1) H1 → va_D A (me_W ad ca M1) → me_wf N M1 → va_S A H0 H1 locs1 → W p l e R s m args below meth c H1 locs1 cells slots Q (F0 m (pc + 3) ls rest)) : W p l e R s m args below meth c H locs cells slots Q (F0 m pc ls (.int v :: .ref (ad 2 j) :: rest)) := by
  subst he
  exact me_put (M1 := wI M 2 j 11 v) (k := 2) (f := 11) (C := "FilterGuard$Code") (T := F_Code) (Nf := 16) hexec hb hts i_Code t_Code t_Code_ok n_Code hown hK hP hD hwf hS hj (by decide) rfl (by decide) (by decide) hlink (fun _ h9 => h9) rfl rfl rfl rfl (fun a b h => me_wIE h) (me_fIw (by decide) (by decide)) hdg (fun H1 locs1 a1 a2 a3 => kk H1 locs1 a1 a2 (me_wfI hwf (fun z => absurd z (by decide)) (fun z => absurd z (by decide))) a3)
theorem d_Code_look_92 : decode prog_4_method_3_code 92 = .ok (.aload_n 0, 1) := by decide +kernel
theorem d_Code_look_93 : decode prog_4_method_3_code 93 = .ok (.aload_n 0, 1) := by decide +kernel
theorem d_Code_look_94 : decode prog_4_method_3_code 94 = .ok (.invokevirtual 51, 3) := by decide +kernel
theorem u_963 : Cond.methodLink "FilterGuard$Code" 51 ⟨"FilterGuard$Code", "familyOfMemory", "()I"⟩ ∈ fg_g := fg_in (List.mem_of_getElem? (i := 963) (by decide +kernel)) rfl
theorem u_966 : Cond.code ⟨"FilterGuard$Code", "familyOfMemory", "()I"⟩ prog_4_method_4_code 2 (some .int) ∈ fg_g := fg_in (List.mem_of_getElem? (i := 966) (by decide +kernel)) rfl
theorem u_965 : Cond.instanceMethod ⟨"FilterGuard$Code", "familyOfMemory", "()I"⟩ ∈ fg_g := fg_in (List.mem_of_getElem? (i := 965) (by decide +kernel)) rfl
theorem u_3 : Cond.selects "FilterGuard$Code" ⟨"FilterGuard$Code", "familyOfMemory", "()I"⟩ ⟨"FilterGuard$Code", "familyOfMemory", "()I"⟩ ∈ fg_g := fg_in (List.mem_of_getElem? (i := 3) (by decide +kernel)) rfl
theorem d_Code_look_97 : decode prog_4_method_3_code 97 = .ok (.putfield 55, 3) := by decide +kernel
theorem d_Code_look_100 : decode prog_4_method_3_code 100 = .ok (.aload_n 0, 1) := by decide +kernel
theorem d_Code_look_101 : decode prog_4_method_3_code 101 = .ok (.iconst (-1), 1) := by decide +kernel
theorem d_Code_look_102 : decode prog_4_method_3_code 102 = .ok (.putfield 58, 3) := by decide +kernel
theorem d_Code_look_105 : decode prog_4_method_3_code 105 = .ok (.aload_n 0, 1) := by decide +kernel
theorem d_Code_look_106 : decode prog_4_method_3_code 106 = .ok (.iconst 0, 1) := by decide +kernel
theorem d_Code_look_107 : decode prog_4_method_3_code 107 = .ok (.putfield 61, 3) := by decide +kernel
theorem d_Code_look_110 : decode prog_4_method_3_code 110 = .ok (.aload_n 0, 1) := by decide +kernel
theorem d_Code_look_111 : decode prog_4_method_3_code 111 = .ok (.aload_n 0, 1) := by decide +kernel
theorem d_Code_look_112 : decode prog_4_method_3_code 112 = .ok (.getfield 55, 3) := by decide +kernel
theorem d_Code_look_115 : decode prog_4_method_3_code 115 = .ok (.iconst 3, 1) := by decide +kernel
theorem d_Code_look_116 : decode prog_4_method_3_code 116 = .ok (.if_icmp .eq 19, 3) := by decide +kernel
theorem d_Code_look_119 : decode prog_4_method_3_code 119 = .ok (.aload_n 0, 1) := by decide +kernel
theorem d_Code_look_120 : decode prog_4_method_3_code 120 = .ok (.getfield 55, 3) := by decide +kernel
theorem d_Code_look_123 : decode prog_4_method_3_code 123 = .ok (.iconst 4, 1) := by decide +kernel
theorem d_Code_look_124 : decode prog_4_method_3_code 124 = .ok (.if_icmp .eq 11, 3) := by decide +kernel
theorem d_Code_look_127 : decode prog_4_method_3_code 127 = .ok (.aload_n 0, 1) := by decide +kernel
theorem d_Code_look_128 : decode prog_4_method_3_code 128 = .ok (.getfield 55, 3) := by decide +kernel
theorem d_Code_look_131 : decode prog_4_method_3_code 131 = .ok (.iconst 5, 1) := by decide +kernel
theorem d_Code_look_132 : decode prog_4_method_3_code 132 = .ok (.if_icmp .ne 7, 3) := by decide +kernel
theorem d_Code_look_139 : decode prog_4_method_3_code 139 = .ok (.iconst 0, 1) := by decide +kernel
theorem d_Code_look_21 : decode prog_4_method_3_code 21 = .ok (.lconst 0, 1) := by decide +kernel
theorem d_Code_look_0 : decode prog_4_method_3_code 0 = .ok (.iload_n 1, 1) := by decide +kernel
theorem d_Code_look_1 : decode prog_4_method_3_code 1 = .ok (.ifCond .lt 20, 3) := by decide +kernel
theorem d_Code_look_4 : decode prog_4_method_3_code 4 = .ok (.iload_n 1, 1) := by decide +kernel
theorem d_Code_look_5 : decode prog_4_method_3_code 5 = .ok (.aload_n 0, 1) := by decide +kernel
theorem d_Code_look_6 : decode prog_4_method_3_code 6 = .ok (.getfield 22, 3) := by decide +kernel
theorem g_Code_3 {p : Program} {l : Launch} {e : Env} {R : Room} {s : Jvm.State} {m : MethodId} {args : Array Value} {below : List Frame} {meth : Method} {c : Code} {H : Heap} {locs : List Loc} {cells slots : Nat} {Q : Jvm.State → Prop} {cc : ByteArray} {pc : Nat} {ls : Array Slot} {rest : List Value} {D : va_G} {ad : Nat → Nat → Nat} {ca : Nat → ClassId} {M : me_M} {N : Nat → Nat} {own : String} {index j : Nat} (hexec : p.tables.exec = Jvm.exec) (hb : c.code = cc) (hts : ∀ w ∈ fg_g, w.before args s = true) (hown : s.vm.findClass own = some m.cls) (hK : va_K D classes (me_T ca) s) (hP : va_P D classes (me_W ad ca M) H) (hwf : me_wf N M) (hj : j < N 2) (hlink : (Cond.fieldLink own index "FilterGuard$Code" "size" "I").before args s = true) (hdg : decode cc pc = .ok (.getfield index, 3)) (kk : W p l e R s m args below meth c H locs cells slots Q (F0 m (pc + 3) ls (.int (mI M 2 j 3) :: rest))) : W p l e R s m args below meth c H locs cells slots Q (F0 m pc ls (.ref (ad 2 j) :: rest)) := me_get (k := 2) (f := 3) (C := "FilterGuard$Code") (T := F_Code) (Nf := 16) hexec hb hts i_Code hown hK hP hwf hj (by decide) rfl (by decide) (by decide) hlink (fun _ h9 => h9) hdg kk
theorem d_Code_look_9 : decode prog_4_method_3_code 9 = .ok (.if_icmp .ge 12, 3) := by decide +kernel
theorem d_Code_look_12 : decode prog_4_method_3_code 12 = .ok (.aload_n 0, 1) := by decide +kernel
theorem d_Code_look_13 : decode prog_4_method_3_code 13 = .ok (.getfield 9, 3) := by decide +kernel
theorem d_Code_look_16 : decode prog_4_method_3_code 16 = .ok (.iload_n 1, 1) := by decide +kernel
theorem d_Code_look_17 : decode prog_4_method_3_code 17 = .ok (.laload, 1) := by decide +kernel
theorem d_Code_look_18 : decode prog_4_method_3_code 18 = .ok (.goto 4, 3) := by decide +kernel
abbrev y_Code_look : MethodName := ⟨"FilterGuard$Code", "look", "(I)V"⟩
def rm_Code_look : Room := { frames := 2, cells := 0, slots := 0, locals := 42 }
abbrev q_Code_look (D : va_G) (ad : Nat → Nat → Nat) (ca : Nat → ClassId) (N : Nat → Nat) (M0 MZ : me_M) (A : Nat → Prop) : Array Value → Jvm.State → Outcome → Jvm.State → Prop := va_Qv (fun (_ : Unit) => me_wf N MZ ∧ me_kp M0 MZ) (fg_B D A (fun _ => me_W ad ca MZ) (fun _ => [])) A
set_option maxHeartbeats 4000000 in
set_option maxRecDepth 100000 in
theorem c_Code_look (l : Launch) (D : va_G) (ad : Nat → Nat → Nat) (ca : Nat → ClassId) (N : Nat → Nat) (M0 MZ : me_M) (j0 : Nat) (x1 : Int32) (h : f_Code_look M0 j0 x1 = (some MZ)) (hwf : me_wf N M0) (hj0 : j0 < N 2) (sz : Nat) : Met l y_Code_look (fg_w y_Code_look prog_4_method_3_code 5 none) rm_Code_look (va_Pc [.ref (ad 2 j0), .int x1] (fz_P D (me_T ca) (me_W ad ca M0) sz)) (q_Code_look D ad ca N M0 MZ (va_A (me_W ad ca M0) sz)) rm_Code_look.cells rm_Code_look.slots (va_A (me_W ad ca M0) sz) := by
  refine fz_enter (fun A => q_Code_look D ad ca N M0 MZ A) (by decide +kernel) (Nat.le_of_ble_eq_true rfl) ?_
  intro p e s m below meth c ls A hx hb hml hown hts hr hlocks hin hP hK hD hS hA hX hl hz
  have hl : lv_has ls 5 [(0, .ref (ad 2 j0)), (1, .int x1)] := hl
  unfold f_Code_look at h
  have hkp : me_kp M0 M0 := me_kp.rf
  have hkb := hkp
  have b_229 : ∀ (M : me_M) (y4 : Int32) (H : Heap) (locs : List Loc) (ls : Array Slot), f_Code_look_b229 j0 M y4 = (some MZ) → me_wf N M → me_kp M0 M → va_P D classes (me_W ad ca M) H → va_D A (me_W ad ca M) → va_S A s.heap H locs → lv_has ls 5 [(0, .ref (ad 2 j0)), (4, .int y4)] → W p l e rm_Code_look s m [.ref (ad 2 j0), .int x1].toArray below meth c H locs 0 0 (MQ below (q_Code_look D ad ca N M0 MZ A) [.ref (ad 2 j0), .int x1].toArray s rm_Code_look.cells rm_Code_look.slots A) (F0 m 229 ls []) := by
    intro M y4 H locs ls h hwf hkp hP hD hS hl
    unfold f_Code_look_b229 at h
    have hkb := hkp
    refine lv_aload_n hx hb d_Code_look_229 rfl (lv_at hl 0 rfl) ?_
    refine lv_iload hx hb d_Code_look_230 (lv_at hl 1 rfl) ?_
    refine lv_bipush (v := 6) hx hb d_Code_look_232 (by decide) ?_
    refine lv_icmp_ne (tgt := 241) hx hb d_Code_look_234 (by decide) (fun c1 => ?_) (fun c1 => ?_)
    · have h := if_f c1 h
      refine lv_iconst (v := 0) hx hb d_Code_look_241 (by decide) ?_
      obtain ⟨M2, eM2, h⟩ := bd_ob h
      refine me_thenv0 (M1 := M2) (me_runV (C := "FilterGuard$Code") (As := [.int 0]) (rest := []) ⟨hx, hb, hml, hown, hts⟩ (c_Code_lookAtJump l D ad ca N M M2 j0 (0 : Int32) eM2 hwf hj0 (by decide) _) rfl (by show fg_nm y_Code_lookAtJump 1; decide +kernel) u_973 u_975 u_5 u_182 u_976 ⟨Nat.le_of_ble_eq_true rfl, Nat.le_of_ble_eq_true rfl⟩ hX hz hK hP hD hwf hS hA hj0 (by decide) rfl rfl rfl hl.1 (Nat.le_of_ble_eq_true rfl) d_Code_look_242 ⟨Nat.le_of_ble_eq_true rfl, Nat.le_of_ble_eq_true rfl⟩) hP hD hK hS hA rfl rfl (fun H locs hw hP hD hS => ?_)
      obtain ⟨hwf, hk9⟩ := hw
      have hkp := hkp.tr hk9
      exact me_retv (me_kp M0) h hx hb hr hlocks hwf hkp hP hK hD hS d_Code_look_245
    have h := if_t c1 h
    refine lv_iconst (v := 1) hx hb d_Code_look_237 (by decide) ?_
    refine lv_goto (tgt := 242) hx hb d_Code_look_238 (by decide) ?_
    obtain ⟨M3, eM3, h⟩ := bd_ob h
    refine me_thenv0 (M1 := M3) (me_runV (C := "FilterGuard$Code") (As := [.int 1]) (rest := []) ⟨hx, hb, hml, hown, hts⟩ (c_Code_lookAtJump l D ad ca N M M3 j0 (1 : Int32) eM3 hwf hj0 (by decide) _) rfl (by show fg_nm y_Code_lookAtJump 1; decide +kernel) u_973 u_975 u_5 u_182 u_976 ⟨Nat.le_of_ble_eq_true rfl, Nat.le_of_ble_eq_true rfl⟩ hX hz hK hP hD hwf hS hA hj0 (by decide) rfl rfl rfl hl.1 (Nat.le_of_ble_eq_true rfl) d_Code_look_242 ⟨Nat.le_of_ble_eq_true rfl, Nat.le_of_ble_eq_true rfl⟩) hP hD hK hS hA rfl rfl (fun H locs hw hP hD hS => ?_)
    obtain ⟨hwf, hk9⟩ := hw
    have hkp := hkp.tr hk9
    exact me_retv (me_kp M0) h hx hb hr hlocks hwf hkp hP hK hD hS d_Code_look_245
  have b_198 : ∀ (M : me_M) (y4 : Int32) (H : Heap) (locs : List Loc) (ls : Array Slot), f_Code_look_b198 j0 M y4 = (some MZ) → me_wf N M → me_kp M0 M → va_P D classes (me_W ad ca M) H → va_D A (me_W ad ca M) → va_S A s.heap H locs → lv_has ls 5 [(0, .ref (ad 2 j0)), (4, .int y4)] → W p l e rm_Code_look s m [.ref (ad 2 j0), .int x1].toArray below meth c H locs 0 0 (MQ below (q_Code_look D ad ca N M0 MZ A) [.ref (ad 2 j0), .int x1].toArray s rm_Code_look.cells rm_Code_look.slots A) (F0 m 198 ls []) := by
    intro M y4 H locs ls h hwf hkp hP hD hS hl
    unfold f_Code_look_b198 at h
    have hkb := hkp
    refine lv_aload_n hx hb d_Code_look_198 rfl (lv_at hl 0 rfl) ?_
    refine lv_iload hx hb d_Code_look_199 (lv_at hl 1 rfl) ?_
    refine lv_iconst (v := 4) hx hb d_Code_look_201 (by decide) ?_
    refine lv_icmp_ne (tgt := 209) hx hb d_Code_look_202 (by decide) (fun c4 => ?_) (fun c4 => ?_)
    · have h := if_f c4 h
      refine lv_iconst (v := 0) hx hb d_Code_look_209 (by decide) ?_
      obtain ⟨M5, eM5, h⟩ := bd_ob h
      refine me_thenv0 (M1 := M5) (me_runV (C := "FilterGuard$Code") (As := [.int 0]) (rest := []) ⟨hx, hb, hml, hown, hts⟩ (c_Code_lookAtArithmetic l D ad ca N M M5 j0 (0 : Int32) eM5 hwf hj0 (by decide) _) rfl (by show fg_nm y_Code_lookAtArithmetic 1; decide +kernel) u_967 u_969 u_4 u_182 u_970 ⟨Nat.le_of_ble_eq_true rfl, Nat.le_of_ble_eq_true rfl⟩ hX hz hK hP hD hwf hS hA hj0 (by decide) rfl rfl rfl hl.1 (Nat.le_of_ble_eq_true rfl) d_Code_look_210 ⟨Nat.le_of_ble_eq_true rfl, Nat.le_of_ble_eq_true rfl⟩) hP hD hK hS hA rfl rfl (fun H locs hw hP hD hS => ?_)
      obtain ⟨hwf, hk9⟩ := hw
      have hkp := hkp.tr hk9
      refine lv_goto (tgt := 245) hx hb d_Code_look_213 (by decide) ?_
      exact me_retv (me_kp M0) h hx hb hr hlocks hwf hkp hP hK hD hS d_Code_look_245
    have h := if_t c4 h
    refine lv_iconst (v := 1) hx hb d_Code_look_205 (by decide) ?_
    refine lv_goto (tgt := 210) hx hb d_Code_look_206 (by decide) ?_
    obtain ⟨M6, eM6, h⟩ := bd_ob h
    refine me_thenv0 (M1 := M6) (me_runV (C := "FilterGuard$Code") (As := [.int 1]) (rest := []) ⟨hx, hb, hml, hown, hts⟩ (c_Code_lookAtArithmetic l D ad ca N M M6 j0 (1 : Int32) eM6 hwf hj0 (by decide) _) rfl (by show fg_nm y_Code_lookAtArithmetic 1; decide +kernel) u_967 u_969 u_4 u_182 u_970 ⟨Nat.le_of_ble_eq_true rfl, Nat.le_of_ble_eq_true rfl⟩ hX hz hK hP hD hwf hS hA hj0 (by decide) rfl rfl rfl hl.1 (Nat.le_of_ble_eq_true rfl) d_Code_look_210 ⟨Nat.le_of_ble_eq_true rfl, Nat.le_of_ble_eq_true rfl⟩) hP hD hK hS hA rfl rfl (fun H locs hw hP hD hS => ?_)
    obtain ⟨hwf, hk9⟩ := hw
    have hkp := hkp.tr hk9
    refine lv_goto (tgt := 245) hx hb d_Code_look_213 (by decide) ?_
    exact me_retv (me_kp M0) h hx hb hr hlocks hwf hkp hP hK hD hS d_Code_look_245
  have b_173 : ∀ (M : me_M) (s0 : Int32) (s1 : Nat) (H : Heap) (locs : List Loc) (ls : Array Slot), f_Code_look_b173 j0 M s0 s1 = (some MZ) → (s0 = 1 ∨ s0 = 0) → (s1 < N 2) → me_wf N M → me_kp M0 M → va_P D classes (me_W ad ca M) H → va_D A (me_W ad ca M) → va_S A s.heap H locs → lv_has ls 5 [(0, .ref (ad 2 j0))] → W p l e rm_Code_look s m [.ref (ad 2 j0), .int x1].toArray below meth c H locs 0 0 (MQ below (q_Code_look D ad ca N M0 MZ A) [.ref (ad 2 j0), .int x1].toArray s rm_Code_look.cells rm_Code_look.slots A) (F0 m 173 ls [.int s0, .ref (ad 2 s1)]) := by
    intro M s0 s1 H locs ls h zs0 hs1 hwf hkp hP hD hS hl
    unfold f_Code_look_b173 at h
    have hkb := hkp
    obtain ⟨M7, eM7, h⟩ := st_ob h
    refine p_Code_15 eM7 hx hb hts hown hK hP hD hwf hS hs1 zs0 (hts _ u_273) d_Code_look_173 (fun H locs hP hD hwf hS => ?_)
    have hkp := kp_I eM7 hkp
    refine lv_aload_n hx hb d_Code_look_176 rfl (lv_at hl 0 rfl) ?_
    refine g_Code_5 hx hb hts hown hK hP hwf hj0 (hts _ u_231) d_Code_look_177 ?_
    refine lv_bipush (v := 7) hx hb d_Code_look_180 (by decide) ?_
    refine lv_iand hx hb d_Code_look_182 ?_
    obtain ⟨v8, ev8, h⟩ := st_ob h
    refine fg_topi (y := v8) ev8.symm ?_
    refine lv_istore (lv' := [(4, .int v8), (0, .ref (ad 2 j0))]) hx hb d_Code_look_183 hl (by decide) rfl (fun ls hl => ?_)
    refine lv_iload hx hb d_Code_look_185 (lv_at hl 0 rfl) ?_
    refine lv_iconst (v := 4) hx hb d_Code_look_187 (by decide) ?_
    refine lv_icmp_eq (tgt := 198) hx hb d_Code_look_188 (by decide) (fun c9 => ?_) (fun c9 => ?_)
    · have h := if_t c9 h
      exact b_198 M7 v8 _ _ _ h hwf hkp hP hD hS (lv_sub hl [1, 0] rfl)
    have h := if_f c9 h
    refine lv_iload hx hb d_Code_look_191 (lv_at hl 0 rfl) ?_
    refine lv_bipush (v := 7) hx hb d_Code_look_193 (by decide) ?_
    refine lv_icmp_ne (tgt := 216) hx hb d_Code_look_195 (by decide) (fun c10 => ?_) (fun c10 => ?_)
    · have h := if_f c10 h
      refine lv_iload hx hb d_Code_look_216 (lv_at hl 0 rfl) ?_
      refine lv_iconst (v := 5) hx hb d_Code_look_218 (by decide) ?_
      refine lv_icmp_eq (tgt := 229) hx hb d_Code_look_219 (by decide) (fun c11 => ?_) (fun c11 => ?_)
      · have h := if_t c11 h
        exact b_229 M7 v8 _ _ _ h hwf hkp hP hD hS (lv_sub hl [1, 0] rfl)
      have h := if_f c11 h
      refine lv_iload hx hb d_Code_look_222 (lv_at hl 0 rfl) ?_
      refine lv_bipush (v := 6) hx hb d_Code_look_224 (by decide) ?_
      refine lv_icmp_ne (tgt := 245) hx hb d_Code_look_226 (by decide) (fun c12 => ?_) (fun c12 => ?_)
      · have h := if_f c12 h
        exact me_retv (me_kp M0) h hx hb hr hlocks hwf hkp hP hK hD hS d_Code_look_245
      have h := if_t c12 h
      exact b_229 M7 v8 _ _ _ h hwf hkp hP hD hS (lv_sub hl [1, 0] rfl)
    have h := if_t c10 h
    exact b_198 M7 v8 _ _ _ h hwf hkp hP hD hS (lv_sub hl [1, 0] rfl)
  have b_168 : ∀ (M : me_M) (s0 : Nat) (H : Heap) (locs : List Loc) (ls : Array Slot), f_Code_look_b168 j0 M s0 = (some MZ) → (s0 < N 2) → me_wf N M → me_kp M0 M → va_P D classes (me_W ad ca M) H → va_D A (me_W ad ca M) → va_S A s.heap H locs → lv_has ls 5 [(0, .ref (ad 2 j0))] → W p l e rm_Code_look s m [.ref (ad 2 j0), .int x1].toArray below meth c H locs 0 0 (MQ below (q_Code_look D ad ca N M0 MZ A) [.ref (ad 2 j0), .int x1].toArray s rm_Code_look.cells rm_Code_look.slots A) (F0 m 168 ls [.ref (ad 2 s0)]) := by
    intro M s0 H locs ls h hs0 hwf hkp hP hD hS hl
    unfold f_Code_look_b168 at h
    have hkb := hkp
    refine lv_iconst (v := 1) hx hb d_Code_look_168 (by decide) ?_
    refine lv_goto (tgt := 173) hx hb d_Code_look_169 (by decide) ?_
    exact b_173 M (1 : Int32) s0 _ _ _ h (by decide) hs0 hwf hkp hP hD hS (lv_sub hl [0] rfl)
  have b_140 : ∀ (M : me_M) (s0 : Int32) (s1 : Nat) (H : Heap) (locs : List Loc) (ls : Array Slot), f_Code_look_b140 j0 M s0 s1 = (some MZ) → (s0 = 1 ∨ s0 = 0) → (s1 < N 2) → me_wf N M → me_kp M0 M → va_P D classes (me_W ad ca M) H → va_D A (me_W ad ca M) → va_S A s.heap H locs → lv_has ls 5 [(0, .ref (ad 2 j0))] → W p l e rm_Code_look s m [.ref (ad 2 j0), .int x1].toArray below meth c H locs 0 0 (MQ below (q_Code_look D ad ca N M0 MZ A) [.ref (ad 2 j0), .int x1].toArray s rm_Code_look.cells rm_Code_look.slots A) (F0 m 140 ls [.int s0, .ref (ad 2 s1)]) := by
    intro M s0 s1 H locs ls h zs0 hs1 hwf hkp hP hD hS hl
    unfold f_Code_look_b140 at h
    have hkb := hkp
    obtain ⟨M13, eM13, h⟩ := st_ob h
    refine p_Code_14 eM13 hx hb hts hown hK hP hD hwf hS hs1 zs0 (hts _ u_270) d_Code_look_140 (fun H locs hP hD hwf hS => ?_)
    have hkp := kp_I eM13 hkp
    refine lv_aload_n hx hb d_Code_look_143 rfl (lv_at hl 0 rfl) ?_
    refine lv_aload_n hx hb d_Code_look_144 rfl (lv_at hl 0 rfl) ?_
    refine g_Code_10 hx hb hts hown hK hP hwf hj0 (hts _ u_252) d_Code_look_145 ?_
    refine lv_iconst (v := 2) hx hb d_Code_look_148 (by decide) ?_
    refine lv_icmp_eq (tgt := 168) hx hb d_Code_look_149 (by decide) (fun c14 => ?_) (fun c14 => ?_)
    · have h := if_t c14 h
      exact b_168 M13 j0 _ _ _ h hj0 hwf hkp hP hD hS (lv_sub hl [0] rfl)
    have h := if_f c14 h
    refine lv_aload_n hx hb d_Code_look_152 rfl (lv_at hl 0 rfl) ?_
    refine g_Code_10 hx hb hts hown hK hP hwf hj0 (hts _ u_252) d_Code_look_153 ?_
    refine lv_iconst (v := 3) hx hb d_Code_look_156 (by decide) ?_
    refine lv_icmp_eq (tgt := 168) hx hb d_Code_look_157 (by decide) (fun c15 => ?_) (fun c15 => ?_)
    · have h := if_t c15 h
      exact b_168 M13 j0 _ _ _ h hj0 hwf hkp hP hD hS (lv_sub hl [0] rfl)
    have h := if_f c15 h
    refine lv_aload_n hx hb d_Code_look_160 rfl (lv_at hl 0 rfl) ?_
    refine g_Code_10 hx hb hts hown hK hP hwf hj0 (hts _ u_252) d_Code_look_161 ?_
    refine lv_iconst (v := 5) hx hb d_Code_look_164 (by decide) ?_
    refine lv_icmp_ne (tgt := 172) hx hb d_Code_look_165 (by decide) (fun c16 => ?_) (fun c16 => ?_)
    · have h := if_f c16 h
      refine lv_iconst (v := 0) hx hb d_Code_look_172 (by decide) ?_
      exact b_173 M13 (0 : Int32) j0 _ _ _ h (by decide) hj0 hwf hkp hP hD hS (lv_sub hl [0] rfl)
    have h := if_t c16 h
    exact b_168 M13 j0 _ _ _ h hj0 hwf hkp hP hD hS (lv_sub hl [0] rfl)
  have b_135 : ∀ (M : me_M) (s0 : Nat) (H : Heap) (locs : List Loc) (ls : Array Slot), f_Code_look_b135 j0 M s0 = (some MZ) → (s0 < N 2) → me_wf N M → me_kp M0 M → va_P D classes (me_W ad ca M) H → va_D A (me_W ad ca M) → va_S A s.heap H locs → lv_has ls 5 [(0, .ref (ad 2 j0))] → W p l e rm_Code_look s m [.ref (ad 2 j0), .int x1].toArray below meth c H locs 0 0 (MQ below (q_Code_look D ad ca N M0 MZ A) [.ref (ad 2 j0), .int x1].toArray s rm_Code_look.cells rm_Code_look.slots A) (F0 m 135 ls [.ref (ad 2 s0)]) := by
    intro M s0 H locs ls h hs0 hwf hkp hP hD hS hl
    unfold f_Code_look_b135 at h
    have hkb := hkp
    refine lv_iconst (v := 1) hx hb d_Code_look_135 (by decide) ?_
    refine lv_goto (tgt := 140) hx hb d_Code_look_136 (by decide) ?_
    exact b_140 M (1 : Int32) s0 _ _ _ h (by decide) hs0 hwf hkp hP hD hS (lv_sub hl [0] rfl)
  have b_22 : ∀ (M : me_M) (s0 : Int64) (H : Heap) (locs : List Loc) (ls : Array Slot), f_Code_look_b22 j0 M s0 = (some MZ) → me_wf N M → me_kp M0 M → va_P D classes (me_W ad ca M) H → va_D A (me_W ad ca M) → va_S A s.heap H locs → lv_has ls 5 [(0, .ref (ad 2 j0))] → W p l e rm_Code_look s m [.ref (ad 2 j0), .int x1].toArray below meth c H locs 0 0 (MQ below (q_Code_look D ad ca N M0 MZ A) [.ref (ad 2 j0), .int x1].toArray s rm_Code_look.cells rm_Code_look.slots A) (F0 m 22 ls [.long s0]) := by
    intro M s0 H locs ls h hwf hkp hP hD hS hl
    unfold f_Code_look_b22 at h
    have hkb := hkp
    refine lv_lstore_n (lv' := [(2, .long s0), (0, .ref (ad 2 j0))]) hx hb d_Code_look_22 rfl hl (by decide) rfl (fun ls hl => ?_)
    refine lv_aload_n hx hb d_Code_look_23 rfl (lv_at hl 1 rfl) ?_
    refine lv_lload_n hx hb d_Code_look_24 rfl (lv_at hl 0 rfl) ?_
    refine lv_l2i (v := s0.toInt32) hx hb d_Code_look_25 rfl ?_
    refine lv_sipush (v := 255) hx hb d_Code_look_26 (by decide) ?_
    refine lv_iand hx hb d_Code_look_29 ?_
    obtain ⟨M17, eM17, h⟩ := st_ob h
    refine p_Code_5 eM17 hx hb hts hown hK hP hD hwf hS hj0 (hts _ u_231) d_Code_look_30 (fun H locs hP hD hwf hS => ?_)
    have hkp := kp_I eM17 hkp
    refine lv_aload_n hx hb d_Code_look_33 rfl (lv_at hl 1 rfl) ?_
    refine lv_lload_n hx hb d_Code_look_34 rfl (lv_at hl 0 rfl) ?_
    refine lv_bipush (v := 8) hx hb d_Code_look_35 (by decide) ?_
    refine lv_lushr (v := jlushr s0 (8 : Int32)) hx hb d_Code_look_37 rfl ?_
    refine lv_l2i (v := (jlushr s0 (8 : Int32)).toInt32) hx hb d_Code_look_38 rfl ?_
    refine lv_bipush (v := 15) hx hb d_Code_look_39 (by decide) ?_
    refine lv_iand hx hb d_Code_look_41 ?_
    obtain ⟨M18, eM18, h⟩ := st_ob h
    refine p_Code_6 eM18 hx hb hts hown hK hP hD hwf hS hj0 (hts _ u_233) d_Code_look_42 (fun H locs hP hD hwf hS => ?_)
    have hkp := kp_I eM18 hkp
    refine lv_aload_n hx hb d_Code_look_45 rfl (lv_at hl 1 rfl) ?_
    refine lv_lload_n hx hb d_Code_look_46 rfl (lv_at hl 0 rfl) ?_
    refine lv_bipush (v := 12) hx hb d_Code_look_47 (by decide) ?_
    refine lv_lushr (v := jlushr s0 (12 : Int32)) hx hb d_Code_look_49 rfl ?_
    refine lv_l2i (v := (jlushr s0 (12 : Int32)).toInt32) hx hb d_Code_look_50 rfl ?_
    refine lv_bipush (v := 15) hx hb d_Code_look_51 (by decide) ?_
    refine lv_iand hx hb d_Code_look_53 ?_
    obtain ⟨M19, eM19, h⟩ := st_ob h
    refine p_Code_7 eM19 hx hb hts hown hK hP hD hwf hS hj0 (hts _ u_238) d_Code_look_54 (fun H locs hP hD hwf hS => ?_)
    have hkp := kp_I eM19 hkp
    refine lv_aload_n hx hb d_Code_look_57 rfl (lv_at hl 1 rfl) ?_
    refine lv_lload_n hx hb d_Code_look_58 rfl (lv_at hl 0 rfl) ?_
    refine lv_bipush (v := 16) hx hb d_Code_look_59 (by decide) ?_
    refine lv_lushr (v := jlushr s0 (16 : Int32)) hx hb d_Code_look_61 rfl ?_
    refine lv_l2i (v := (jlushr s0 (16 : Int32)).toInt32) hx hb d_Code_look_62 rfl ?_
    refine lv_i2s (v := ((jlushr s0 (16 : Int32)).toInt32).toInt16.toInt32) hx hb d_Code_look_63 rfl ?_
    obtain ⟨M20, eM20, h⟩ := st_ob h
    refine p_Code_8 eM20 hx hb hts hown hK hP hD hwf hS hj0 (hts _ u_242) d_Code_look_64 (fun H locs hP hD hwf hS => ?_)
    have hkp := kp_I eM20 hkp
    refine lv_aload_n hx hb d_Code_look_67 rfl (lv_at hl 1 rfl) ?_
    refine lv_lload_n hx hb d_Code_look_68 rfl (lv_at hl 0 rfl) ?_
    refine lv_bipush (v := 32) hx hb d_Code_look_69 (by decide) ?_
    refine lv_lushr (v := jlushr s0 (32 : Int32)) hx hb d_Code_look_71 rfl ?_
    refine lv_l2i (v := (jlushr s0 (32 : Int32)).toInt32) hx hb d_Code_look_72 rfl ?_
    obtain ⟨M21, eM21, h⟩ := st_ob h
    refine p_Code_9 eM21 hx hb hts hown hK hP hD hwf hS hj0 (hts _ u_247) d_Code_look_73 (fun H locs hP hD hwf hS => ?_)
    have hkp := kp_I eM21 hkp
    refine lv_aload_n hx hb d_Code_look_76 rfl (lv_at hl 1 rfl) ?_
    obtain ⟨t22, ht22, hs22, hna22, hnl22⟩ := hz.1
    refine va_getsN hx hb ht22 hS hown (va_Nw.use rfl (hX _ o_961 rfl)) (fun _ h9 => h9) d_Code_look_77 ?_
    refine lv_aload_n hx hb d_Code_look_80 rfl (lv_at hl 1 rfl) ?_
    refine g_Code_5 hx hb hts hown hK hP hwf hj0 (hts _ u_231) d_Code_look_81 ?_
    refine lv_iconst (v := 3) hx hb d_Code_look_84 (by decide) ?_
    refine lv_ishr hx hb d_Code_look_85 ?_
    refine fg_topi (y := jishr (mI M21 2 j0 5) 3) rfl ?_
    refine lv_iconst (v := 3) hx hb d_Code_look_86 (by decide) ?_
    refine lv_iand hx hb d_Code_look_87 ?_
    obtain ⟨g23, h⟩ := gd_ob h
    refine va_sld hx hb hs22 hnl22 hna22 hS g23 d_Code_look_88 ?_
    obtain ⟨M24, eM24, h⟩ := st_ob h
    refine p_Code_11 eM24 hx hb hts hown hK hP hD hwf hS hj0 (hts _ u_257) d_Code_look_89 (fun H locs hP hD hwf hS => ?_)
    have hkp := kp_I eM24 hkp
    refine lv_aload_n hx hb d_Code_look_92 rfl (lv_at hl 1 rfl) ?_
    refine lv_aload_n hx hb d_Code_look_93 rfl (lv_at hl 1 rfl) ?_
    obtain ⟨M25, r26, eM25, h⟩ := b2_ob h
    refine me_theni0 (M1 := M25) (me_runV (C := "FilterGuard$Code") (As := []) (rest := [.ref (ad 2 j0)]) ⟨hx, hb, hml, hown, hts⟩ (c_Code_familyOfMemory l D ad ca N M24 M25 r26 j0 eM25 hwf hj0 _) rfl (by show fg_nm y_Code_familyOfMemory 0; decide +kernel) u_963 u_965 u_3 u_182 u_966 ⟨Nat.le_of_ble_eq_true rfl, Nat.le_of_ble_eq_true rfl⟩ hX hz hK hP hD hwf hS hA hj0 (by decide) rfl rfl rfl hl.1 (Nat.le_of_ble_eq_true rfl) d_Code_look_94 ⟨Nat.le_of_ble_eq_true rfl, Nat.le_of_ble_eq_true rfl⟩) hP hD hK hS hA rfl rfl (fun H locs hw hP hD hS => ?_)
    obtain ⟨hwf, hk9⟩ := hw
    have hkp := hkp.tr hk9
    obtain ⟨M27, eM27, h⟩ := st_ob h
    refine p_Code_10 eM27 hx hb hts hown hK hP hD hwf hS hj0 (hts _ u_252) d_Code_look_97 (fun H locs hP hD hwf hS => ?_)
    have hkp := kp_I eM27 hkp
    refine lv_aload_n hx hb d_Code_look_100 rfl (lv_at hl 1 rfl) ?_
    refine lv_iconst (v := (-1)) hx hb d_Code_look_101 (by decide) ?_
    obtain ⟨M28, eM28, h⟩ := st_ob h
    refine p_Code_12 eM28 hx hb hts hown hK hP hD hwf hS hj0 (hts _ u_261) d_Code_look_102 (fun H locs hP hD hwf hS => ?_)
    have hkp := kp_I eM28 hkp
    refine lv_aload_n hx hb d_Code_look_105 rfl (lv_at hl 1 rfl) ?_
    refine lv_iconst (v := 0) hx hb d_Code_look_106 (by decide) ?_
    obtain ⟨M29, eM29, h⟩ := st_ob h
    refine p_Code_13 eM29 hx hb hts hown hK hP hD hwf hS hj0 (by decide) (hts _ u_265) d_Code_look_107 (fun H locs hP hD hwf hS => ?_)
    have hkp := kp_I eM29 hkp
    refine lv_aload_n hx hb d_Code_look_110 rfl (lv_at hl 1 rfl) ?_
    refine lv_aload_n hx hb d_Code_look_111 rfl (lv_at hl 1 rfl) ?_
    refine g_Code_10 hx hb hts hown hK hP hwf hj0 (hts _ u_252) d_Code_look_112 ?_
    refine lv_iconst (v := 3) hx hb d_Code_look_115 (by decide) ?_
    refine lv_icmp_eq (tgt := 135) hx hb d_Code_look_116 (by decide) (fun c30 => ?_) (fun c30 => ?_)
    · have h := if_t c30 h
      exact b_135 M29 j0 _ _ _ h hj0 hwf hkp hP hD hS (lv_sub hl [1] rfl)
    have h := if_f c30 h
    refine lv_aload_n hx hb d_Code_look_119 rfl (lv_at hl 1 rfl) ?_
    refine g_Code_10 hx hb hts hown hK hP hwf hj0 (hts _ u_252) d_Code_look_120 ?_
    refine lv_iconst (v := 4) hx hb d_Code_look_123 (by decide) ?_
    refine lv_icmp_eq (tgt := 135) hx hb d_Code_look_124 (by decide) (fun c31 => ?_) (fun c31 => ?_)
    · have h := if_t c31 h
      exact b_135 M29 j0 _ _ _ h hj0 hwf hkp hP hD hS (lv_sub hl [1] rfl)
    have h := if_f c31 h
    refine lv_aload_n hx hb d_Code_look_127 rfl (lv_at hl 1 rfl) ?_
    refine g_Code_10 hx hb hts hown hK hP hwf hj0 (hts _ u_252) d_Code_look_128 ?_
    refine lv_iconst (v := 5) hx hb d_Code_look_131 (by decide) ?_
    refine lv_icmp_ne (tgt := 139) hx hb d_Code_look_132 (by decide) (fun c32 => ?_) (fun c32 => ?_)
    · have h := if_f c32 h
      refine lv_iconst (v := 0) hx hb d_Code_look_139 (by decide) ?_
      exact b_140 M29 (0 : Int32) j0 _ _ _ h (by decide) hj0 hwf hkp hP hD hS (lv_sub hl [1] rfl)
    have h := if_t c32 h
    exact b_135 M29 j0 _ _ _ h hj0 hwf hkp hP hD hS (lv_sub hl [1] rfl)
  have b_21 : ∀ (M : me_M) (H : Heap) (locs : List Loc) (ls : Array Slot), f_Code_look_b21 j0 M = (some MZ) → me_wf N M → me_kp M0 M → va_P D classes (me_W ad ca M) H → va_D A (me_W ad ca M) → va_S A s.heap H locs → lv_has ls 5 [(0, .ref (ad 2 j0))] → W p l e rm_Code_look s m [.ref (ad 2 j0), .int x1].toArray below meth c H locs 0 0 (MQ below (q_Code_look D ad ca N M0 MZ A) [.ref (ad 2 j0), .int x1].toArray s rm_Code_look.cells rm_Code_look.slots A) (F0 m 21 ls []) := by
    intro M H locs ls h hwf hkp hP hD hS hl
    unfold f_Code_look_b21 at h
    have hkb := hkp
    refine lv_lconst (v := 0) hx hb d_Code_look_21 (by decide) ?_
    exact b_22 M (0 : Int64) _ _ _ h hwf hkp hP hD hS (lv_sub hl [0] rfl)
  refine lv_iload_n hx hb d_Code_look_0 rfl (lv_at hl 1 rfl) ?_
  refine lv_if_lt (tgt := 21) hx hb d_Code_look_1 (by decide) (fun c33 => ?_) (fun c33 => ?_)
  · have h := if_t c33 h
    exact b_21 M0 _ _ _ h hwf hkp hP hD hS (lv_sub hl [0] rfl)
  have h := if_f c33 h
  refine lv_iload_n hx hb d_Code_look_4 rfl (lv_at hl 1 rfl) ?_
  refine lv_aload_n hx hb d_Code_look_5 rfl (lv_at hl 0 rfl) ?_
  refine g_Code_3 hx hb hts hown hK hP hwf hj0 (hts _ u_226) d_Code_look_6 ?_
  refine lv_icmp_ge (tgt := 21) hx hb d_Code_look_9 (by decide) (fun c34 => ?_) (fun c34 => ?_)
  · have h := if_t c34 h
    exact b_21 M0 _ _ _ h hwf hkp hP hD hS (lv_sub hl [0] rfl)
  have h := if_f c34 h
  refine lv_aload_n hx hb d_Code_look_12 rfl (lv_at hl 0 rfl) ?_
  refine g_Code_0 hx hb hts hown hK hP hwf hj0 (hts _ u_220) d_Code_look_13 ?_
  obtain ⟨j35, e36, h⟩ := bd_ob h
  have hj35 : j35 < N 16 := (hwf.2.1 2 j0 0 _ e36 (by decide) hj0)
  refine me_opt (j := j35) e36 ?_
  refine lv_iload_n hx hb d_Code_look_16 rfl (lv_at hl 1 rfl) ?_
  obtain ⟨g37, h⟩ := gd_ob h
  refine me_lald hx hb hK hP hwf hj35 g37 d_Code_look_17 ?_
  refine lv_goto (tgt := 22) hx hb d_Code_look_18 (by decide) ?_
  exact b_22 M0 (mL M0 16 j35 x1.toNatClampNeg) _ _ _ h hwf hkp hP hD hS (lv_sub hl [0] rfl)
theorem d_Code_isOneOperand_0 : decode prog_4_method_19_code 0 = .ok (.aload_n 0, 1) := by decide +kernel
theorem d_Code_isOneOperand_1 : decode prog_4_method_19_code 1 = .ok (.getfield 68, 3) := by decide +kernel
theorem g_Code_15 {p : Program} {l : Launch} {e : Env} {R : Room} {s : Jvm.State} {m : MethodId} {args : Array Value} {below : List Frame} {meth : Method} {c : Code} {H : Heap} {locs : List Loc} {cells slots : Nat} {Q : Jvm.State → Prop} {cc : ByteArray} {pc : Nat} {ls : Array Slot} {rest : List Value} {D : va_G} {ad : Nat → Nat → Nat} {ca : Nat → ClassId} {M : me_M} {N : Nat → Nat} {own : String} {index j : Nat} (hexec : p.tables.exec = Jvm.exec) (hb : c.code = cc) (hts : ∀ w ∈ fg_g, w.before args s = true) (hown : s.vm.findClass own = some m.cls) (hK : va_K D classes (me_T ca) s) (hP : va_P D classes (me_W ad ca M) H) (hwf : me_wf N M) (hj : j < N 2) (hlink : (Cond.fieldLink own index "FilterGuard$Code" "readsFrom" "Z").before args s = true) (hdg : decode cc pc = .ok (.getfield index, 3)) (kk : W p l e R s m args below meth c H locs cells slots Q (F0 m (pc + 3) ls (.int (mI M 2 j 15) :: rest))) : W p l e R s m args below meth c H locs cells slots Q (F0 m pc ls (.ref (ad 2 j) :: rest)) := me_get (k := 2) (f := 15) (C := "FilterGuard$Code") (T := F_Code) (Nf := 16) hexec hb hts i_Code hown hK hP hwf hj (by decide) rfl (by decide) (by decide) hlink (fun _ h9 => h9) hdg kk
theorem d_Code_isOneOperand_4 : decode prog_4_method_19_code 4 = .ok (.ifCond .eq 18, 3) := by decide +kernel
theorem d_Code_isOneOperand_22 : decode prog_4_method_19_code 22 = .ok (.aload_n 0, 1) := by decide +kernel
theorem d_Code_isOneOperand_23 : decode prog_4_method_19_code 23 = .ok (.getfield 35, 3) := by decide +kernel
theorem g_Code_7 {p : Program} {l : Launch} {e : Env} {R : Room} {s : Jvm.State} {m : MethodId} {args : Array Value} {below : List Frame} {meth : Method} {c : Code} {H : Heap} {locs : List Loc} {cells slots : Nat} {Q : Jvm.State → Prop} {cc : ByteArray} {pc : Nat} {ls : Array Slot} {rest : List Value} {D : va_G} {ad : Nat → Nat → Nat} {ca : Nat → ClassId} {M : me_M} {N : Nat → Nat} {own : String} {index j : Nat} (hexec : p.tables.exec = Jvm.exec) (hb : c.code = cc) (hts : ∀ w ∈ fg_g, w.before args s = true) (hown : s.vm.findClass own = some m.cls) (hK : va_K D classes (me_T ca) s) (hP : va_P D classes (me_W ad ca M) H) (hwf : me_wf N M) (hj : j < N 2) (hlink : (Cond.fieldLink own index "FilterGuard$Code" "from" "I").before args s = true) (hdg : decode cc pc = .ok (.getfield index, 3)) (kk : W p l e R s m args below meth c H locs cells slots Q (F0 m (pc + 3) ls (.int (mI M 2 j 7) :: rest))) : W p l e R s m args below meth c H locs cells slots Q (F0 m pc ls (.ref (ad 2 j) :: rest)) := me_get (k := 2) (f := 7) (C := "FilterGuard$Code") (T := F_Code) (Nf := 16) hexec hb hts i_Code hown hK hP hwf hj (by decide) rfl (by decide) (by decide) hlink (fun _ h9 => h9) hdg kk
theorem d_Code_isOneOperand_26 : decode prog_4_method_19_code 26 = .ok (.ifCond .ne 7, 3) := by decide +kernel
theorem d_Code_isOneOperand_33 : decode prog_4_method_19_code 33 = .ok (.iconst 0, 1) := by decide +kernel
theorem d_Code_isOneOperand_34 : decode prog_4_method_19_code 34 = .ok (.ireturn, 1) := by decide +kernel
theorem d_Code_isOneOperand_29 : decode prog_4_method_19_code 29 = .ok (.iconst 1, 1) := by decide +kernel
theorem d_Code_isOneOperand_30 : decode prog_4_method_19_code 30 = .ok (.goto 4, 3) := by decide +kernel
theorem d_Code_isOneOperand_7 : decode prog_4_method_19_code 7 = .ok (.aload_n 0, 1) := by decide +kernel
theorem d_Code_isOneOperand_8 : decode prog_4_method_19_code 8 = .ok (.getfield 41, 3) := by decide +kernel
theorem g_Code_9 {p : Program} {l : Launch} {e : Env} {R : Room} {s : Jvm.State} {m : MethodId} {args : Array Value} {below : List Frame} {meth : Method} {c : Code} {H : Heap} {locs : List Loc} {cells slots : Nat} {Q : Jvm.State → Prop} {cc : ByteArray} {pc : Nat} {ls : Array Slot} {rest : List Value} {D : va_G} {ad : Nat → Nat → Nat} {ca : Nat → ClassId} {M : me_M} {N : Nat → Nat} {own : String} {index j : Nat} (hexec : p.tables.exec = Jvm.exec) (hb : c.code = cc) (hts : ∀ w ∈ fg_g, w.before args s = true) (hown : s.vm.findClass own = some m.cls) (hK : va_K D classes (me_T ca) s) (hP : va_P D classes (me_W ad ca M) H) (hwf : me_wf N M) (hj : j < N 2) (hlink : (Cond.fieldLink own index "FilterGuard$Code" "field" "I").before args s = true) (hdg : decode cc pc = .ok (.getfield index, 3)) (kk : W p l e R s m args below meth c H locs cells slots Q (F0 m (pc + 3) ls (.int (mI M 2 j 9) :: rest))) : W p l e R s m args below meth c H locs cells slots Q (F0 m pc ls (.ref (ad 2 j) :: rest)) := me_get (k := 2) (f := 9) (C := "FilterGuard$Code") (T := F_Code) (Nf := 16) hexec hb hts i_Code hown hK hP hwf hj (by decide) rfl (by decide) (by decide) hlink (fun _ h9 => h9) hdg kk
theorem d_Code_isOneOperand_11 : decode prog_4_method_19_code 11 = .ok (.ifCond .ne 7, 3) := by decide +kernel
theorem d_Code_isOneOperand_18 : decode prog_4_method_19_code 18 = .ok (.iconst 0, 1) := by decide +kernel
theorem d_Code_isOneOperand_19 : decode prog_4_method_19_code 19 = .ok (.goto 15, 3) := by decide +kernel
theorem d_Code_isOneOperand_14 : decode prog_4_method_19_code 14 = .ok (.iconst 1, 1) := by decide +kernel
theorem d_Code_isOneOperand_15 : decode prog_4_method_19_code 15 = .ok (.goto 19, 3) := by decide +kernel
abbrev y_Code_isOneOperand : MethodName := ⟨"FilterGuard$Code", "isOneOperand", "()Z"⟩
def rm_Code_isOneOperand : Room := { frames := 1, cells := 0, slots := 0, locals := 20 }
abbrev q_Code_isOneOperand (D : va_G) (ad : Nat → Nat → Nat) (ca : Nat → ClassId) (N : Nat → Nat) (M0 MZ : me_M) (RZ : Int32) (A : Nat → Prop) : Array Value → Jvm.State → Outcome → Jvm.State → Prop := va_Qi (fun r (_ : Unit) => r = RZ ∧ me_wf N MZ ∧ me_kp M0 MZ ∧ (RZ = 1 ∨ RZ = 0)) (fg_B D A (fun _ => me_W ad ca MZ) (fun _ => [])) A
set_option maxHeartbeats 4000000 in
set_option maxRecDepth 100000 in
theorem c_Code_isOneOperand (l : Launch) (D : va_G) (ad : Nat → Nat → Nat) (ca : Nat → ClassId) (N : Nat → Nat) (M0 MZ : me_M) (RZ : Int32) (j0 : Nat) (h : f_Code_isOneOperand M0 j0 = (some (MZ, RZ))) (hwf : me_wf N M0) (hj0 : j0 < N 2) (sz : Nat) : Met l y_Code_isOneOperand (fg_w y_Code_isOneOperand prog_4_method_19_code 1 (some .boolean)) rm_Code_isOneOperand (va_Pc [.ref (ad 2 j0)] (fz_P D (me_T ca) (me_W ad ca M0) sz)) (q_Code_isOneOperand D ad ca N M0 MZ RZ (va_A (me_W ad ca M0) sz)) rm_Code_isOneOperand.cells rm_Code_isOneOperand.slots (va_A (me_W ad ca M0) sz) := by
  refine fz_enter (fun A => q_Code_isOneOperand D ad ca N M0 MZ RZ A) (by decide +kernel) (Nat.le_of_ble_eq_true rfl) ?_
  intro p e s m below meth c ls A hx hb hml hown hts hr hlocks hin hP hK hD hS hA hX hl hz
  have hl : lv_has ls 1 [(0, .ref (ad 2 j0))] := hl
  unfold f_Code_isOneOperand at h
  have hkp : me_kp M0 M0 := me_kp.rf
  have hkb := hkp
  refine lv_aload_n hx hb d_Code_isOneOperand_0 rfl (lv_at hl 0 rfl) ?_
  refine g_Code_15 hx hb hts hown hK hP hwf hj0 (hts _ u_273) d_Code_isOneOperand_1 ?_
  have z1 := (hwf.2.2.2 2 j0 15 rfl)
  refine lv_if_eq (tgt := 22) hx hb d_Code_isOneOperand_4 (by decide) (fun c2 => ?_) (fun c2 => ?_)
  · have h := if_t c2 h
    refine lv_aload_n hx hb d_Code_isOneOperand_22 rfl (lv_at hl 0 rfl) ?_
    refine g_Code_7 hx hb hts hown hK hP hwf hj0 (hts _ u_238) d_Code_isOneOperand_23 ?_
    refine lv_if_ne (tgt := 33) hx hb d_Code_isOneOperand_26 (by decide) (fun c3 => ?_) (fun c3 => ?_)
    · have h := if_f c3 h
      refine lv_iconst (v := 0) hx hb d_Code_isOneOperand_33 (by decide) ?_
      exact me_retz (me_kp M0) h (by decide) hx hb hr hlocks hwf hkp hP hK hD hS d_Code_isOneOperand_34
    have h := if_t c3 h
    refine lv_iconst (v := 1) hx hb d_Code_isOneOperand_29 (by decide) ?_
    refine lv_goto (tgt := 34) hx hb d_Code_isOneOperand_30 (by decide) ?_
    exact me_retz (me_kp M0) h (by decide) hx hb hr hlocks hwf hkp hP hK hD hS d_Code_isOneOperand_34
  have h := if_f c2 h
  refine lv_aload_n hx hb d_Code_isOneOperand_7 rfl (lv_at hl 0 rfl) ?_
  refine g_Code_9 hx hb hts hown hK hP hwf hj0 (hts _ u_247) d_Code_isOneOperand_8 ?_
  refine lv_if_ne (tgt := 18) hx hb d_Code_isOneOperand_11 (by decide) (fun c4 => ?_) (fun c4 => ?_)
  · have h := if_f c4 h
    refine lv_iconst (v := 0) hx hb d_Code_isOneOperand_18 (by decide) ?_
    refine lv_goto (tgt := 34) hx hb d_Code_isOneOperand_19 (by decide) ?_
    exact me_retz (me_kp M0) h (by decide) hx hb hr hlocks hwf hkp hP hK hD hS d_Code_isOneOperand_34
  have h := if_t c4 h
  refine lv_iconst (v := 1) hx hb d_Code_isOneOperand_14 (by decide) ?_
  refine lv_goto (tgt := 34) hx hb d_Code_isOneOperand_15 (by decide) ?_
  exact me_retz (me_kp M0) h (by decide) hx hb hr hlocks hwf hkp hP hK hD hS d_Code_isOneOperand_34
theorem d_Code_isFieldShaped_18 : decode prog_4_method_20_code 18 = .ok (.aload_n 0, 1) := by decide +kernel
theorem d_Code_isFieldShaped_19 : decode prog_4_method_20_code 19 = .ok (.getfield 41, 3) := by decide +kernel
theorem d_Code_isFieldShaped_22 : decode prog_4_method_20_code 22 = .ok (.bipush 16, 2) := by decide +kernel
theorem d_Code_isFieldShaped_24 : decode prog_4_method_20_code 24 = .ok (.if_icmp .eq 21, 3) := by decide +kernel
theorem d_Code_isFieldShaped_45 : decode prog_4_method_20_code 45 = .ok (.iconst 1, 1) := by decide +kernel
theorem d_Code_isFieldShaped_46 : decode prog_4_method_20_code 46 = .ok (.goto 4, 3) := by decide +kernel
theorem d_Code_isFieldShaped_50 : decode prog_4_method_20_code 50 = .ok (.ireturn, 1) := by decide +kernel
theorem d_Code_isFieldShaped_27 : decode prog_4_method_20_code 27 = .ok (.aload_n 0, 1) := by decide +kernel
theorem d_Code_isFieldShaped_28 : decode prog_4_method_20_code 28 = .ok (.getfield 41, 3) := by decide +kernel
theorem d_Code_isFieldShaped_31 : decode prog_4_method_20_code 31 = .ok (.bipush 32, 2) := by decide +kernel
theorem d_Code_isFieldShaped_33 : decode prog_4_method_20_code 33 = .ok (.if_icmp .eq 12, 3) := by decide +kernel
theorem d_Code_isFieldShaped_36 : decode prog_4_method_20_code 36 = .ok (.aload_n 0, 1) := by decide +kernel
theorem d_Code_isFieldShaped_37 : decode prog_4_method_20_code 37 = .ok (.getfield 41, 3) := by decide +kernel
theorem d_Code_isFieldShaped_40 : decode prog_4_method_20_code 40 = .ok (.bipush 64, 2) := by decide +kernel
theorem d_Code_isFieldShaped_42 : decode prog_4_method_20_code 42 = .ok (.if_icmp .ne 7, 3) := by decide +kernel
theorem d_Code_isFieldShaped_49 : decode prog_4_method_20_code 49 = .ok (.iconst 0, 1) := by decide +kernel
theorem d_Code_isFieldShaped_0 : decode prog_4_method_20_code 0 = .ok (.aload_n 0, 1) := by decide +kernel
theorem d_Code_isFieldShaped_1 : decode prog_4_method_20_code 1 = .ok (.getfield 58, 3) := by decide +kernel
theorem d_Code_isFieldShaped_4 : decode prog_4_method_20_code 4 = .ok (.bipush 14, 2) := by decide +kernel
theorem d_Code_isFieldShaped_6 : decode prog_4_method_20_code 6 = .ok (.if_icmp .eq 12, 3) := by decide +kernel
theorem d_Code_isFieldShaped_9 : decode prog_4_method_20_code 9 = .ok (.aload_n 0, 1) := by decide +kernel
theorem d_Code_isFieldShaped_10 : decode prog_4_method_20_code 10 = .ok (.getfield 58, 3) := by decide +kernel
theorem d_Code_isFieldShaped_13 : decode prog_4_method_20_code 13 = .ok (.bipush 13, 2) := by decide +kernel
theorem d_Code_isFieldShaped_15 : decode prog_4_method_20_code 15 = .ok (.if_icmp .ne 36, 3) := by decide +kernel
theorem d_Code_isFieldShaped_51 : decode prog_4_method_20_code 51 = .ok (.aload_n 0, 1) := by decide +kernel
theorem d_Code_isFieldShaped_52 : decode prog_4_method_20_code 52 = .ok (.getfield 58, 3) := by decide +kernel
theorem d_Code_isFieldShaped_55 : decode prog_4_method_20_code 55 = .ok (.bipush 11, 2) := by decide +kernel
theorem d_Code_isFieldShaped_57 : decode prog_4_method_20_code 57 = .ok (.if_icmp .ne 10, 3) := by decide +kernel
theorem d_Code_isFieldShaped_67 : decode prog_4_method_20_code 67 = .ok (.iconst 1, 1) := by decide +kernel
theorem d_Code_isFieldShaped_68 : decode prog_4_method_20_code 68 = .ok (.goto 4, 3) := by decide +kernel
theorem d_Code_isFieldShaped_72 : decode prog_4_method_20_code 72 = .ok (.ireturn, 1) := by decide +kernel
theorem d_Code_isFieldShaped_60 : decode prog_4_method_20_code 60 = .ok (.aload_n 0, 1) := by decide +kernel
theorem d_Code_isFieldShaped_61 : decode prog_4_method_20_code 61 = .ok (.getfield 41, 3) := by decide +kernel
theorem d_Code_isFieldShaped_64 : decode prog_4_method_20_code 64 = .ok (.ifCond .ne 7, 3) := by decide +kernel
theorem d_Code_isFieldShaped_71 : decode prog_4_method_20_code 71 = .ok (.iconst 0, 1) := by decide +kernel
abbrev y_Code_isFieldShaped : MethodName := ⟨"FilterGuard$Code", "isFieldShaped", "()Z"⟩
def rm_Code_isFieldShaped : Room := { frames := 1, cells := 0, slots := 0, locals := 20 }
abbrev q_Code_isFieldShaped (D : va_G) (ad : Nat → Nat → Nat) (ca : Nat → ClassId) (N : Nat → Nat) (M0 MZ : me_M) (RZ : Int32) (A : Nat → Prop) : Array Value → Jvm.State → Outcome → Jvm.State → Prop := va_Qi (fun r (_ : Unit) => r = RZ ∧ me_wf N MZ ∧ me_kp M0 MZ ∧ (RZ = 1 ∨ RZ = 0)) (fg_B D A (fun _ => me_W ad ca MZ) (fun _ => [])) A
set_option maxHeartbeats 4000000 in
set_option maxRecDepth 100000 in
theorem c_Code_isFieldShaped (l : Launch) (D : va_G) (ad : Nat → Nat → Nat) (ca : Nat → ClassId) (N : Nat → Nat) (M0 MZ : me_M) (RZ : Int32) (j0 : Nat) (h : f_Code_isFieldShaped M0 j0 = (some (MZ, RZ))) (hwf : me_wf N M0) (hj0 : j0 < N 2) (sz : Nat) : Met l y_Code_isFieldShaped (fg_w y_Code_isFieldShaped prog_4_method_20_code 1 (some .boolean)) rm_Code_isFieldShaped (va_Pc [.ref (ad 2 j0)] (fz_P D (me_T ca) (me_W ad ca M0) sz)) (q_Code_isFieldShaped D ad ca N M0 MZ RZ (va_A (me_W ad ca M0) sz)) rm_Code_isFieldShaped.cells rm_Code_isFieldShaped.slots (va_A (me_W ad ca M0) sz) := by
  refine fz_enter (fun A => q_Code_isFieldShaped D ad ca N M0 MZ RZ A) (by decide +kernel) (Nat.le_of_ble_eq_true rfl) ?_
  intro p e s m below meth c ls A hx hb hml hown hts hr hlocks hin hP hK hD hS hA hX hl hz
  have hl : lv_has ls 1 [(0, .ref (ad 2 j0))] := hl
  unfold f_Code_isFieldShaped at h
  have hkp : me_kp M0 M0 := me_kp.rf
  have hkb := hkp
  have b_18 : ∀ (M : me_M) (H : Heap) (locs : List Loc) (ls : Array Slot), f_Code_isFieldShaped_b18 j0 M = (some (MZ, RZ)) → me_wf N M → me_kp M0 M → va_P D classes (me_W ad ca M) H → va_D A (me_W ad ca M) → va_S A s.heap H locs → lv_has ls 1 [(0, .ref (ad 2 j0))] → W p l e rm_Code_isFieldShaped s m [.ref (ad 2 j0)].toArray below meth c H locs 0 0 (MQ below (q_Code_isFieldShaped D ad ca N M0 MZ RZ A) [.ref (ad 2 j0)].toArray s rm_Code_isFieldShaped.cells rm_Code_isFieldShaped.slots A) (F0 m 18 ls []) := by
    intro M H locs ls h hwf hkp hP hD hS hl
    unfold f_Code_isFieldShaped_b18 at h
    have hkb := hkp
    refine lv_aload_n hx hb d_Code_isFieldShaped_18 rfl (lv_at hl 0 rfl) ?_
    refine g_Code_9 hx hb hts hown hK hP hwf hj0 (hts _ u_247) d_Code_isFieldShaped_19 ?_
    refine lv_bipush (v := 16) hx hb d_Code_isFieldShaped_22 (by decide) ?_
    refine lv_icmp_eq (tgt := 45) hx hb d_Code_isFieldShaped_24 (by decide) (fun c1 => ?_) (fun c1 => ?_)
    · have h := if_t c1 h
      refine lv_iconst (v := 1) hx hb d_Code_isFieldShaped_45 (by decide) ?_
      refine lv_goto (tgt := 50) hx hb d_Code_isFieldShaped_46 (by decide) ?_
      exact me_retz (me_kp M0) h (by decide) hx hb hr hlocks hwf hkp hP hK hD hS d_Code_isFieldShaped_50
    have h := if_f c1 h
    refine lv_aload_n hx hb d_Code_isFieldShaped_27 rfl (lv_at hl 0 rfl) ?_
    refine g_Code_9 hx hb hts hown hK hP hwf hj0 (hts _ u_247) d_Code_isFieldShaped_28 ?_
    refine lv_bipush (v := 32) hx hb d_Code_isFieldShaped_31 (by decide) ?_
    refine lv_icmp_eq (tgt := 45) hx hb d_Code_isFieldShaped_33 (by decide) (fun c2 => ?_) (fun c2 => ?_)
    · have h := if_t c2 h
      refine lv_iconst (v := 1) hx hb d_Code_isFieldShaped_45 (by decide) ?_
      refine lv_goto (tgt := 50) hx hb d_Code_isFieldShaped_46 (by decide) ?_
      exact me_retz (me_kp M0) h (by decide) hx hb hr hlocks hwf hkp hP hK hD hS d_Code_isFieldShaped_50
    have h := if_f c2 h
    refine lv_aload_n hx hb d_Code_isFieldShaped_36 rfl (lv_at hl 0 rfl) ?_
    refine g_Code_9 hx hb hts hown hK hP hwf hj0 (hts _ u_247) d_Code_isFieldShaped_37 ?_
    refine lv_bipush (v := 64) hx hb d_Code_isFieldShaped_40 (by decide) ?_
    refine lv_icmp_ne (tgt := 49) hx hb d_Code_isFieldShaped_42 (by decide) (fun c3 => ?_) (fun c3 => ?_)
    · have h := if_f c3 h
      refine lv_iconst (v := 0) hx hb d_Code_isFieldShaped_49 (by decide) ?_
      exact me_retz (me_kp M0) h (by decide) hx hb hr hlocks hwf hkp hP hK hD hS d_Code_isFieldShaped_50
    have h := if_t c3 h
    refine lv_iconst (v := 1) hx hb d_Code_isFieldShaped_45 (by decide) ?_
    refine lv_goto (tgt := 50) hx hb d_Code_isFieldShaped_46 (by decide) ?_
    exact me_retz (me_kp M0) h (by decide) hx hb hr hlocks hwf hkp hP hK hD hS d_Code_isFieldShaped_50
  refine lv_aload_n hx hb d_Code_isFieldShaped_0 rfl (lv_at hl 0 rfl) ?_
  refine g_Code_12 hx hb hts hown hK hP hwf hj0 (hts _ u_261) d_Code_isFieldShaped_1 ?_
  refine lv_bipush (v := 14) hx hb d_Code_isFieldShaped_4 (by decide) ?_
  refine lv_icmp_eq (tgt := 18) hx hb d_Code_isFieldShaped_6 (by decide) (fun c4 => ?_) (fun c4 => ?_)
  · have h := if_t c4 h
    exact b_18 M0 _ _ _ h hwf hkp hP hD hS (lv_sub hl [0] rfl)
  have h := if_f c4 h
  refine lv_aload_n hx hb d_Code_isFieldShaped_9 rfl (lv_at hl 0 rfl) ?_
  refine g_Code_12 hx hb hts hown hK hP hwf hj0 (hts _ u_261) d_Code_isFieldShaped_10 ?_
  refine lv_bipush (v := 13) hx hb d_Code_isFieldShaped_13 (by decide) ?_
  refine lv_icmp_ne (tgt := 51) hx hb d_Code_isFieldShaped_15 (by decide) (fun c5 => ?_) (fun c5 => ?_)
  · have h := if_f c5 h
    refine lv_aload_n hx hb d_Code_isFieldShaped_51 rfl (lv_at hl 0 rfl) ?_
    refine g_Code_12 hx hb hts hown hK hP hwf hj0 (hts _ u_261) d_Code_isFieldShaped_52 ?_
    refine lv_bipush (v := 11) hx hb d_Code_isFieldShaped_55 (by decide) ?_
    refine lv_icmp_ne (tgt := 67) hx hb d_Code_isFieldShaped_57 (by decide) (fun c6 => ?_) (fun c6 => ?_)
    · have h := if_f c6 h
      refine lv_iconst (v := 1) hx hb d_Code_isFieldShaped_67 (by decide) ?_
      refine lv_goto (tgt := 72) hx hb d_Code_isFieldShaped_68 (by decide) ?_
      exact me_retz (me_kp M0) h (by decide) hx hb hr hlocks hwf hkp hP hK hD hS d_Code_isFieldShaped_72
    have h := if_t c6 h
    refine lv_aload_n hx hb d_Code_isFieldShaped_60 rfl (lv_at hl 0 rfl) ?_
    refine g_Code_9 hx hb hts hown hK hP hwf hj0 (hts _ u_247) d_Code_isFieldShaped_61 ?_
    refine lv_if_ne (tgt := 71) hx hb d_Code_isFieldShaped_64 (by decide) (fun c7 => ?_) (fun c7 => ?_)
    · have h := if_f c7 h
      refine lv_iconst (v := 0) hx hb d_Code_isFieldShaped_71 (by decide) ?_
      exact me_retz (me_kp M0) h (by decide) hx hb hr hlocks hwf hkp hP hK hD hS d_Code_isFieldShaped_72
    have h := if_t c7 h
    refine lv_iconst (v := 1) hx hb d_Code_isFieldShaped_67 (by decide) ?_
    refine lv_goto (tgt := 72) hx hb d_Code_isFieldShaped_68 (by decide) ?_
    exact me_retz (me_kp M0) h (by decide) hx hb hr hlocks hwf hkp hP hK hD hS d_Code_isFieldShaped_72
  have h := if_t c5 h
  exact b_18 M0 _ _ _ h hwf hkp hP hD hS (lv_sub hl [0] rfl)
