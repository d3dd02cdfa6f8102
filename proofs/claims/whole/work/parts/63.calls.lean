section MED
variable {p : Program} {l : Launch} {e : Env} {R : Room} {s : State} {m : MethodId} {args : Array Value} {below : List Frame} {meth : Method} {c : Code} {H : Heap} {locs : List Loc} {cells slots : Nat} {Q : State → Prop}
variable {cc : ByteArray} {pc nL maxL index : Nat} {ls : Array Slot} {D : va_G} {A : Nat → Prop} {H0 : Heap} {y : MethodName} {bytes : ByteArray} {ret : Option FieldType} {rm : Room} {own : String} {As rest st : List Value} {Qc : Array Value → State → Outcome → State → Prop} {free : Addr → Prop}
variable {ad : Nat → Nat → Nat} {ca : Nat → ClassId} {M M1 : me_M} {N : Nat → Nat}
theorem me_runS (S : CallFix p m c cc nL s args fg_g own) (hM : Met l y (fg_w y bytes maxL ret) rm (va_Pc As (fz_P D (me_T ca) (me_W ad ca M) H.size)) Qc rm.cells rm.slots free)
    (hy : fg_nm y As.length) (hl : Cond.methodLink own index y ∈ fg_g) (hs : Cond.static y ∈ fg_g) (hini : Cond.initialized y.cls ∈ fg_g) (hcode : Cond.code y bytes maxL ret ∈ fg_g) (hR : fg_rm rm R maxL)
    (hX : fg_X s) (hz : fz_Z A s s.heap) (hK : va_K D classes (me_T ca) s) (hP : va_P D classes (me_W ad ca M) H) (hD : va_D A (me_W ad ca M)) (hS : va_S A s.heap H locs) (hA : ∀ q : Nat, s.heap.size ≤ q → A q) (hst : st = As.reverse ++ rest) (hsize : ls.size = nL) (hW : (rest.map fun v => v.category).sum ≤ 8) (hdg : decode cc pc = .ok (.invokestatic index, 3)) (hf : cells + rm.cells ≤ R.cells ∧ slots + rm.slots ≤ R.slots) :
    va_Run p l e R s m args below meth c H locs cells slots rm.cells rm.slots (F0 m pc ls st) rest (Qc As.toArray) free :=
  fz_runS S hM hy hl hs hini hcode hR hX hP hK hD (me_zat hz hD hS hA) hst hsize hW hdg hf
theorem me_copyb {j0 j1 : Nat} {sp dp n : Int32} (he : M1 = wA M 14 j1 (va_cpy (mI M 14 j0) (mI M 14 j1) sp.toNatClampNeg dp.toNatClampNeg n.toNatClampNeg)) (hexec : p.tables.exec = Jvm.exec) (hb : c.code = cc) (hml : c.maxLocals = ls.size) (hown : s.vm.findClass own = some m.cls) (hlink : (Cond.methodLink own index arraycopyName).before args s = true) (hnat : (Cond.native arraycopyName).before args s = true) (hstat : (Cond.static arraycopyName).before args s = true) (hini : (Cond.initialized "java/lang/System").before args s = true)
    (hK : va_K D classes (me_T ca) s) (hP : va_P D classes (me_W ad ca M) H) (hD : va_D A (me_W ad ca M)) (hwf : me_wf N M) (hS : va_S A H0 H locs) (hj0 : j0 < N 14) (hj1 : j1 < N 14) (hg : ¬ sp < 0 ∧ ¬ dp < 0 ∧ ¬ n < 0 ∧ sp.toNatClampNeg + n.toNatClampNeg ≤ mZ M 14 j0 ∧ dp.toNatClampNeg + n.toNatClampNeg ≤ mZ M 14 j1)
    (hframes : 1 ≤ R.frames) (hlocals : (rest.map fun v => v.category).sum + (nativeFrameWords "java/lang/System" "arraycopy" 5 + 11) ≤ R.locals) (hdg : decode cc pc = .ok (.invokestatic index, 3))
    (kk : ∀ (H1 : Heap) (locs1 : List Loc), va_P D classes (me_W ad ca M1) H1 → va_D A (me_W ad ca M1) → me_wf N M1 → va_S A H0 H1 locs1 → W p l e R s m args below meth c H1 locs1 cells slots Q (F0 m (pc + 3) ls rest)) : W p l e R s m args below meth c H locs cells slots Q (F0 m pc ls (.int n :: .int dp :: .ref (ad 14 j1) :: .int sp :: .ref (ad 14 j0) :: rest)) := by
  obtain ⟨q0, h0, -⟩ := me_arr (A := A) (ad := ad) (ca := ca) hwf (k := 14) (j := j0) (by decide) (by decide) hj0
  obtain ⟨q1, h1, h2⟩ := me_arr (A := A) (ad := ad) (ca := ca) hwf (k := 14) (j := j1) (by decide) (by decide) hj1
  subst he
  refine va_copyi hexec hb hml hown hlink hnat hstat hini hK hP hD hS q0 q1 1 1 h0 h1 rfl rfl rfl hg.1 hg.2.1 hg.2.2.1 hg.2.2.2.1 hg.2.2.2.2 (fun i _ => hwf.2.2.1 j0 _) hframes hlocals hdg (fun H1 locs1 a1 a2 a3 => ?_)
  have h3 := h2 hD (wA M 14 j1 (va_cpy (mI M 14 j0) (mI M 14 j1) sp.toNatClampNeg dp.toNatClampNeg n.toNatClampNeg)) rfl (fun a b h => me_wAE h) rfl (.inl (va_cpy (mI M 14 j0) (mI M 14 j1) sp.toNatClampNeg dp.toNatClampNeg n.toNatClampNeg)) (by
    show Sum.inl (if 14 = 14 ∧ j1 = j1 then _ else _) = _
    rw [if_pos ⟨rfl, rfl⟩])
  rw [h3] at a1 a2
  refine kk H1 locs1 a1 a2 (me_wfA hwf (fun _ i => ?_) (fun f z => absurd z (by simp [me_bz, me_bzt]))) a3
  unfold va_cpy
  split
  · exact hwf.2.2.1 j0 _
  · exact hwf.2.2.1 j1 _
end MED
section MEX
variable {p : Program} {l : Launch} {e : Env} {R : Room} {s : State} {m : MethodId} {args : Array Value} {below : List Frame} {meth : Method} {c : Code} {H : Heap} {locs : List Loc} {mc ms : Nat}
variable {cc : ByteArray} {pc : Nat} {ls : Array Slot} {D : va_G} {A : Nat → Prop} {tys : fg_T} {ad : Nat → Nat → Nat} {ca : Nat → ClassId} {M MZ : me_M} {N : Nat → Nat}
theorem me_K0 (hK : va_K D classes tys s) : va_K D classes [] s := hK.sub (tys' := []) [] rfl
theorem me_retv (K : me_M → Prop) (h : some M = some MZ) (hx : p.tables.exec = Jvm.exec) (hb : c.code = cc) (hr : meth.sig.returnType = none) (hlocks : meth.locks = false) (hwf : me_wf N M) (hkp : K M) (hP : va_P D classes (me_W ad ca M) H) (hK : va_K D classes tys s) (hD : va_D A (me_W ad ca M)) (hS : va_S A s.heap H locs) (hdg : decode cc pc = .ok (.return_, 1)) : W p l e R s m args below meth c H locs 0 0 (MQ below (va_Qv (fun (_ : Unit) => me_wf N MZ ∧ K MZ) (fg_B D A (fun _ => me_W ad ca MZ) (fun _ => [])) A) args s mc ms A) (F0 m pc ls []) := by
  cases h
  exact fg_retv () hx hb hr hlocks ⟨hwf, hkp⟩ hP (me_K0 hK) hD hS (Nat.zero_le _) (Nat.zero_le _) hdg
theorem me_reti (K : me_M → Prop) {v RZ : Int32} (h : some (M, v) = some (MZ, RZ)) (hx : p.tables.exec = Jvm.exec) (hb : c.code = cc) (hr : meth.sig.returnType = some .int) (hlocks : meth.locks = false) (hwf : me_wf N M) (hkp : K M) (hP : va_P D classes (me_W ad ca M) H) (hK : va_K D classes tys s) (hD : va_D A (me_W ad ca M)) (hS : va_S A s.heap H locs) (hdg : decode cc pc = .ok (.ireturn, 1)) : W p l e R s m args below meth c H locs 0 0 (MQ below (va_Qi (fun r (_ : Unit) => r = RZ ∧ me_wf N MZ ∧ K MZ) (fg_B D A (fun _ => me_W ad ca MZ) (fun _ => [])) A) args s mc ms A) (F0 m pc ls [.int v]) := by
  cases h
  exact fg_reti () hx hb hr hlocks ⟨rfl, hwf, hkp⟩ hP (me_K0 hK) hD hS (Nat.zero_le _) (Nat.zero_le _) hdg
theorem me_retz (K : me_M → Prop) {v RZ : Int32} (h : some (M, v) = some (MZ, RZ)) (hz : v = 1 ∨ v = 0) (hx : p.tables.exec = Jvm.exec) (hb : c.code = cc) (hr : meth.sig.returnType = some .boolean) (hlocks : meth.locks = false) (hwf : me_wf N M) (hkp : K M) (hP : va_P D classes (me_W ad ca M) H) (hK : va_K D classes tys s) (hD : va_D A (me_W ad ca M)) (hS : va_S A s.heap H locs) (hdg : decode cc pc = .ok (.ireturn, 1)) : W p l e R s m args below meth c H locs 0 0 (MQ below (va_Qi (fun r (_ : Unit) => r = RZ ∧ me_wf N MZ ∧ K MZ ∧ (RZ = 1 ∨ RZ = 0)) (fg_B D A (fun _ => me_W ad ca MZ) (fun _ => [])) A) args s mc ms A) (F0 m pc ls [.int v]) := by
  cases h
  exact fg_retz () hx hb hr hlocks (me_nz hz) ⟨rfl, hwf, hkp, hz⟩ hP (me_K0 hK) hD hS (Nat.zero_le _) (Nat.zero_le _) hdg
theorem me_retl (K : me_M → Prop) {v RZ : Int64} (h : some (M, v) = some (MZ, RZ)) (hx : p.tables.exec = Jvm.exec) (hb : c.code = cc) (hr : meth.sig.returnType = some .long) (hlocks : meth.locks = false) (hwf : me_wf N M) (hkp : K M) (hP : va_P D classes (me_W ad ca M) H) (hK : va_K D classes tys s) (hD : va_D A (me_W ad ca M)) (hS : va_S A s.heap H locs) (hdg : decode cc pc = .ok (.lreturn, 1)) : W p l e R s m args below meth c H locs 0 0 (MQ below (va_Ql (fun r (_ : Unit) => r = RZ ∧ me_wf N MZ ∧ K MZ) (fg_B D A (fun _ => me_W ad ca MZ) (fun _ => [])) A) args s mc ms A) (F0 m pc ls [.long v]) := by
  cases h
  exact fg_retl () hx hb hr hlocks ⟨rfl, hwf, hkp⟩ hP (me_K0 hK) hD hS (Nat.zero_le _) (Nat.zero_le _) hdg
theorem me_retr (K : me_M → Prop) {k v RZ : Nat} {n : String} (h : some (M, v) = some (MZ, RZ)) (hv : v < N k) (hx : p.tables.exec = Jvm.exec) (hb : c.code = cc) (hr : meth.sig.returnType = some (.object n)) (hlocks : meth.locks = false) (hwf : me_wf N M) (hkp : K M) (hP : va_P D classes (me_W ad ca M) H) (hK : va_K D classes tys s) (hD : va_D A (me_W ad ca M)) (hS : va_S A s.heap H locs) (hdg : decode cc pc = .ok (.areturn, 1)) : W p l e R s m args below meth c H locs 0 0 (MQ below (va_Qq (fun r (_ : Unit) => r = some (ad k RZ) ∧ me_wf N MZ ∧ K MZ ∧ RZ < N k) (fg_B D A (fun _ => me_W ad ca MZ) (fun _ => [])) A) args s mc ms A) (F0 m pc ls [.ref (ad k v)]) := by
  cases h
  exact fk_retr () hx hb hr hlocks ⟨rfl, hwf, hkp, hv⟩ hP (me_K0 hK) hD hS (Nat.zero_le _) (Nat.zero_le _) hdg
theorem me_retiX (K : me_M → Prop) {v RZ : Int32} (h : some (M, v, 0) = some (MZ, RZ, 0)) (hx : p.tables.exec = Jvm.exec) (hb : c.code = cc) (hr : meth.sig.returnType = some .int) (hlocks : meth.locks = false) (hwf : me_wf N M) (hkp : K M) (hP : va_P D classes (me_W ad ca M) H) (hK : va_K D classes tys s) (hD : va_D A (me_W ad ca M)) (hS : va_S A s.heap H locs) (hdg : decode cc pc = .ok (.ireturn, 1)) : W p l e R s m args below meth c H locs 0 0 (MQ below (va_Qi (fun r (_ : Unit) => r = RZ ∧ me_wf N MZ ∧ K MZ) (fg_B D A (fun _ => me_W ad ca MZ) (fun _ => [])) A) args s mc ms A) (F0 m pc ls [.int v]) := by
  cases h
  exact fg_reti () hx hb hr hlocks ⟨rfl, hwf, hkp⟩ hP (me_K0 hK) hD hS (Nat.zero_le _) (Nat.zero_le _) hdg
theorem me_retlX (K : me_M → Prop) {v RZ : Int64} (h : some (M, v, 0) = some (MZ, RZ, 0)) (hx : p.tables.exec = Jvm.exec) (hb : c.code = cc) (hr : meth.sig.returnType = some .long) (hlocks : meth.locks = false) (hwf : me_wf N M) (hkp : K M) (hP : va_P D classes (me_W ad ca M) H) (hK : va_K D classes tys s) (hD : va_D A (me_W ad ca M)) (hS : va_S A s.heap H locs) (hdg : decode cc pc = .ok (.lreturn, 1)) : W p l e R s m args below meth c H locs 0 0 (MQ below (va_Ql (fun r (_ : Unit) => r = RZ ∧ me_wf N MZ ∧ K MZ) (fg_B D A (fun _ => me_W ad ca MZ) (fun _ => [])) A) args s mc ms A) (F0 m pc ls [.long v]) := by
  cases h
  exact fg_retl () hx hb hr hlocks ⟨rfl, hwf, hkp⟩ hP (me_K0 hK) hD hS (Nat.zero_le _) (Nat.zero_le _) hdg
theorem me_sub {α : Type} (K : me_M → Prop) {x y : α} (h : some (M, x) = some (MZ, y)) (hwf : me_wf N M) (hkp : K M) (hP : va_P D classes (me_W ad ca M) H) (hD : va_D A (me_W ad ca M)) : me_wf N MZ ∧ K MZ ∧ va_P D classes (me_W ad ca MZ) H ∧ va_D A (me_W ad ca MZ) := by
  cases h
  exact ⟨hwf, hkp, hP, hD⟩
theorem me_preti {v RZ : Int32} (h : some v = some RZ) (hx : p.tables.exec = Jvm.exec) (hb : c.code = cc) (hr : meth.sig.returnType = some .int) (hlocks : meth.locks = false) (hK : va_K D classes tys s) (hS : va_S A s.heap H locs) (hdg : decode cc pc = .ok (.ireturn, 1)) : W p l e R s m args below meth c H locs 0 0 (MQ below (va_Qi (fun r (_ : Unit) => r = RZ ∧ True) (fg_B D A (fun _ => []) (fun _ => [])) A) args s mc ms A) (F0 m pc ls [.int v]) := by
  cases h
  exact fg_reti () hx hb hr hlocks ⟨rfl, trivial⟩ me_P0 (me_K0 hK) me_D0 hS (Nat.zero_le _) (Nat.zero_le _) hdg
theorem me_pretz {v RZ : Int32} (h : some v = some RZ) (hz : v = 1 ∨ v = 0) (hx : p.tables.exec = Jvm.exec) (hb : c.code = cc) (hr : meth.sig.returnType = some .boolean) (hlocks : meth.locks = false) (hK : va_K D classes tys s) (hS : va_S A s.heap H locs) (hdg : decode cc pc = .ok (.ireturn, 1)) : W p l e R s m args below meth c H locs 0 0 (MQ below (va_Qi (fun r (_ : Unit) => r = RZ ∧ (RZ = 1 ∨ RZ = 0)) (fg_B D A (fun _ => []) (fun _ => [])) A) args s mc ms A) (F0 m pc ls [.int v]) := by
  cases h
  exact fg_retz () hx hb hr hlocks (me_nz hz) ⟨rfl, hz⟩ me_P0 (me_K0 hK) me_D0 hS (Nat.zero_le _) (Nat.zero_le _) hdg
theorem me_pretl {v RZ : Int64} (h : some v = some RZ) (hx : p.tables.exec = Jvm.exec) (hb : c.code = cc) (hr : meth.sig.returnType = some .long) (hlocks : meth.locks = false) (hK : va_K D classes tys s) (hS : va_S A s.heap H locs) (hdg : decode cc pc = .ok (.lreturn, 1)) : W p l e R s m args below meth c H locs 0 0 (MQ below (va_Ql (fun r (_ : Unit) => r = RZ ∧ True) (fg_B D A (fun _ => []) (fun _ => [])) A) args s mc ms A) (F0 m pc ls [.long v]) := by
  cases h
  exact fg_retl () hx hb hr hlocks ⟨rfl, trivial⟩ me_P0 (me_K0 hK) me_D0 hS (Nat.zero_le _) (Nat.zero_le _) hdg
end MEX
