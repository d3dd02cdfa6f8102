/-! Rows of this place: one form for every contract, for calls, for returns. -/
/-- the words of the tables that are carried beside them -/
def fg_oth : Cond → Bool
  | .methodLinkNest .. => true
  | .fieldLinkNest .. => true
  | .castable .. => true
  | .declares .. => true
  | .arrayOver (.object _) => true
  | .not (.castable _ _) => true
  | .superclass .. => true
  | _ => false
def fg_X (U : State) : Prop := ∀ w ∈ lw_tbl, fg_oth w = true → w.before #[] U = true
theorem fg_ncast {C T : String} {U : State} (h : va_Nc C T U) : (Cond.not (.castable C T)).before #[] U = true := by
  obtain ⟨c, t, h1, h2, h3⟩ := h
  simp only [Cond.before, Cond.holds, Cond.value]
  simp [h1, h2, h3]
theorem fg_super {A : Array Value} {C T : String} {s U : State} (hvm : s.vm.Alike U.vm) (h : (Cond.superclass C T).before A s = true) : (Cond.superclass C T).before #[] U = true := by
  cases hc : s.vm.findClass C with
  | none => simp [Cond.before, Cond.holds, Cond.value, hc] at h
  | some c =>
    obtain ⟨p, k, kp, h1, h2, h3, h4, h5, h6, h7⟩ := Cond.superclass_spec hc h
    obtain ⟨k', hk', ek⟩ := hvm.2.2 _ _ h2
    obtain ⟨q', hq', eq⟩ := hvm.2.2 _ _ h3
    have f1 : U.vm.findClass C = some c := by rw [hvm.findClass]; exact hc
    have f2 : U.vm.findClass T = some p := by rw [hvm.findClass]; exact h1
    have g1 : k'.super = some p := by rw [ek]; exact h4
    have g2 : k'.kind = .ordinary := by rw [ek]; exact h5
    have g3 : q'.kind = .ordinary := by rw [eq]; exact h6
    have g4 : k'.isInterface = false := by rw [ek]; exact h7
    simp [Cond.before, Cond.holds, Cond.value, f1, f2, hk', hq', g1, g2, g3, g4]
theorem fg_X.warm {s U : State} (hW : s.WarmedH U.vm) (h : fg_X s) : fg_X U := by
  intro w hw ho
  have h1 := h w hw ho
  match w, ho with
  | .methodLinkNest .., _ => exact va_Nw.warmM hW h1
  | .fieldLinkNest .., _ => exact va_Nw.warmF hW h1
  | .castable .., _ => exact va_Nw.warmC hW h1
  | .declares .., _ => exact va_Nw.warmD hW h1
  | .arrayOver (.object C), _ => exact va_AO.moved hW.alike h1
  | .not (.castable C T), _ => exact fg_ncast ((va_Nc.of h1).moved hW.alike)
  | .superclass .., _ => exact fg_super hW.alike h1
theorem fg_X.calling {a : Array Value} {U : State} {g : JFrame} {mk : MethodId} (h : fg_X U) : fg_X (U.calling g mk a) := fg_X.warm (U := U.calling g mk a) (State.WarmedH.refl U) h
/-- of the tables' words, as the statement gives them -/
theorem fg_X.of {args : Array Value} {s : State} (hts : ∀ w ∈ lw_tbl, w.before args s = true) : fg_X s := by
  intro w hw ho
  have h1 := hts w hw
  match w, ho with
  | .methodLinkNest .., _ => exact va_Nw.of rfl h1
  | .fieldLinkNest .., _ => exact va_Nw.of rfl h1
  | .castable .., _ => exact va_Nw.of rfl h1
  | .declares .., _ => exact va_Nw.of rfl h1
  | .arrayOver (.object C), _ => exact va_AO.of h1
  | .not (.castable C T), _ => exact fg_ncast (va_Nc.of h1)
  | .superclass .., _ => exact fg_super (Vm.Alike.refl s.vm) h1
/-- the words of a method without handlers: its own code, and all that the tables say -/
abbrev fg_w (y : MethodName) (b : ByteArray) (n : Nat) (r : Option FieldType) : List Cond := Cond.code y b n r :: fg_g
abbrev fg_T : Type := List (ClassId × FieldType)
/-- a method's start: its cells, apart, and the tables -/
abbrev fg_P (D : va_G) (tys : fg_T) (ws : va_W) (sz : Nat) : State → Prop := fun U => U.heap.size = sz ∧ va_P D classes ws U.heap ∧ va_K D classes tys U ∧ va_D (fun _ => True) ws ∧ fg_X U
/-- its end: the cells of w1 -/
abbrev fg_B (D : va_G) (A : Nat → Prop) {S : Type} (w1 : S → va_W) (t1 : S → fg_T) : S → State → Prop := fun u t => va_P D classes (w1 u) t.heap ∧ va_K D classes (t1 u) t ∧ va_D A (w1 u)
theorem fg_good : ∀ w ∈ fg_g, (w.onTables && w.keeps) = true ∨ ∃ ty, w = .arrayClass ty := fun w hw => good_of_word (List.mem_filter.mp hw).2
theorem fg_gin {y : MethodName} {b : ByteArray} {n : Nat} {r : Option FieldType} (h : Cond.code y b n r ∈ fg_g) : GoodIn fg_g (fg_w y b n r) := by
  intro w hw
  rcases List.mem_cons.mp hw with e | e
  · exact e ▸ ⟨h, fg_good _ h⟩
  · exact ⟨e, fg_good _ e⟩
theorem fg_blind {D : va_G} {tys : fg_T} {ws : va_W} {sz : Nat} {av : List Value} : FrameBlind (va_Pc av (fg_P D tys ws sz)) := by
  intro a U g mk h
  obtain ⟨h1, h2, h3, h4, h5, h6⟩ := h
  exact ⟨h1, h2, h3, va_K.moved (u := U) (U := U.calling g mk a) (Vm.Alike.refl U.vm) h4, h5, h6.calling⟩
/-- into a method: its contract out of the walk of its body -/
theorem fg_enter {l : Launch} {y : MethodName} {cc : ByteArray} {nL : Nat} {ret : Option FieldType} {rm : Room} {av : List Value} {ws : va_W} {tys : fg_T} {D : va_G} {sz mc ms : Nat}
    (QA : (Nat → Prop) → Array Value → State → Outcome → State → Prop) (hy : plainName y.cls = true) (hn : (lg_sl av).length ≤ nL)
    (body : ∀ (p : Program) (e : Env) (s : State) (m : MethodId) (below : List Frame) (meth : Method) (c : Code) (ls : Array Slot) (A : Nat → Prop), p.tables.exec = Jvm.exec → c.code = cc → c.maxLocals = nL → s.vm.findClass y.cls = some m.cls → (∀ w ∈ fg_g, w.before av.toArray s = true) → meth.sig.returnType = ret → meth.locks = false → meth.name = y.name → va_P D classes ws s.heap → va_K D classes tys s → va_D A ws → va_S A s.heap s.heap [] → (∀ q : Nat, s.heap.size ≤ q → A q) → fg_X s → lv_has ls nL (lv_args 0 av) →
      W p l e rm s m av.toArray below meth c s.heap [] 0 0 (MQ below (QA A) av.toArray s mc ms A) (F0 m 0 ls [])) :
    Met l y (fg_w y cc nL ret) rm (va_Pc av (fg_P D tys ws sz)) (QA (va_A ws sz)) mc ms (va_A ws sz) := by
  refine Met.ofW (cc := cc) (maxL := nL) (ret := ret) hy rfl ?_
  intro p e s m args below meth c s₁ B hml hv
  obtain ⟨rfl, hsz, hP, hK, hD0, hX⟩ := hv
  have hts := atoms_spec (ws := fg_w y cc nL ret) B.pre
  have hl := lv_entry av (n := nL) hn
  subst hsz
  rw [lg_entry_eq]
  exact body p e s m below meth c _ _ B.exec B.bytes hml (findClass_of_methodNamed B.named) (fun w hw => hts w (List.mem_cons_of_mem _ hw)) B.returns B.notSynchronized (name_of_methodNamed B.named B.method).1 hP hK hD0.self va_S.rf (fun q h => Or.inr h) hX hl
section FGR
variable {p : Program} {l : Launch} {e : Env} {R : Room} {s : State} {m : MethodId} {args : Array Value} {below : List Frame} {meth : Method} {c : Code} {H : Heap} {locs : List Loc} {cells slots mc ms : Nat}
variable {cc : ByteArray} {pc : Nat} {ls : Array Slot} {D : va_G} {A : Nat → Prop} {S : Type} {w1 : S → va_W} {t1 : S → fg_T}
theorem fg_reti {post : Int32 → S → Prop} {v : Int32} (u : S) (hx : p.tables.exec = Jvm.exec) (hb : c.code = cc) (hr : meth.sig.returnType = some .int) (hlocks : meth.locks = false) (hp : post v u) (hP : va_P D classes (w1 u) H) (hK : va_K D classes (t1 u) s) (hD : va_D A (w1 u)) (hS : va_S A s.heap H locs) (hc : cells ≤ mc) (hs : slots ≤ ms) (hdg : decode cc pc = .ok (.ireturn, 1)) : W p l e R s m args below meth c H locs cells slots (MQ below (va_Qi post (fg_B D A w1 t1) A) args s mc ms A) (F0 m pc ls [.int v]) :=
  W.widen hc hs (W.iret hx hb hr (fun t ht hW => ⟨⟨v, u, rfl, hp, by rw [ht]; exact hP, va_K.moved hW.alike hK, hD⟩, hS.F ht⟩) hS.2.2 hdg hlocks)
theorem fg_retz {post : Int32 → S → Prop} {v : Int32} (u : S) (hx : p.tables.exec = Jvm.exec) (hb : c.code = cc) (hr : meth.sig.returnType = some .boolean) (hlocks : meth.locks = false) (hz : narrow .boolean (.int v) = .int v) (hp : post v u) (hP : va_P D classes (w1 u) H) (hK : va_K D classes (t1 u) s) (hD : va_D A (w1 u)) (hS : va_S A s.heap H locs) (hc : cells ≤ mc) (hs : slots ≤ ms) (hdg : decode cc pc = .ok (.ireturn, 1)) : W p l e R s m args below meth c H locs cells slots (MQ below (va_Qi post (fg_B D A w1 t1) A) args s mc ms A) (F0 m pc ls [.int v]) :=
  W.widen hc hs (W.zret hx hb hr hz (fun t ht hW => ⟨⟨v, u, rfl, hp, by rw [ht]; exact hP, va_K.moved hW.alike hK, hD⟩, hS.F ht⟩) hS.2.2 hdg hlocks)
theorem fg_retl {post : Int64 → S → Prop} {v : Int64} (u : S) (hx : p.tables.exec = Jvm.exec) (hb : c.code = cc) (hr : meth.sig.returnType = some .long) (hlocks : meth.locks = false) (hp : post v u) (hP : va_P D classes (w1 u) H) (hK : va_K D classes (t1 u) s) (hD : va_D A (w1 u)) (hS : va_S A s.heap H locs) (hc : cells ≤ mc) (hs : slots ≤ ms) (hdg : decode cc pc = .ok (.lreturn, 1)) : W p l e R s m args below meth c H locs cells slots (MQ below (va_Ql post (fg_B D A w1 t1) A) args s mc ms A) (F0 m pc ls [.long v]) :=
  W.widen hc hs (W.lret hx hb hr (fun t ht hW => ⟨⟨v, u, rfl, hp, by rw [ht]; exact hP, va_K.moved hW.alike hK, hD⟩, hS.F ht⟩) hS.2.2 hdg hlocks)
theorem fg_retv {post : S → Prop} (u : S) (hx : p.tables.exec = Jvm.exec) (hb : c.code = cc) (hr : meth.sig.returnType = none) (hlocks : meth.locks = false) (hp : post u) (hP : va_P D classes (w1 u) H) (hK : va_K D classes (t1 u) s) (hD : va_D A (w1 u)) (hS : va_S A s.heap H locs) (hc : cells ≤ mc) (hs : slots ≤ ms) (hdg : decode cc pc = .ok (.return_, 1)) : W p l e R s m args below meth c H locs cells slots (MQ below (va_Qv post (fg_B D A w1 t1) A) args s mc ms A) (F0 m pc ls []) :=
  W.widen hc hs (W.vret hx hb hr (fun t ht hW => ⟨⟨u, rfl, hp, by rw [ht]; exact hP, va_K.moved hW.alike hK, hD⟩, hS.F ht⟩) hS.2.2 hdg hlocks)
end FGR
theorem fg_lt {k n : Nat} {x : Int32} (hx : x = nI n) (hn : n < 2 ^ 31) (hk : k ≤ n) (h : ¬ x ≤ nI k) : k < n := by
  rcases Nat.lt_or_ge k n with q | q
  · exact q
  · exact absurd (by rw [hx]; exact nI_le q (by omega)) h
section FGN
variable {p : Program} {l : Launch} {e : Env} {R : Room} {s : State} {m : MethodId} {args : Array Value} {below : List Frame} {meth : Method} {c : Code} {H : Heap} {locs : List Loc} {cells slots : Nat} {Q : State → Prop} {pc : Nat} {ls : Array Slot} {rest : List Value}
theorem fg_topi {x y : Int32} (h : x = y) (k : W p l e R s m args below meth c H locs cells slots Q (F0 m pc ls (.int y :: rest))) : W p l e R s m args below meth c H locs cells slots Q (F0 m pc ls (.int x :: rest)) := h ▸ k
theorem fg_topl {x y : Int64} (h : x = y) (k : W p l e R s m args below meth c H locs cells slots Q (F0 m pc ls (.long y :: rest))) : W p l e R s m args below meth c H locs cells slots Q (F0 m pc ls (.long x :: rest)) := h ▸ k
end FGN
section FGC
variable {p : Program} {l : Launch} {e : Env} {R : Room} {s : State} {m : MethodId} {args : Array Value} {below : List Frame} {meth : Method} {c : Code} {H : Heap} {locs : List Loc} {cells slots : Nat} {Q : State → Prop}
variable {cc : ByteArray} {pc nL maxL index : Nat} {ls : Array Slot} {D : va_G} {A A2 : Nat → Prop} {y : MethodName} {bytes : ByteArray} {ret : Option FieldType} {rm : Room} {own : String} {b : Nat} {As rest st : List Value} {tc tys : fg_T} {wc ws wr : va_W} {Qc : Array Value → State → Outcome → State → Prop} {free : Addr → Prop}
/-- what a name must be for a call of n arguments -/
abbrev fg_nm (y : MethodName) (n : Nat) : Prop := y.cls ≠ "java/lang/invoke/MethodHandle" ∧ y.cls ≠ "java/lang/invoke/VarHandle" ∧ (parseMethodDescriptor y.desc).map (fun d => d.parameters.length) = some n
/-- the room of a callee -/
abbrev fg_rm (rm R : Room) (maxL : Nat) : Prop := rm.frames + 1 ≤ R.frames ∧ 8 + (maxL + 11) + rm.locals ≤ R.locals
/-- invokespecial of a constructor of another class that is not a nest mate's private one -/
theorem fg_runI (S : CallFix p m c cc nL s args fg_g own) (hM : Met l y (fg_w y bytes maxL none) rm (va_Pc (.ref b :: As) (fg_P D tc wc H.size)) Qc rm.cells rm.slots free)
    (hy1 : y.name = "<init>") (hy : fg_nm y As.length) (hl : Cond.methodLink own index y ∈ fg_g) (hin : Cond.instanceMethod y ∈ fg_g) (hini : Cond.initialized y.cls ∈ fg_g) (hcode : Cond.code y bytes maxL none ∈ fg_g) (hR : fg_rm rm R maxL)
    (hX : fg_X s) (hP : va_P D classes wc H) (hK : va_K D classes tc s) (hD : va_D A2 wc) (hst : st = As.reverse ++ .ref b :: rest) (hsize : ls.size = nL) (hW : (rest.map fun v => v.category).sum ≤ 8) (hdg : decode cc pc = .ok (.invokespecial index, 3)) (hf : cells + rm.cells ≤ R.cells ∧ slots + rm.slots ≤ R.slots) :
    va_Run p l e R s m args below meth c H locs cells slots rm.cells rm.slots (F0 m pc ls st) rest (Qc (Value.ref b :: As).toArray) free := by
  have hts := S.2.2.2.2
  exact va_runI (As := As) (rest := rest) S hM (cwI As.length hts (fg_gin hcode) rfl rfl rfl (hts _ hini) (hts _ hl) (hts _ hin) hy1 hy hR) ⟨fg_blind, fun U hU hWm => ⟨rfl, by rw [hU], by rw [hU]; exact hP, va_K.moved hWm.alike hK, hD.weaken (fun _ _ _ _ => trivial), hX.warm hWm⟩⟩ rfl rfl hsize hst (lv_room (rest := st) (pc := pc) (ls := ls) (m := m) hW) hdg hf
/-- the same, of a nest mate -/
theorem fg_runIN {host : String} (S : CallFix p m c cc nL s args fg_g own) (hM : Met l y (fg_w y bytes maxL none) rm (va_Pc (.ref b :: As) (fg_P D tc wc H.size)) Qc rm.cells rm.slots free)
    (hy1 : y.name = "<init>") (hy : fg_nm y As.length) (hl : Cond.methodLinkNest own index y host ∈ lw_tbl) (hin : Cond.instanceMethod y ∈ fg_g) (hini : Cond.initialized y.cls ∈ fg_g) (hcode : Cond.code y bytes maxL none ∈ fg_g) (hR : fg_rm rm R maxL)
    (hX : fg_X s) (hP : va_P D classes wc H) (hK : va_K D classes tc s) (hD : va_D A2 wc) (hst : st = As.reverse ++ .ref b :: rest) (hsize : ls.size = nL) (hW : (rest.map fun v => v.category).sum ≤ 8) (hdg : decode cc pc = .ok (.invokespecial index, 3)) (hf : cells + rm.cells ≤ R.cells ∧ slots + rm.slots ≤ R.slots) :
    va_Run p l e R s m args below meth c H locs cells slots rm.cells rm.slots (F0 m pc ls st) rest (Qc (Value.ref b :: As).toArray) free := by
  have hts := S.2.2.2.2
  exact va_runIN (As := As) (rest := rest) S hM ⟨va_cnB As.length hts (fg_gin hcode) rfl rfl rfl (hX _ hl rfl) (hts _ hini) hy hR, hy1, hts _ hin⟩ ⟨fg_blind, fun U hU hWm => ⟨rfl, by rw [hU], by rw [hU]; exact hP, va_K.moved hWm.alike hK, hD.weaken (fun _ _ _ _ => trivial), hX.warm hWm⟩⟩ rfl rfl hsize hst (lv_room (rest := st) (pc := pc) (ls := ls) (m := m) hW) hdg hf
/-- invokevirtual of a public or package method on an object of just that class -/
theorem fg_runV {C : String} (S : CallFix p m c cc nL s args fg_g own) (hM : Met l y (fg_w y bytes maxL ret) rm (va_Pc (.ref b :: As) (fg_P D tc wc H.size)) Qc rm.cells rm.slots free)
    (hC : y.cls = C) (hy : fg_nm y As.length) (hl : Cond.methodLink own index y ∈ fg_g) (hin : Cond.instanceMethod y ∈ fg_g) (hse : Cond.selects C y y ∈ fg_g) (hini : Cond.initialized C ∈ fg_g) (hcode : Cond.code y bytes maxL ret ∈ fg_g) (hR : fg_rm rm R maxL)
    (hX : fg_X s) (hP : va_P D classes wc H) (hK : va_K D classes tc s) (hD : va_D A2 wc) {q0 ci : Nat} {q : vw_C} {fs : List Value} (hc : classes[ci]? = some q) (hq : q.1 = C) (he : wc[q0]? = some (b, .inr (ci, fs))) (hst : st = As.reverse ++ .ref b :: rest) (hsize : ls.size = nL) (hW : (rest.map fun v => v.category).sum ≤ 8) (hdg : decode cc pc = .ok (.invokevirtual index, 3)) (hf : cells + rm.cells ≤ R.cells ∧ slots + rm.slots ≤ R.slots) :
    va_Run p l e R s m args below meth c H locs cells slots rm.cells rm.slots (F0 m pc ls st) rest (Qc (Value.ref b :: As).toArray) free := by
  have hts := S.2.2.2.2
  subst hq
  exact va_runV (C := q.1) (As := As) (rest := rest) S hM ⟨callB_of As.length hts (fg_gin hcode) rfl rfl rfl (by rw [hC]; exact hts _ hini) (hts _ hl) hy hR, hts _ hin, hts _ hse⟩ ⟨fg_blind, va_recv hK hP hc he, fun U hU hWm => ⟨rfl, by rw [hU], by rw [hU]; exact hP, va_K.moved hWm.alike hK, hD.weaken (fun _ _ _ _ => trivial), hX.warm hWm⟩⟩ rfl rfl hsize hst (lv_room (rest := st) (pc := pc) (ls := ls) (m := m) hW) hdg hf
/-- the same, of a nest mate's private method -/
theorem fg_runVN {C host : String} (S : CallFix p m c cc nL s args fg_g own) (hM : Met l y (fg_w y bytes maxL ret) rm (va_Pc (.ref b :: As) (fg_P D tc wc H.size)) Qc rm.cells rm.slots free)
    (hC : y.cls = C) (hy : fg_nm y As.length) (hl : Cond.methodLinkNest own index y host ∈ lw_tbl) (hin : Cond.instanceMethod y ∈ fg_g) (hse : Cond.selects C y y ∈ fg_g) (hini : Cond.initialized C ∈ fg_g) (hcode : Cond.code y bytes maxL ret ∈ fg_g) (hR : fg_rm rm R maxL)
    (hX : fg_X s) (hP : va_P D classes wc H) (hK : va_K D classes tc s) (hD : va_D A2 wc) {q0 ci : Nat} {q : vw_C} {fs : List Value} (hc : classes[ci]? = some q) (hq : q.1 = C) (he : wc[q0]? = some (b, .inr (ci, fs))) (hst : st = As.reverse ++ .ref b :: rest) (hsize : ls.size = nL) (hW : (rest.map fun v => v.category).sum ≤ 8) (hdg : decode cc pc = .ok (.invokevirtual index, 3)) (hf : cells + rm.cells ≤ R.cells ∧ slots + rm.slots ≤ R.slots) :
    va_Run p l e R s m args below meth c H locs cells slots rm.cells rm.slots (F0 m pc ls st) rest (Qc (Value.ref b :: As).toArray) free := by
  have hts := S.2.2.2.2
  subst hq
  exact va_runVN (C := q.1) (As := As) (rest := rest) S hM ⟨va_cnB As.length hts (fg_gin hcode) rfl rfl rfl (hX _ hl rfl) (by rw [hC]; exact hts _ hini) hy hR, hts _ hin, hts _ hse⟩ ⟨fg_blind, va_recv hK hP hc he, fun U hU hWm => ⟨rfl, by rw [hU], by rw [hU]; exact hP, va_K.moved hWm.alike hK, hD.weaken (fun _ _ _ _ => trivial), hX.warm hWm⟩⟩ rfl rfl hsize hst (lv_room (rest := st) (pc := pc) (ls := ls) (m := m) hW) hdg hf
/-- invokestatic -/
theorem fg_runS (S : CallFix p m c cc nL s args fg_g own) (hM : Met l y (fg_w y bytes maxL ret) rm (va_Pc As (fg_P D tc wc H.size)) Qc rm.cells rm.slots free)
    (hy : fg_nm y As.length) (hl : Cond.methodLink own index y ∈ fg_g) (hs : Cond.static y ∈ fg_g) (hini : Cond.initialized y.cls ∈ fg_g) (hcode : Cond.code y bytes maxL ret ∈ fg_g) (hR : fg_rm rm R maxL)
    (hX : fg_X s) (hP : va_P D classes wc H) (hK : va_K D classes tc s) (hD : va_D A2 wc) (hst : st = As.reverse ++ rest) (hsize : ls.size = nL) (hW : (rest.map fun v => v.category).sum ≤ 8) (hdg : decode cc pc = .ok (.invokestatic index, 3)) (hf : cells + rm.cells ≤ R.cells ∧ slots + rm.slots ≤ R.slots) :
    va_Run p l e R s m args below meth c H locs cells slots rm.cells rm.slots (F0 m pc ls st) rest (Qc As.toArray) free := by
  have hts := S.2.2.2.2
  exact va_runS (As := As) (rest := rest) S hM ⟨callB_of As.length hts (fg_gin hcode) rfl rfl rfl (hts _ hini) (hts _ hl) hy hR, hts _ hs⟩ ⟨fg_blind, fun U hU hWm => ⟨rfl, by rw [hU], by rw [hU]; exact hP, va_K.moved hWm.alike hK, hD.weaken (fun _ _ _ _ => trivial), hX.warm hWm⟩⟩ rfl rfl hsize hst (lv_room (rest := st) (pc := pc) (ls := ls) (m := m) hW) hdg hf
variable {mc ms : Nat} {S : Type} {w1 : S → va_W} {t1 : S → fg_T} {a : Array Value}
theorem fg_thenv {post : S → Prop} (hr : va_Run p l e R s m args below meth c H locs cells slots mc ms (F0 m pc ls st) rest (va_Qv post (fg_B D (va_A wc H.size) w1 t1) (va_A wc H.size) a) (va_A wc H.size))
    (hP : va_P D classes ws H) (hD : va_D A ws) (hK : va_K D classes tys s) (hS : va_S A s.heap H locs) (hA : ∀ q : Nat, s.heap.size ≤ q → A q) (isC isR : List Nat) (hC : isC.map (fun i => ws[i]?) = wc.map some) (hR : isR.map (fun i => ws[i]?) = wr.map some) (hn : va_nd isR = true) (hdis : ∀ i ∈ isR, i ∉ isC)
    (kk : ∀ (u : S) (H1 : Heap) (locs1 : List Loc), post u → va_P D classes (wr ++ w1 u) H1 → va_D A (wr ++ w1 u) → va_K D classes (tys ++ t1 u) s → va_S A s.heap H1 locs1 → W p l e R s m args below meth c H1 locs1 (cells + mc) (slots + ms) Q (F0 m (pc + 3) ls rest)) : W p l e R s m args below meth c H locs cells slots Q (F0 m pc ls st) := by
  have hFc := va_free (wc := wc) hD hS hA isC hC
  refine va_callv hr hS (fun q _ h => hFc q h) hFc (fun u t H1 locs1 ht hvm hw hB hz1 hk1 hS1 => ?_)
  obtain ⟨hP1, hK1, hD1⟩ := hB
  rw [ht] at hP1
  obtain ⟨hP2, hD2⟩ := va_join (wr := wr) hP hD isC isR hC hR hn hdis hk1 hFc hP1 hD1
  exact kk u H1 locs1 hw hP2 hD2 (hK.app (va_K.moved hvm.symm hK1)) hS1
theorem fg_theni {post : Int32 → S → Prop} (hr : va_Run p l e R s m args below meth c H locs cells slots mc ms (F0 m pc ls st) rest (va_Qi post (fg_B D (va_A wc H.size) w1 t1) (va_A wc H.size) a) (va_A wc H.size))
    (hP : va_P D classes ws H) (hD : va_D A ws) (hK : va_K D classes tys s) (hS : va_S A s.heap H locs) (hA : ∀ q : Nat, s.heap.size ≤ q → A q) (isC isR : List Nat) (hC : isC.map (fun i => ws[i]?) = wc.map some) (hR : isR.map (fun i => ws[i]?) = wr.map some) (hn : va_nd isR = true) (hdis : ∀ i ∈ isR, i ∉ isC)
    (kk : ∀ (r : Int32) (u : S) (H1 : Heap) (locs1 : List Loc), post r u → va_P D classes (wr ++ w1 u) H1 → va_D A (wr ++ w1 u) → va_K D classes (tys ++ t1 u) s → va_S A s.heap H1 locs1 → W p l e R s m args below meth c H1 locs1 (cells + mc) (slots + ms) Q (F0 m (pc + 3) ls (.int r :: rest))) : W p l e R s m args below meth c H locs cells slots Q (F0 m pc ls st) := by
  have hFc := va_free (wc := wc) hD hS hA isC hC
  refine va_calli hr hS (fun q _ h => hFc q h) hFc (fun r u t H1 locs1 ht hvm hw hB hz1 hk1 hS1 => ?_)
  obtain ⟨hP1, hK1, hD1⟩ := hB
  rw [ht] at hP1
  obtain ⟨hP2, hD2⟩ := va_join (wr := wr) hP hD isC isR hC hR hn hdis hk1 hFc hP1 hD1
  exact kk r u H1 locs1 hw hP2 hD2 (hK.app (va_K.moved hvm.symm hK1)) hS1
theorem fg_thenl {post : Int64 → S → Prop} (hr : va_Run p l e R s m args below meth c H locs cells slots mc ms (F0 m pc ls st) rest (va_Ql post (fg_B D (va_A wc H.size) w1 t1) (va_A wc H.size) a) (va_A wc H.size))
    (hP : va_P D classes ws H) (hD : va_D A ws) (hK : va_K D classes tys s) (hS : va_S A s.heap H locs) (hA : ∀ q : Nat, s.heap.size ≤ q → A q) (isC isR : List Nat) (hC : isC.map (fun i => ws[i]?) = wc.map some) (hR : isR.map (fun i => ws[i]?) = wr.map some) (hn : va_nd isR = true) (hdis : ∀ i ∈ isR, i ∉ isC)
    (kk : ∀ (r : Int64) (u : S) (H1 : Heap) (locs1 : List Loc), post r u → va_P D classes (wr ++ w1 u) H1 → va_D A (wr ++ w1 u) → va_K D classes (tys ++ t1 u) s → va_S A s.heap H1 locs1 → W p l e R s m args below meth c H1 locs1 (cells + mc) (slots + ms) Q (F0 m (pc + 3) ls (.long r :: rest))) : W p l e R s m args below meth c H locs cells slots Q (F0 m pc ls st) := by
  have hFc := va_free (wc := wc) hD hS hA isC hC
  refine va_calll hr hS (fun q _ h => hFc q h) hFc (fun r u t H1 locs1 ht hvm hw hB hz1 hk1 hS1 => ?_)
  obtain ⟨hP1, hK1, hD1⟩ := hB
  rw [ht] at hP1
  obtain ⟨hP2, hD2⟩ := va_join (wr := wr) hP hD isC isR hC hR hn hdis hk1 hFc hP1 hD1
  exact kk r u H1 locs1 hw hP2 hD2 (hK.app (va_K.moved hvm.symm hK1)) hS1
end FGC
