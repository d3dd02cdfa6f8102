/-! Four arrays of statics that the class reads: they stand in cells that no method of it owns. -/
def fz_s : Nat → Int32 := fun i => ([4, 2, 1, 8] : List Int32).getD i 0
def fz_o : Nat → Int32 := fun i => ([0, 1, 2, 3, 6, 5, 8, 9, 11, 4, 7, 12, 10, -1, -1, -1] : List Int32).getD i 0
def fz_r : Nat → Int32 := fun i => ([-1, 0, 1, 2, 3, 4, 5, 6, -1, -1, 7, 8, 9, 10, -1, -1] : List Int32).getD i 0
def fz_k : Nat → Int32 := fun i => ([4, 8, 7, 11, 0, 10, 9, 2, 1, 6, 5, 3] : List Int32).getD i 0
def fz_1 (n : String) (L : Nat) (xs : Nat → Int32) (A : Nat → Prop) (U : State) (H : Heap) : Prop := ∃ a : Nat, va_Z "FilterGuard" n "[I" (.ref a) A U H ∧ va_X a L xs U H ∧ ¬ A a ∧ a < H.size
theorem fz_1.moved {n : String} {L : Nat} {xs : Nat → Int32} {A : Nat → Prop} {u U : State} {H : Heap} (hvm : u.vm.Alike U.vm) (h : fz_1 n L xs A u H) : fz_1 n L xs A U H := by
  obtain ⟨a, h1, h2, h3⟩ := h
  exact ⟨a, h1.moved hvm, h2.moved hvm, h3⟩
theorem fz_1.kept {n : String} {L : Nat} {xs : Nat → Int32} {A : Nat → Prop} {U : State} {H H1 : Heap} (h : fz_1 n L xs A U H) (hz : H.size ≤ H1.size) (hq : ∀ a : Nat, a < H.size → ¬ A a → H1[a]? = H[a]?) : fz_1 n L xs A U H1 := by
  obtain ⟨a, h1, h2, h3, h4⟩ := h
  exact ⟨a, h1.kept hq, h2.kept (hq a h4 h3), h3, Nat.lt_of_lt_of_le h4 hz⟩
theorem fz_1.narrow {n : String} {L : Nat} {xs : Nat → Int32} {A B : Nat → Prop} {U : State} {H : Heap} (h : fz_1 n L xs A U H) (hAB : ∀ q, B q → A q) : fz_1 n L xs B U H := by
  obtain ⟨a, h1, h2, h3, h4⟩ := h
  exact ⟨a, h1.narrow hAB, h2, fun z => h3 (hAB a z), h4⟩
def fz_Z (A : Nat → Prop) (U : State) (H : Heap) : Prop := fz_1 "SIZES" 4 fz_s A U H ∧ fz_1 "OPERATIONS" 16 fz_o A U H ∧ fz_1 "RELATIONS" 16 fz_r A U H ∧ fz_1 "CONTRARY" 12 fz_k A U H
theorem fz_Z.moved {A : Nat → Prop} {u U : State} {H : Heap} (hvm : u.vm.Alike U.vm) (h : fz_Z A u H) : fz_Z A U H := ⟨h.1.moved hvm, h.2.1.moved hvm, h.2.2.1.moved hvm, h.2.2.2.moved hvm⟩
theorem fz_Z.kept {A : Nat → Prop} {U : State} {H H1 : Heap} {l9 : List Loc} (h : fz_Z A U H) (hS : va_S A H H1 l9) : fz_Z A U H1 := ⟨h.1.kept hS.1 hS.2.1, h.2.1.kept hS.1 hS.2.1, h.2.2.1.kept hS.1 hS.2.1, h.2.2.2.kept hS.1 hS.2.1⟩
theorem fz_Z.narrow {A B : Nat → Prop} {U : State} {H : Heap} (h : fz_Z A U H) (hAB : ∀ q, B q → A q) : fz_Z B U H := ⟨h.1.narrow hAB, h.2.1.narrow hAB, h.2.2.1.narrow hAB, h.2.2.2.narrow hAB⟩
abbrev fz_P (D : va_G) (tys : fg_T) (ws : va_W) (sz : Nat) : State → Prop := fun U => fg_P D tys ws sz U ∧ fz_Z (va_A ws sz) U U.heap
theorem fz_blind {D : va_G} {tys : fg_T} {ws : va_W} {sz : Nat} {av : List Value} : FrameBlind (va_Pc av (fz_P D tys ws sz)) := by
  intro a U g mk h
  obtain ⟨h1, ⟨h2, h3, h4, h5, h6⟩, h7⟩ := h
  exact ⟨h1, ⟨h2, h3, va_K.moved (u := U) (U := U.calling g mk a) (Vm.Alike.refl U.vm) h4, h5, h6.calling⟩, h7.moved (u := U) (U := U.calling g mk a) (Vm.Alike.refl U.vm)⟩
/-- what a callee of the world wc finds -/
theorem fz_Z.at {A : Nat → Prop} {s : State} {H : Heap} {locs : List Loc} {wc wr ws : va_W} (h : fz_Z A s s.heap) (hp : ws.Perm (wc ++ wr)) (hD : va_D A ws) (hS : va_S A s.heap H locs) (hA : ∀ q : Nat, s.heap.size ≤ q → A q) : fz_Z (va_A wc H.size) s H :=
  (h.kept hS).narrow (va_free (wc := wc) (fk_Dp hp hD) hS hA (List.range wc.length) fk_ixC)
/-- into a method: its contract out of the walk of its body -/
theorem fz_enter {l : Launch} {y : MethodName} {cc : ByteArray} {nL : Nat} {ret : Option FieldType} {rm : Room} {av : List Value} {ws : va_W} {tys : fg_T} {D : va_G} {sz mc ms : Nat}
    (QA : (Nat → Prop) → Array Value → State → Outcome → State → Prop) (hy : plainName y.cls = true) (hn : (lg_sl av).length ≤ nL)
    (body : ∀ (p : Program) (e : Env) (s : State) (m : MethodId) (below : List Frame) (meth : Method) (c : Code) (ls : Array Slot) (A : Nat → Prop), p.tables.exec = Jvm.exec → c.code = cc → c.maxLocals = nL → s.vm.findClass y.cls = some m.cls → (∀ w ∈ fg_g, w.before av.toArray s = true) → meth.sig.returnType = ret → meth.locks = false → meth.name = y.name → va_P D classes ws s.heap → va_K D classes tys s → va_D A ws → va_S A s.heap s.heap [] → (∀ q : Nat, s.heap.size ≤ q → A q) → fg_X s → lv_has ls nL (lv_args 0 av) → fz_Z A s s.heap →
      W p l e rm s m av.toArray below meth c s.heap [] 0 0 (MQ below (QA A) av.toArray s mc ms A) (F0 m 0 ls [])) :
    Met l y (fg_w y cc nL ret) rm (va_Pc av (fz_P D tys ws sz)) (QA (va_A ws sz)) mc ms (va_A ws sz) := by
  refine Met.ofW (cc := cc) (maxL := nL) (ret := ret) hy rfl ?_
  intro p e s m args below meth c s₁ B hml hv
  obtain ⟨rfl, ⟨hsz, hP, hK, hD0, hX⟩, hz⟩ := hv
  have hts := atoms_spec (ws := fg_w y cc nL ret) B.pre
  have hl := lv_entry av (n := nL) hn
  subst hsz
  rw [lg_entry_eq]
  exact body p e s m below meth c _ _ B.exec B.bytes hml (findClass_of_methodNamed B.named) (fun w hw => hts w (List.mem_cons_of_mem _ hw)) B.returns B.notSynchronized (name_of_methodNamed B.named B.method).1 hP hK hD0.self va_S.rf (fun q h => Or.inr h) hX hl hz
section FZC
variable {p : Program} {l : Launch} {e : Env} {R : Room} {s : State} {m : MethodId} {args : Array Value} {below : List Frame} {meth : Method} {c : Code} {H : Heap} {locs : List Loc} {cells slots : Nat} {Q : State → Prop}
variable {cc : ByteArray} {pc nL maxL index : Nat} {ls : Array Slot} {D : va_G} {A A2 : Nat → Prop} {y : MethodName} {bytes : ByteArray} {ret : Option FieldType} {rm : Room} {own : String} {b : Nat} {As rest st : List Value} {tc tys : fg_T} {wc ws wr : va_W} {Qc : Array Value → State → Outcome → State → Prop} {free : Addr → Prop}
theorem fz_runV {C : String} (S : CallFix p m c cc nL s args fg_g own) (hM : Met l y (fg_w y bytes maxL ret) rm (va_Pc (.ref b :: As) (fz_P D tc wc H.size)) Qc rm.cells rm.slots free)
    (hC : y.cls = C) (hy : fg_nm y As.length) (hl : Cond.methodLink own index y ∈ fg_g) (hin : Cond.instanceMethod y ∈ fg_g) (hse : Cond.selects C y y ∈ fg_g) (hini : Cond.initialized C ∈ fg_g) (hcode : Cond.code y bytes maxL ret ∈ fg_g) (hR : fg_rm rm R maxL)
    (hX : fg_X s) (hP : va_P D classes wc H) (hK : va_K D classes tc s) (hD : va_D A2 wc) (hz : fz_Z (va_A wc H.size) s H) {q0 ci : Nat} {q : vw_C} {fs : List Value} (hc : classes[ci]? = some q) (hq : q.1 = C) (he : wc[q0]? = some (b, .inr (ci, fs))) (hst : st = As.reverse ++ .ref b :: rest) (hsize : ls.size = nL) (hW : (rest.map fun v => v.category).sum ≤ 8) (hdg : decode cc pc = .ok (.invokevirtual index, 3)) (hf : cells + rm.cells ≤ R.cells ∧ slots + rm.slots ≤ R.slots) :
    va_Run p l e R s m args below meth c H locs cells slots rm.cells rm.slots (F0 m pc ls st) rest (Qc (Value.ref b :: As).toArray) free := by
  have hts := S.2.2.2.2
  subst hq
  exact va_runV (C := q.1) (As := As) (rest := rest) S hM ⟨callB_of As.length hts (fg_gin hcode) rfl rfl rfl (by rw [hC]; exact hts _ hini) (hts _ hl) hy hR, hts _ hin, hts _ hse⟩ ⟨fz_blind, va_recv hK hP hc he, fun U hU hWm => ⟨rfl, ⟨by rw [hU], by rw [hU]; exact hP, va_K.moved hWm.alike hK, hD.weaken (fun _ _ _ _ => trivial), hX.warm hWm⟩, by rw [hU]; exact hz.moved hWm.alike⟩⟩ rfl rfl hsize hst (lv_room (rest := st) (pc := pc) (ls := ls) (m := m) hW) hdg hf
theorem fz_runVN {C host : String} (S : CallFix p m c cc nL s args fg_g own) (hM : Met l y (fg_w y bytes maxL ret) rm (va_Pc (.ref b :: As) (fz_P D tc wc H.size)) Qc rm.cells rm.slots free)
    (hC : y.cls = C) (hy : fg_nm y As.length) (hl : Cond.methodLinkNest own index y host ∈ lw_tbl) (hin : Cond.instanceMethod y ∈ fg_g) (hse : Cond.selects C y y ∈ fg_g) (hini : Cond.initialized C ∈ fg_g) (hcode : Cond.code y bytes maxL ret ∈ fg_g) (hR : fg_rm rm R maxL)
    (hX : fg_X s) (hP : va_P D classes wc H) (hK : va_K D classes tc s) (hD : va_D A2 wc) (hz : fz_Z (va_A wc H.size) s H) {q0 ci : Nat} {q : vw_C} {fs : List Value} (hc : classes[ci]? = some q) (hq : q.1 = C) (he : wc[q0]? = some (b, .inr (ci, fs))) (hst : st = As.reverse ++ .ref b :: rest) (hsize : ls.size = nL) (hW : (rest.map fun v => v.category).sum ≤ 8) (hdg : decode cc pc = .ok (.invokevirtual index, 3)) (hf : cells + rm.cells ≤ R.cells ∧ slots + rm.slots ≤ R.slots) :
    va_Run p l e R s m args below meth c H locs cells slots rm.cells rm.slots (F0 m pc ls st) rest (Qc (Value.ref b :: As).toArray) free := by
  have hts := S.2.2.2.2
  subst hq
  exact va_runVN (C := q.1) (As := As) (rest := rest) S hM ⟨va_cnB As.length hts (fg_gin hcode) rfl rfl rfl (hX _ hl rfl) (by rw [hC]; exact hts _ hini) hy hR, hts _ hin, hts _ hse⟩ ⟨fz_blind, va_recv hK hP hc he, fun U hU hWm => ⟨rfl, ⟨by rw [hU], by rw [hU]; exact hP, va_K.moved hWm.alike hK, hD.weaken (fun _ _ _ _ => trivial), hX.warm hWm⟩, by rw [hU]; exact hz.moved hWm.alike⟩⟩ rfl rfl hsize hst (lv_room (rest := st) (pc := pc) (ls := ls) (m := m) hW) hdg hf
theorem fz_runS (S : CallFix p m c cc nL s args fg_g own) (hM : Met l y (fg_w y bytes maxL ret) rm (va_Pc As (fz_P D tc wc H.size)) Qc rm.cells rm.slots free)
    (hy : fg_nm y As.length) (hl : Cond.methodLink own index y ∈ fg_g) (hs : Cond.static y ∈ fg_g) (hini : Cond.initialized y.cls ∈ fg_g) (hcode : Cond.code y bytes maxL ret ∈ fg_g) (hR : fg_rm rm R maxL)
    (hX : fg_X s) (hP : va_P D classes wc H) (hK : va_K D classes tc s) (hD : va_D A2 wc) (hz : fz_Z (va_A wc H.size) s H) (hst : st = As.reverse ++ rest) (hsize : ls.size = nL) (hW : (rest.map fun v => v.category).sum ≤ 8) (hdg : decode cc pc = .ok (.invokestatic index, 3)) (hf : cells + rm.cells ≤ R.cells ∧ slots + rm.slots ≤ R.slots) :
    va_Run p l e R s m args below meth c H locs cells slots rm.cells rm.slots (F0 m pc ls st) rest (Qc As.toArray) free := by
  have hts := S.2.2.2.2
  exact va_runS (As := As) (rest := rest) S hM ⟨callB_of As.length hts (fg_gin hcode) rfl rfl rfl (hts _ hini) (hts _ hl) hy hR, hts _ hs⟩ ⟨fz_blind, fun U hU hWm => ⟨rfl, ⟨by rw [hU], by rw [hU]; exact hP, va_K.moved hWm.alike hK, hD.weaken (fun _ _ _ _ => trivial), hX.warm hWm⟩, by rw [hU]; exact hz.moved hWm.alike⟩⟩ rfl rfl hsize hst (lv_room (rest := st) (pc := pc) (ls := ls) (m := m) hW) hdg hf
theorem fg_runSN {host : String} (S : CallFix p m c cc nL s args fg_g own) (hM : Met l y (fg_w y bytes maxL ret) rm (va_Pc As (fg_P D tc wc H.size)) Qc rm.cells rm.slots free)
    (hy : fg_nm y As.length) (hl : Cond.methodLinkNest own index y host ∈ lw_tbl) (hs : Cond.static y ∈ fg_g) (hini : Cond.initialized y.cls ∈ fg_g) (hcode : Cond.code y bytes maxL ret ∈ fg_g) (hR : fg_rm rm R maxL)
    (hX : fg_X s) (hP : va_P D classes wc H) (hK : va_K D classes tc s) (hD : va_D A2 wc) (hst : st = As.reverse ++ rest) (hsize : ls.size = nL) (hW : (rest.map fun v => v.category).sum ≤ 8) (hdg : decode cc pc = .ok (.invokestatic index, 3)) (hf : cells + rm.cells ≤ R.cells ∧ slots + rm.slots ≤ R.slots) :
    va_Run p l e R s m args below meth c H locs cells slots rm.cells rm.slots (F0 m pc ls st) rest (Qc As.toArray) free := by
  have hts := S.2.2.2.2
  exact va_runSN (As := As) (rest := rest) S hM ⟨va_cnB As.length hts (fg_gin hcode) rfl rfl rfl (hX _ hl rfl) (hts _ hini) hy hR, hts _ hs, trivial⟩ ⟨fg_blind, fun U hU hWm => ⟨rfl, by rw [hU], by rw [hU]; exact hP, va_K.moved hWm.alike hK, hD.weaken (fun _ _ _ _ => trivial), hX.warm hWm⟩⟩ rfl rfl hsize hst (lv_room (rest := st) (pc := pc) (ls := ls) (m := m) hW) hdg hf
end FZC
