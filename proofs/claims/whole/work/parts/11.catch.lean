/-! Methods that throw, methods with handlers, calls that end by a throw and are caught. -/
theorem fz_1.kept2 {n : String} {L : Nat} {xs : Nat → Int32} {A : Nat → Prop} {U : State} {H H1 : Heap} (h : fz_1 n L xs A U H) (hq : ∀ a : Nat, a < H.size → ¬ A a → H1[a]? = H[a]?) : fz_1 n L xs A U H1 := by
  obtain ⟨a, h1, h2, h3, h4⟩ := h
  have h5 := hq a h4 h3
  rw [Array.getElem?_eq_getElem h4] at h5
  exact ⟨a, h1.kept hq, h2.kept (hq a h4 h3), h3, (Array.getElem?_eq_some_iff.mp h5).1⟩
/-- the statics that a throw reads, and those that the class reads -/
def fg_Z (A : Nat → Prop) (U : State) (H : Heap) : Prop := fg_Z0 A U H ∧ fz_Z A U H
theorem fg_Z.moved {A : Nat → Prop} {u U : State} {H : Heap} (hvm : u.vm.Alike U.vm) (h : fg_Z A u H) : fg_Z A U H := ⟨h.1.moved hvm, h.2.moved hvm⟩
theorem fg_Z.kept {A : Nat → Prop} {U : State} {H H1 : Heap} (h : fg_Z A U H) (hq : ∀ a : Nat, a < H.size → ¬ A a → H1[a]? = H[a]?) : fg_Z A U H1 := ⟨h.1.kept hq, h.2.1.kept2 hq, h.2.2.1.kept2 hq, h.2.2.2.1.kept2 hq, h.2.2.2.2.kept2 hq⟩
theorem fg_Z.narrow {A B : Nat → Prop} {U : State} {H : Heap} (h : fg_Z A U H) (hAB : ∀ q, B q → A q) : fg_Z B U H := ⟨h.1.narrow hAB, h.2.narrow hAB⟩
/-- the String constants that the tables say are there, and two classes apart -/
def fg_Y (U : State) : Prop := (∀ own k tx, Cond.stringRef own k tx ∈ lw_tbl → ∃ a, vk_R own k tx a U) ∧ va_Nc "java/lang/IllegalStateException" "java/lang/IllegalArgumentException" U
theorem fg_Y.warm {s U : State} (hW : s.WarmedH U.vm) (h : fg_Y s) : fg_Y U := by
  refine ⟨fun own k tx hw => ?_, h.2.moved hW.alike⟩
  obtain ⟨a, ha⟩ := h.1 own k tx hw
  exact ⟨a, ha.warm hW⟩
theorem fg_Y.of {args : Array Value} {s : State} (hts : ∀ w ∈ lw_tbl, w.before args s = true) (hnc : va_Nc "java/lang/IllegalStateException" "java/lang/IllegalArgumentException" s) : fg_Y s := by
  refine ⟨fun own k tx hw => ?_, hnc⟩
  have h1 := hts _ hw
  cases hc : s.vm.findClass own with
  | none => simp [Cond.before, Cond.holds, Cond.value, hc] at h1
  | some cur =>
    obtain ⟨_, _, _, a, -, -, -, -, -, he⟩ := Cond.stringRef_spec hc h1
    exact ⟨a, vk_R.of h1 he⟩
abbrev fg_PZ (D : va_G) (tys : fg_T) (ws : va_W) (sz : Nat) : State → Prop := fun U => fg_P D tys ws sz U ∧ fg_Z (va_A ws sz) U U.heap ∧ fg_Y U
theorem fg_blindZ {D : va_G} {tys : fg_T} {ws : va_W} {sz : Nat} {av : List Value} : FrameBlind (va_Pc av (fg_PZ D tys ws sz)) := by
  intro a U g mk h
  obtain ⟨h0, h1, h2, h3⟩ := h
  have hb := fg_blind (av := av) a U g mk ⟨h0, h1⟩
  exact ⟨hb.1, hb.2, fg_Z.moved (u := U) (U := U.calling g mk a) (Vm.Alike.refl U.vm) h2, fg_Y.warm (U := U.calling g mk a) (State.WarmedH.refl U) h3⟩
/-- into a method that throws -/
theorem fg_enterT {l : Launch} {y : MethodName} {cc : ByteArray} {nL : Nat} {ret : Option FieldType} {rm : Room} {av : List Value} {ws : va_W} {tys : fg_T} {D : va_G} {sz mc ms : Nat}
    (QA : (Nat → Prop) → Array Value → State → Outcome → State → Prop) (hy : plainName y.cls = true) (hn : (lg_sl av).length ≤ nL)
    (body : ∀ (p : Program) (e : Env) (s : State) (m : MethodId) (below : List Frame) (meth : Method) (c : Code) (ls : Array Slot) (A : Nat → Prop), p.tables.exec = Jvm.exec → c.code = cc → c.maxLocals = nL → s.vm.findClass y.cls = some m.cls → (∀ w ∈ fg_g, w.before av.toArray s = true) → meth.sig.returnType = ret → meth.locks = false → meth.name = y.name → va_P D classes ws s.heap → va_K D classes tys s → va_D A ws → va_S A s.heap s.heap [] → (∀ q : Nat, s.heap.size ≤ q → A q) → fg_X s → lv_has ls nL (lv_args 0 av) → c.exceptionTable.isEmpty = true → fg_Z A s s.heap → fg_Y s →
      W p l e rm s m av.toArray below meth c s.heap [] 0 0 (fg_MQT below (QA A) av.toArray s mc ms A) (F0 m 0 ls [])) :
    fg_MetT l y (fg_w y cc nL ret) rm (va_Pc av (fg_PZ D tys ws sz)) (QA (va_A ws sz)) mc ms (va_A ws sz) := by
  refine MetFree.of_bodyS (code := cc) (maxLocals := nL) (ret := ret) hy ?_ ?_
  · intro args s m h hnm
    obtain ⟨meth, c, h1, h2, h3, h4, h5, h6, -, -⟩ := Cond.code_spec hnm (atoms_spec (ws := fg_w y cc nL ret) h _ List.mem_cons_self)
    exact ⟨meth, c, h1, h2, h3, h4, h5, h6⟩
  · intro p e s m args below meth c s₁ B hml hv _
    obtain ⟨rfl, ⟨hsz, hP, hK, hD0, hX⟩, hZ, hY⟩ := hv
    have hts := atoms_spec (ws := fg_w y cc nL ret) B.pre
    have hl := lv_entry av (n := nL) hn
    have hh0 : s₁.heap = s.heap := by rw [B.state]; rfl
    subst hsz
    rw [lg_entry_eq]
    obtain ⟨t, a1, o, b1, b2, b3⟩ := body p e s m below meth c _ _ B.exec B.bytes hml (findClass_of_methodNamed B.named) (fun w hw => hts w (List.mem_cons_of_mem _ hw)) B.returns B.notSynchronized (name_of_methodNamed B.named B.method).1 hP hK hD0.self va_S.rf (fun q h => Or.inr h) hX hl (B.noHandlers (hts _ List.mem_cons_self)) hZ hY s₁ hh0 (Stand.of_body B)
    exact ⟨t, o, a1, b1, b2, b3⟩
/-- the words of a method with handlers -/
abbrev fg_wh (y : MethodName) (b : ByteArray) (n : Nat) (r : Option FieldType) (hs : List (Nat × Nat × Nat × Nat)) : List Cond := Cond.codeWith y b n r hs :: fg_g
theorem fg_ginH {y : MethodName} {b : ByteArray} {n : Nat} {r : Option FieldType} {hs : List (Nat × Nat × Nat × Nat)} (h : Cond.codeWith y b n r hs ∈ fg_g) : GoodIn fg_g (fg_wh y b n r hs) := by
  intro w hw
  rcases List.mem_cons.mp hw with e | e
  · exact e ▸ ⟨h, fg_good _ h⟩
  · exact ⟨e, fg_good _ e⟩
abbrev fg_tab (c : Code) : List (Nat × Nat × Nat × Nat) := c.exceptionTable.toList.map (fun h => (h.startPc, h.endPc, h.handlerPc, h.catchType))
/-- into a method with handlers, which returns -/
theorem fg_enterH {l : Launch} {y : MethodName} {cc : ByteArray} {nL : Nat} {ret : Option FieldType} {hs : List (Nat × Nat × Nat × Nat)} {rm : Room} {av : List Value} {ws : va_W} {tys : fg_T} {D : va_G} {sz mc ms : Nat}
    (QA : (Nat → Prop) → Array Value → State → Outcome → State → Prop) (hy : plainName y.cls = true) (hn : (lg_sl av).length ≤ nL)
    (body : ∀ (p : Program) (e : Env) (s : State) (m : MethodId) (below : List Frame) (meth : Method) (c : Code) (ls : Array Slot) (A : Nat → Prop), p.tables.exec = Jvm.exec → c.code = cc → c.maxLocals = nL → s.vm.findClass y.cls = some m.cls → (∀ w ∈ fg_g, w.before av.toArray s = true) → meth.sig.returnType = ret → meth.locks = false → meth.name = y.name → va_P D classes ws s.heap → va_K D classes tys s → va_D A ws → va_S A s.heap s.heap [] → (∀ q : Nat, s.heap.size ≤ q → A q) → fg_X s → lv_has ls nL (lv_args 0 av) → fg_tab c = hs → fg_Z A s s.heap → fg_Y s →
      W p l e rm s m av.toArray below meth c s.heap [] 0 0 (MQ below (QA A) av.toArray s mc ms A) (F0 m 0 ls [])) :
    Met l y (fg_wh y cc nL ret hs) rm (va_Pc av (fg_PZ D tys ws sz)) (QA (va_A ws sz)) mc ms (va_A ws sz) := by
  refine MetFree.of_bodyS (code := cc) (maxLocals := nL) (ret := ret) hy ?_ ?_
  · intro args s m h hnm
    obtain ⟨m', meth, c, hn', h1, h2, h3, h4, -, h5, h6, -⟩ := Cond.codeWith_spec (atoms_spec (ws := fg_wh y cc nL ret hs) h _ List.mem_cons_self)
    cases hnm.symm.trans hn'
    exact ⟨meth, c, h1, h2, h3, h4, h5, h6⟩
  · intro p e s m args below meth c s₁ B hml hv _
    obtain ⟨rfl, ⟨hsz, hP, hK, hD0, hX⟩, hZ, hY⟩ := hv
    have hts := atoms_spec (ws := fg_wh y cc nL ret hs) B.pre
    have hl := lv_entry av (n := nL) hn
    have hh0 : s₁.heap = s.heap := by rw [B.state]; rfl
    have htab : fg_tab c = hs := by
      obtain ⟨m', meth', c', hn', h1, h2, -, -, h3, -⟩ := Cond.codeWith_spec (hts _ List.mem_cons_self)
      cases B.named.symm.trans hn'
      cases B.method.symm.trans h1
      cases (Stand.of_body B).code.symm.trans h2
      exact h3
    subst hsz
    rw [lg_entry_eq]
    obtain ⟨t, a1, o, b1, b2, b3⟩ := body p e s m below meth c _ _ B.exec B.bytes hml (findClass_of_methodNamed B.named) (fun w hw => hts w (List.mem_cons_of_mem _ hw)) B.returns B.notSynchronized (name_of_methodNamed B.named B.method).1 hP hK hD0.self va_S.rf (fun q h => Or.inr h) hX hl htab hZ hY s₁ hh0 (Stand.of_body B)
    exact ⟨t, o, a1, b1, b2, b3⟩
section FGX
variable {p : Program} {l : Launch} {e : Env} {R : Room} {s : State} {m : MethodId} {args : Array Value} {below : List Frame} {meth : Method} {c : Code} {H : Heap} {locs : List Loc} {cells slots : Nat} {Q : State → Prop}
variable {cc : ByteArray} {pc nL maxL index : Nat} {ls : Array Slot} {D : va_G} {A A2 : Nat → Prop} {y : MethodName} {bytes : ByteArray} {ret : Option FieldType} {rm : Room} {own : String} {b : Nat} {As rest st : List Value} {tc tys : fg_T} {wc ws wr : va_W} {Qc : Array Value → State → Outcome → State → Prop} {free : Addr → Prop}
/-- a call of a static method with handlers: it comes back -/
theorem fg_runSH {hs : List (Nat × Nat × Nat × Nat)} (S : CallFix p m c cc nL s args fg_g own) (hM : Met l y (fg_wh y bytes maxL ret hs) rm (va_Pc As (fg_PZ D tc wc H.size)) Qc rm.cells rm.slots free)
    (hy : fg_nm y As.length) (hl : Cond.methodLink own index y ∈ fg_g) (hs1 : Cond.static y ∈ fg_g) (hini : Cond.initialized y.cls ∈ fg_g) (hcode : Cond.codeWith y bytes maxL ret hs ∈ fg_g) (hR : fg_rm rm R maxL)
    (hX : fg_X s) (hP : va_P D classes wc H) (hK : va_K D classes tc s) (hD : va_D A2 wc) (hZ : fg_Z (va_A wc H.size) s H) (hY : fg_Y s) (hst : st = As.reverse ++ rest) (hsize : ls.size = nL) (hW : (rest.map fun v => v.category).sum ≤ 8) (hdg : decode cc pc = .ok (.invokestatic index, 3)) (hf : cells + rm.cells ≤ R.cells ∧ slots + rm.slots ≤ R.slots) :
    va_Run p l e R s m args below meth c H locs cells slots rm.cells rm.slots (F0 m pc ls st) rest (Qc As.toArray) free := by
  obtain ⟨hx, hb, hml, ho, hts⟩ := S
  have hws : ∀ w ∈ fg_wh y bytes maxL ret hs, ∀ (a' : Array Value) (U : State), s.WarmedH U.vm → w.before a' U = true := pay_in hts (fg_ginH hcode)
  have hBk : Back l R p e below s args y 3 8 (PreOf R rm.cells rm.slots (va_Pc As (fg_PZ D tc wc H.size))) (PostOf Qc rm.cells rm.slots free) := by
    refine Back.of_freeWith (handlers := hs) (S := headSpec (fg_wh y bytes maxL ret hs) rm) (P := va_Pc As (fg_PZ D tc wc H.size)) (K := fun _ _ _ _ _ => True) (Q := fun a st o t => Qc a st o t ∧ ∃ L, FrameEnd st o t L rm.cells rm.slots ∧ ∀ q ∈ L, free q.base) (bytes := bytes) (maxL := maxL) (ret := ret)
      (E := fun a st o t L k n => k = rm.cells ∧ n = rm.slots ∧ ∀ q ∈ L, free q.base) hM hR.1 hR.2 ?_ ?_ (fun _ _ _ _ _ _ _ _ _ => trivial) ?_ ?_
    · intro m meth c A a X hp
      exact ⟨atoms_intro fun w hw => hws w hw _ _ X.warmed, hws _ List.mem_cons_self _ _ X.warmed, word_at X.warmed (fg_good _ hini) (hts _ hini), hp.1, hp.2.1⟩
    · intro m meth c A a g mk X hp
      exact fg_blindZ _ _ _ _ hp.2.2
    · intro a st o t ⟨hq, L, hF, hL⟩
      exact ⟨L, _, _, hF, rfl, rfl, hL⟩
    · intro m meth c A a g mk v t L k n X hp hq hF ⟨e1, e2, hL⟩
      subst e1; subst e2
      exact ⟨g, mk, t, L, rfl, rfl, hq.1, rfl, hL, rfl, rfl⟩
  have hcw := hts _ hcode
  obtain ⟨mk, methM, cM, hnamed, hmethM, -, -, -, -, -, -, hsigM⟩ := Cond.codeWith_spec hcw
  have hstatic : methM.isStatic = true := Cond.static_spec hnamed hmethM (hts _ hs1)
  obtain ⟨kP, hkP, -⟩ := className_of_methodNamed hnamed
  have hinitP : kP.init = .initialized := Cond.initialized_spec (findClass_of_methodNamed hnamed) hkP (hts _ hini)
  have hlen : As.length = methM.sig.parameters.length := by
    have h2 := hy.2.2
    rw [hsigM] at h2
    exact (Option.some.inj h2).symm
  intro T hT X
  obtain ⟨vm₁, X₁, hstep₁⟩ := X.invokestatic hx ho (hts _ hl) hnamed hmethM hstatic hkP hinitP ⟨hy.1, hy.2.1⟩ (g := F0 m pc ls st) rfl (argsL := As) (rest := rest) hlen hst (by rw [hb]; exact hdg)
  have hpre : PreOf R rm.cells rm.slots (va_Pc As (fg_PZ D tc wc H.size)) ⟨T.setVm vm₁, locs, cells, slots⟩ As.toArray := by
    have hWm : s.WarmedH vm₁ := X₁.warmed
    have hTh : (T.setVm vm₁).heap = H := hT
    exact ⟨hf.1, hf.2, rfl, ⟨by rw [hTh], by rw [hTh]; exact hP, va_K.moved (U := T.setVm vm₁) hWm.alike hK, hD.weaken (fun _ _ _ _ => trivial), fg_X.warm (U := T.setVm vm₁) hWm hX⟩, by rw [hTh]; exact fg_Z.moved (U := T.setVm vm₁) hWm.alike hZ, fg_Y.warm (U := T.setVm vm₁) hWm hY⟩
  obtain ⟨v, ⟨U', l2, c2, s2⟩, X', ⟨g', mk', t, L, e1, e2, hq, h1, hL, h2, h3⟩, hsteps⟩ := hBk m meth c ⟨T.setVm vm₁, locs, cells, slots⟩ (F0 m pc ls rest) (.invokestatic index) mk As.toArray X₁ rfl (hsize.trans hml.symm) (by rw [hb]; exact hdg) (lv_room (rest := rest) (pc := pc) (ls := ls) (m := m) hW) (X₁.named hnamed) hpre
  dsimp only [Pt.U, Pt.locs, Pt.cells, Pt.slots] at X' e1 e2 h1 h2 h3 hsteps
  subst h1; subst h2; subst h3
  exact ⟨v, (T.setVm vm₁).calling g' mk' As.toArray, t, U', L, hT, X', hL, e1, e2, hq, fun target h => hstep₁ _ fun acts => by rw [doInvoke_state]; exact hsteps.trans h⟩
end FGX
