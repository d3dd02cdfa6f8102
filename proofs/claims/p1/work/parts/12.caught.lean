/-! A call that ends by a throw, and the handler that takes it. -/
section FGF
variable {Q : Handler → Bool → List Action → State → Prop} {E : Control → List Action → State → Prop} {e : Env} {d : Bool} {acts : List Action} {S : State} {f : JFrame} {a : Addr}
/-- one row of the table, its class resolved now or before -/
theorem fg_goRow {x : ClassFile.ExceptionTableEntry} {t : List ClassFile.ExceptionTableEntry} {c : ClassId} {cell : Cell} {vm1 : Vm} (hx : covers x f.pc = true) (h0 : x.catchType ≠ 0) (hg : (resolveClass f.method.cls x.catchType).Gives e.toSetting S.vm (.ok c) vm1)
    (hcell : S.heap[a]? = some cell) (hobj : ∀ k, cell.vm ≠ .statics k) (hk : ∃ k, vm1.classes[cell.cls]? = some k) (hc : ∃ k, vm1.classes[c]? = some k) (hsz : vm1.classes.size ≤ S.vm.classes.size) :
    Sem.wp (findHandler.go f a (x :: t)) Q E e d acts S ↔ if vm1.assignable cell.cls c = true then Q (.found x.handlerPc) d acts (S.setVm vm1) else Sem.wp (findHandler.go f a t) Q E e d acts (S.setVm vm1) := by
  simp only [covers] at hx
  obtain ⟨ha, ht⟩ := hg.op (op := VmOp.resolveClass f.method.cls x.catchType) rfl
  obtain ⟨k1, hk1⟩ := hk
  obtain ⟨k2, hk2⟩ := hc
  cases hfit : vm1.assignable cell.cls c <;>
    simp [findHandler.go, hx, h0, ha, ht, hcell, hobj, hk1, hk2, hfit, hsz, VmOp.dirties, VmOp.acts]
end FGF
/-- what a search finds, and the tables that it leaves -/
def fg_Finds (e : Env) (S : State) (f : JFrame) (a : Addr) (pc : Nat) (vm1 : Vm) : Prop := ∀ (Q : Handler → Bool → List Action → State → Prop) (E : Control → List Action → State → Prop) (d : Bool) (acts : List Action), Sem.wp (findHandler f a) Q E e d acts S ↔ Q (.found pc) d acts (S.setVm vm1)
theorem fg_stepCatch {e : Env} {s : State} {a : Addr} {f : JFrame} {r : List Frame} {pc : Nat} {vm1 : Vm} (hfind : fg_Finds e s f a pc vm1) :
    (stepThrowing e s a (.java f :: r)).Is ((s.setVm vm1).setFrames (.java { f with pc := pc, stack := [.ref a] } :: r)) [] := by
  simp only [stepThrowing, searchFrame, vmDo]
  generalize hr : Sem.go _ e false [] s = res
  obtain ⟨as, rfl, ha⟩ := Sem.eq_ok_of hr (a := Handler.found pc) (s' := s.setVm vm1) (acts' := []) (by simp [hfind _ _ _ _])
  exact ⟨rfl, ha⟩
theorem fg_caught {tb : Tables} {e : Env} {T target : State} {g : JFrame} {c : Code} {below : List Frame} {a : Addr} (h : At T g.method c below) {pc : Nat} {vm1 : Vm} (hfind : fg_Finds e ((T.setTop g).pushFrame (.throwing a)) g a pc vm1)
    (hrest : Steps tb e below ((T.setVm vm1).setTop { g with pc := pc, stack := [.ref a] }) target) : Steps tb e below ((T.setTop g).pushFrame (.throwing a)) target := by
  obtain ⟨hgo, hw⟩ := h.throwing a
  refine Steps.head hgo hw ?_
  rw [stepThread_throwing (frames_entered h.top _), (fg_stepCatch (s := (T.setTop g).pushFrame (.throwing a)) hfind).1]
  obtain ⟨g₀, hg⟩ := Option.isSome_iff_exists.mp h.top
  obtain ⟨r, hr⟩ := State.topJava?_eq_some.mp hg
  have hr' : (T.setVm vm1).frames = .java g₀ :: r := hr
  rw [State.setTop_of_frames _ hr'] at hrest
  show Steps tb e below ((((T.setVm vm1).setTop g).pushFrame (.throwing a)).setFrames (.java { g with pc := pc, stack := [.ref a] } :: T.frames.tail)) target
  rw [State.pushFrame, State.setFrames_setFrames, State.setTop_of_frames _ hr', State.setFrames_setFrames, hr]
  exact hrest
section FGV
variable {p : Program} {l : Launch} {e : Env} {R : Room} {s : State} {m : MethodId} {args : Array Value} {below : List Frame} {meth : Method} {c : Code} {H : Heap} {locs : List Loc} {cells slots : Nat} {Q : State → Prop}
variable {cc : ByteArray} {pc nL maxL index : Nat} {ls : Array Slot} {D : va_G} {A A2 : Nat → Prop} {y : MethodName} {bytes : ByteArray} {ret : Option FieldType} {rm : Room} {own : String} {b : Nat} {As rest st : List Value} {tc tys : fg_T} {wc ws wr : va_W} {Qc : Array Value → State → Outcome → State → Prop} {free : Addr → Prop}
/-- a call that ends by a throw: the note lies over the caller's frame -/
def fg_RunT (p : Program) (l : Launch) (e : Env) (R : Room) (s : State) (m : MethodId) (args : Array Value) (below : List Frame) (meth : Method) (c : Code) (H : Heap) (locs : List Loc) (cells slots mc ms : Nat) (g g2 : JFrame) (Qa : State → Outcome → State → Prop) (free : Addr → Prop) : Prop :=
  ∀ T : State, T.heap = H → Stand p l e R s m args below meth c T locs cells slots → ∃ (x : Addr) (st₀ t T' : State) (L : List Loc), st₀.heap = H ∧ Stand p l e R s m args below meth c T' (locs ++ L) (cells + mc) (slots + ms) ∧ (∀ q ∈ L, free q.base) ∧ T'.heap = t.heap ∧ T'.vm = t.vm ∧ Qa st₀ (.threw x) t ∧
    ∀ target, Steps p.tables e below ((T'.setTop g2).pushFrame (.throwing x)) target → Steps p.tables e below (T.setTop g) target
theorem fg_runVT {C : String} (S : CallFix p m c cc nL s args fg_g own) (hM : fg_MetT l y (fg_w y bytes maxL ret) rm (va_Pc (.ref b :: As) (fg_PZ D tc wc H.size)) Qc rm.cells rm.slots free)
    (hC : y.cls = C) (hy : fg_nm y As.length) (hl : Cond.methodLink own index y ∈ fg_g) (hin : Cond.instanceMethod y ∈ fg_g) (hse : Cond.selects C y y ∈ fg_g) (hini : Cond.initialized C ∈ fg_g) (hcode : Cond.code y bytes maxL ret ∈ fg_g) (hR : fg_rm rm R maxL)
    (hX : fg_X s) (hP : va_P D classes wc H) (hK : va_K D classes tc s) (hD : va_D A2 wc) (hZ : fg_Z (va_A wc H.size) s H) (hY : fg_Y s) {q0 ci : Nat} {q : vw_C} {fs : List Value} (hc : classes[ci]? = some q) (hq : q.1 = C) (he : wc[q0]? = some (b, .inr (ci, fs))) (hst : st = As.reverse ++ .ref b :: rest) (hsize : ls.size = nL) (hW : (rest.map fun v => v.category).sum ≤ 8) (hdg : decode cc pc = .ok (.invokevirtual index, 3)) (hf : cells + rm.cells ≤ R.cells ∧ slots + rm.slots ≤ R.slots) :
    fg_RunT p l e R s m args below meth c H locs cells slots rm.cells rm.slots (F0 m pc ls st) (F0 m pc ls rest) (Qc (Value.ref b :: As).toArray) free := by
  obtain ⟨hx, hb, hml, ho, hts⟩ := S
  subst hq
  have hws : ∀ w ∈ fg_w y bytes maxL ret, ∀ (a' : Array Value) (U : State), s.WarmedH U.vm → w.before a' U = true := pay_in hts (fg_gin hcode)
  obtain ⟨cellB, hcB, hoB, hclB⟩ := va_recv hK hP hc he
  obtain ⟨mk, methM, hnamed, hmethM, hstM, habM⟩ := Cond.instanceMethod_spec (hts _ hin)
  obtain ⟨methM', cM, hmethM', -, -, -, -, -, -, hsigM⟩ := Cond.code_spec hnamed (hts _ hcode)
  cases hmethM.symm.trans hmethM'
  obtain ⟨c2, r2, m2, q1, q2, q3, q4, kP, hkP, hkPi⟩ := Cond.selects_spec (hts _ hse)
  cases hclB.symm.trans q1
  cases (State.methodFound?_of_named hnamed ⟨hy.1, hy.2.1⟩).symm.trans q2
  cases hnamed.symm.trans q3
  have hlen : As.length = methM.sig.parameters.length := by
    have h2 := hy.2.2
    rw [hsigM] at h2
    exact (Option.some.inj h2).symm
  intro T hT X
  have hselP : selectMethod e.platform s.vm cellB.cls mk = .method mk := by rw [Launch.admits_selectMethod X.admits]; exact q4
  obtain ⟨vm₁, X₁, hstep₁⟩ := X.invokevirtual hx ho (hts _ hl) hnamed hmethM hstM hkP hkPi ⟨hy.1, hy.2.1⟩ (a := b) (cell := cellB) (by rw [hT]; exact hcB)
    (fun z h => by rw [h] at hoB; cases hoB) hselP hmethM habM hkP hkPi (g := F0 m pc ls st) rfl (argsL := As) (rest := rest) hlen hst (by rw [hb]; exact hdg)
  have hWm : s.WarmedH vm₁ := X₁.warmed
  have hTh : (T.setVm vm₁).heap = H := hT
  have hPc : va_Pc (.ref b :: As) (fg_PZ D tc wc H.size) (Value.ref b :: As).toArray (T.setVm vm₁) :=
    ⟨rfl, ⟨by rw [hTh], by rw [hTh]; exact hP, va_K.moved (U := T.setVm vm₁) hWm.alike hK, hD.weaken (fun _ _ _ _ => trivial), fg_X.warm (U := T.setVm vm₁) hWm hX⟩, by rw [hTh]; exact fg_Z.moved (U := T.setVm vm₁) hWm.alike hZ, fg_Y.warm (U := T.setVm vm₁) hWm hY⟩
  have hn := X₁.named hnamed
  generalize hU : T.setVm vm₁ = U at X₁ hstep₁ hn hTh hPc
  have hWU : s.WarmedH U.vm := X₁.warmed
  have h2 := hws _ List.mem_cons_self (Value.ref b :: As).toArray U hWU
  obtain ⟨methY, cY, hmY, hcY, -, hlY, -, -, -, -⟩ := Cond.code_spec hn h2
  obtain ⟨kY, hkY, -⟩ := className_of_methodNamed hn
  have hinitY : kY.init = .initialized := Cond.initialized_spec (findClass_of_methodNamed hn) hkY (by rw [hC]; exact word_at (a' := (Value.ref b :: As).toArray) hWU (fg_good _ hini) (hts _ hini))
  have hdg' : decode c.code (F0 m pc ls rest).pc = .ok (.invokevirtual index, 3) := by rw [hb]; exact hdg
  have hroom : 2 * (F0 m pc ls rest).monitorRoom + ((F0 m pc ls rest).stack.map fun v => v.category).sum ≤ 8 := lv_room (rest := rest) (pc := pc) (ls := ls) (m := m) hW
  have happ : (headSpec (fg_w y bytes maxL ret) rm).appliesLoose y e.platform (U.calling (F0 m pc ls rest) mk (Value.ref b :: As).toArray) = true :=
    Spec.appliesLoose_calling (g := F0 m pc ls rest) X₁.here hdg' hn hkY hinitY
      (X₁.room_calling (g := F0 m pc ls rest) (R' := rm) (hsize.trans hml.symm) hmY hcY hR.1 (by have h7 := hR.2; rw [hlY]; omega) hf.1 hf.2) (atoms_intro fun w hw => hws w hw _ _ hWU)
  obtain ⟨mid, hmid⟩ := X₁.here.above
  have hfr : (U.setTop (F0 m pc ls rest)).frames = (.java (F0 m pc ls rest) :: mid) ++ below := by rw [State.frames_setTop' _ X₁.here.top, hmid]; rfl
  obtain ⟨o, s₂, hsteps, -, hend, hq9⟩ := Steps.callFree hM p X₁.admits X₁.cas X₁.clock (acts := []) hfr happ (fg_blindZ _ _ (F0 m pc ls rest) mk hPc) trivial
  rw [State.frames_setTop' _ X₁.here.top] at hend
  obtain ⟨hq1, L, hfe, hL⟩ := hq9
  obtain ⟨⟨v, rfl⟩, hW₂, e2, q2', q3', q4', q5', q6'⟩ := hfe
  have e3 : s₂ = ({ (U.calling (F0 m pc ls rest) mk (Value.ref b :: As).toArray).setFrames s₂.frames with heap := s₂.heap, slotsUsed := s₂.slotsUsed } : State).setVm s₂.vm := by
    have : s₂ = ({ s₂ with vm := (U.calling (F0 m pc ls rest) mk (Value.ref b :: As).toArray).vm } : State).setVm s₂.vm := rfl
    rw [show ({ s₂ with vm := (U.calling (F0 m pc ls rest) mk (Value.ref b :: As).toArray).vm } : State) = _ from e2] at this
    exact this
  have hf₂ : s₂.frames = .throwing v :: .java (F0 m pc ls rest) :: U.frames.tail := hend
  have hW' : U.WarmedH s₂.vm := hW₂
  obtain ⟨g₀, hg0⟩ := Option.isSome_iff_exists.mp X₁.here.top
  obtain ⟨r, hr⟩ := State.topJava?_eq_some.mp hg0
  have hs₂ : s₂ = ((({ U with heap := s₂.heap, slotsUsed := s₂.slotsUsed } : State).setVm s₂.vm).setTop (F0 m pc ls rest)).pushFrame (.throwing v) := by
    have hr' : (({ U with heap := s₂.heap, slotsUsed := s₂.slotsUsed } : State).setVm s₂.vm).frames = .java g₀ :: r := hr
    refine e3.trans ?_
    rw [hf₂, State.calling_eq X₁.here.top, State.setFrames_setFrames, State.pushFrame, State.frames_setTop _ hr', State.setTop_of_frames _ hr', State.setFrames_setFrames, hr]
    rfl
  have hsame : U.sameButNew ({ U with heap := s₂.heap, slotsUsed := s₂.slotsUsed } : State) L rm.cells rm.slots := by
    refine ⟨?_, q2', q3', q4', q5', q6'⟩
    obtain ⟨t, ht, -⟩ := State.frames_cons hr
    show ({ U with heap := s₂.heap, slotsUsed := s₂.slotsUsed } : State) = { U.setFrames U.frames with heap := s₂.heap, slotsUsed := s₂.slotsUsed }
    rw [State.setFrames_self ht]
  refine ⟨v, U.calling (F0 m pc ls rest) mk (Value.ref b :: As).toArray, s₂, (({ U with heap := s₂.heap, slotsUsed := s₂.slotsUsed } : State).setVm s₂.vm), L, hTh,
    ⟨X₁.admits, X₁.cas, X₁.clock, X₁.frames, X₁.room, X₁.hears, X₁.method, X₁.code, (X₁.here.setHeapUsed s₂.heap s₂.slotsUsed).setVm hW'.alike, X₁.tail, State.WarmedH.trans X₁.warmed hW', X₁.limits, X₁.bytes, X₁.same.trans (hsame.setVm s.vm)⟩, hL, rfl, rfl, hq1, fun target h => hstep₁ _ fun acts => ?_⟩
  rw [doInvoke_state]
  refine hsteps.trans ?_
  rw [hs₂]
  exact h
end FGV
theorem fg_self (vm : Vm) (k : ClassId) : vm.assignable k k = true := by
  show vm.assignableAux (255 + 1) k k = true
  rw [Vm.assignableAux]
  simp
section FGW
variable {p : Program} {l : Launch} {e : Env} {R : Room} {s : State} {m : MethodId} {args : Array Value} {below : List Frame} {meth : Method} {c : Code} {H : Heap} {locs : List Loc} {cells slots : Nat} {Q : State → Prop}
variable {cc : ByteArray} {pc nL : Nat} {ls : Array Slot} {D : va_G} {A : Nat → Prop} {own : String} {rest st : List Value} {tys : fg_T} {wc ws wr : va_W}
variable {mc ms : Nat} {S : Type} {w1 : S → va_W} {t1 : S → fg_T} {a : Array Value} {X : String}
/-- the search in the caller's table: rows that are passed, then the row that takes it -/
theorem fg_search {T : State} {locs : List Loc} {cells slots : Nat} (Y : Stand p l e R s m args below meth c T locs cells slots) {x : Addr} {cell : Cell} (hown : s.vm.findClass own = some m.cls) (hcell : T.heap[x]? = some cell) (hobj : cell.vm.isStatics = false) (hcX : s.vm.findClass X = some cell.cls) (g : JFrame) (hg : g.method = m)
    (h1 : Nat) (z : ClassFile.ExceptionTableEntry) (suf : List ClassFile.ExceptionTableEntry) (hz : covers z g.pc = true) (hz0 : z.catchType ≠ 0) (hzh : z.handlerPc = h1) (hzl : (Cond.classLink own z.catchType X).before args s = true) :
    ∀ (pre : List ClassFile.ExceptionTableEntry) (S : State), s.WarmedH S.vm → S.heap[x]? = some cell → (∀ y ∈ pre, covers y g.pc = true ∧ y.catchType ≠ 0 ∧ ∃ nm, (Cond.classLink own y.catchType nm).before args s = true ∧ va_Nc X nm s) →
      ∃ vm1, s.WarmedH vm1 ∧ ∀ (Q : Handler → Bool → List Action → State → Prop) (E : Control → List Action → State → Prop) (d : Bool) (acts : List Action), Sem.wp (findHandler.go g x (pre ++ z :: suf)) Q E e d acts S ↔ Q (.found h1) d acts (S.setVm vm1) := by
  have hpl : e.platform.magicAccessors = ({} : Platform).magicAccessors := by rw [Y.admits.platform]
  have hob : ∀ k, cell.vm ≠ .statics k := VmData.ne_statics_of hobj
  subst hg
  intro pre
  induction pre with
  | nil =>
    intro S hW hc0 _
    obtain ⟨c1, hc1, hlk⟩ := Cond.classLink_spec hown hzl e.platform hpl
    cases hcX.symm.trans hc1
    obtain ⟨g1, g2, g3⟩ := State.classEntry (e := e) hW hlk
    obtain ⟨k0, hk0⟩ := Vm.classAt_of_findClass hcX
    obtain ⟨k1, hk1, -⟩ := g2.alike.2.2 _ _ hk0
    refine ⟨_, g2, fun Q E d acts => ?_⟩
    rw [List.nil_append, fg_goRow hz hz0 g1 hc0 hob ⟨k1, hk1⟩ ⟨k1, hk1⟩ ((hW.alike.symm.trans g2.alike).size_le), if_pos (fg_self _ _), hzh]
  | cons y ys ih =>
    intro S hW hc0 hp
    obtain ⟨hy1, hy2, nm, hyl, hyn⟩ := hp y List.mem_cons_self
    obtain ⟨c1, hc1, hlk⟩ := Cond.classLink_spec hown hyl e.platform hpl
    obtain ⟨cx, ct, e1, e2, e3⟩ := hyn
    cases hcX.symm.trans e1
    cases hc1.symm.trans e2
    obtain ⟨g1, g2, g3⟩ := State.classEntry (e := e) hW hlk
    obtain ⟨k0, hk0⟩ := Vm.classAt_of_findClass hcX
    obtain ⟨k1, hk1, -⟩ := g2.alike.2.2 _ _ hk0
    obtain ⟨k2, hk2⟩ := Vm.classAt_of_findClass hc1
    obtain ⟨k3, hk3, -⟩ := g2.alike.2.2 _ _ hk2
    obtain ⟨vm1, hW1, hq⟩ := ih (S.setVm _) g2 hc0 (fun w hw => hp w (List.mem_cons_of_mem _ hw))
    refine ⟨vm1, hW1, fun Q E d acts => ?_⟩
    rw [List.cons_append, fg_goRow hy1 hy2 g1 hc0 hob ⟨k1, hk1⟩ ⟨k3, hk3⟩ ((hW.alike.symm.trans g2.alike).size_le), if_neg (by rw [g2.alike.assignable, e3]; decide)]
    exact hq Q E d acts
/-- behind a call that threw: at the handler, the reference alone on the stack -/
theorem fg_thenT {post : S → Prop} (hr : fg_RunT p l e R s m args below meth c H locs cells slots mc ms (F0 m pc ls st) (F0 m pc ls rest) (fg_Qt X post (fg_B D (va_A wc H.size) w1 t1) (va_A wc H.size) a) (va_A wc H.size))
    (hP : va_P D classes ws H) (hD : va_D A ws) (hK : va_K D classes tys s) (hS : va_S A s.heap H locs) (hA : ∀ q : Nat, s.heap.size ≤ q → A q) (isC isR : List Nat) (hC : isC.map (fun i => ws[i]?) = wc.map some) (hR : isR.map (fun i => ws[i]?) = wr.map some) (hn : va_nd isR = true) (hdis : ∀ i ∈ isR, i ∉ isC)
    (hown : s.vm.findClass own = some m.cls) (hts : ∀ w ∈ fg_g, w.before args s = true) (hs : List (Nat × Nat × Nat × Nat)) (htab : fg_tab c = hs) (np h1 : Nat)
    (hpass : ∀ y ∈ hs.take np, (y.1 ≤ pc ∧ pc < y.2.1) ∧ y.2.2.2 ≠ 0 ∧ ∃ nm, Cond.classLink own y.2.2.2 nm ∈ fg_g ∧ va_Nc X nm s) (hit : ∃ a1 b1 k1, hs[np]? = some (a1, b1, h1, k1) ∧ a1 ≤ pc ∧ pc < b1 ∧ k1 ≠ 0 ∧ Cond.classLink own k1 X ∈ fg_g)
    (kk : ∀ (x : Nat) (u : S) (H1 : Heap) (locs1 : List Loc), post u → va_P D classes (wr ++ w1 u) H1 → va_D A (wr ++ w1 u) → va_K D classes (tys ++ t1 u) s → va_S A s.heap H1 locs1 → W p l e R s m args below meth c H1 locs1 (cells + mc) (slots + ms) Q (F0 m h1 ls [.ref x])) : W p l e R s m args below meth c H locs cells slots Q (F0 m pc ls st) := by
  have hFc := va_free (wc := wc) hD hS hA isC hC
  intro T hT X0
  obtain ⟨x, st₀, t, T', L, h0, X', hL, e1, e2, ⟨⟨a2, u, hv, hisx, hp, hP1, hK1, hD1⟩, hz, hk⟩, hst⟩ := hr T hT X0
  cases hv
  obtain ⟨cell, hcell, hobj, hfc⟩ := hisx
  have hal : s.vm.Alike t.vm := by rw [← e2]; exact X'.warmed.alike
  rw [h0] at hz hk
  have hk1 : ∀ q : Nat, q < H.size → ¬ va_A wc H.size q → T'.heap[q]? = H[q]? := fun q h1 h2 => by rw [e1]; exact hk q h1 h2
  have hcell' : T'.heap[x]? = some cell := by rw [e1]; exact hcell
  have hfc' : s.vm.findClass X = some cell.cls := by rw [← hal.findClass]; exact hfc
  obtain ⟨a1, b1, k1, hget, hlo, hhi, hk0, hlink⟩ := hit
  -- the table's rows
  obtain ⟨z, hzget, hzeq⟩ : ∃ z, c.exceptionTable.toList[np]? = some z ∧ (z.startPc, z.endPc, z.handlerPc, z.catchType) = (a1, b1, h1, k1) := by
    rw [← htab, List.getElem?_map] at hget
    cases hz9 : c.exceptionTable.toList[np]? with
    | none => rw [hz9] at hget; cases hget
    | some z => rw [hz9] at hget; exact ⟨z, rfl, Option.some.inj hget⟩
  simp only [Prod.mk.injEq] at hzeq
  obtain ⟨z1, z2, z3, z4⟩ := hzeq
  have hsplit : c.exceptionTable.toList = c.exceptionTable.toList.take np ++ z :: c.exceptionTable.toList.drop (np + 1) := by
    have hlt := (List.getElem?_eq_some_iff.mp hzget).1
    have he := (List.getElem?_eq_some_iff.mp hzget).2
    rw [← he, ← List.drop_eq_getElem_cons hlt, List.take_append_drop]
  obtain ⟨vm1, hW1, hf⟩ := fg_search (e := e) (X := X) (x := x) X' hown hcell' hobj hfc' (F0 m pc ls rest) rfl h1 z (c.exceptionTable.toList.drop (np + 1)) (by simp [covers, z1, z2, hlo, hhi]) (by rw [z4]; exact hk0) z3 (by rw [z4]; exact hts _ hlink)
    (c.exceptionTable.toList.take np) ((T'.setTop (F0 m pc ls rest)).pushFrame (.throwing x)) X'.warmed hcell' (fun y hy => by
      have hm : (y.startPc, y.endPc, y.handlerPc, y.catchType) ∈ hs.take np := by
        rw [← htab, ← List.map_take]
        exact List.mem_map.mpr ⟨y, hy, rfl⟩
      obtain ⟨⟨q1, q2⟩, q3, nm, q4, q5⟩ := hpass _ hm
      exact ⟨by simp only [covers, Bool.and_eq_true, decide_eq_true_eq]; exact ⟨q1, q2⟩, q3, nm, hts _ q4, q5⟩)
  have hfinds : fg_Finds e ((T'.setTop (F0 m pc ls rest)).pushFrame (.throwing x)) (F0 m pc ls rest) x h1 vm1 := fun Q E d acts => by
    rw [Jvm.W.findHandler_eq (s := (T'.setTop (F0 m pc ls rest)).pushFrame (.throwing x)) (f := F0 m pc ls rest) (meth := meth) (code := c) X'.method' X'.code, hsplit]
    exact hf Q E d acts
  rw [← e1] at hP1
  obtain ⟨hP2, hD2⟩ := va_join (wr := wr) hP hD isC isR hC hR hn hdis hk1 hFc hP1 hD1
  have hS2 : va_S A s.heap T'.heap (locs ++ L) := ⟨Nat.le_trans hS.1 (by rw [e1]; exact hz), fun q h1 h2 => by rw [hk1 q (Nat.lt_of_lt_of_le h1 hS.1) (fun z => h2 (hFc q z))]; exact hS.2.1 q h1 h2, fun q hq => by
    rcases List.mem_append.mp hq with h | h
    · exact hS.2.2 q h
    · exact hFc _ (hL q h)⟩
  obtain ⟨t9, a9, b9⟩ := kk x u T'.heap (locs ++ L) hp hP2 hD2 (hK.app (va_K.moved hal.symm hK1)) hS2 (T'.setVm vm1) rfl (X'.noted hW1)
  exact ⟨t9, hst t9 (fg_caught X'.here hfinds a9), b9⟩
end FGW
