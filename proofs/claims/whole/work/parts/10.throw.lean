/-! What is thrown and caught: a method that ends by a throw; 'throw new X("..")'; a call that ends so; the handler that takes it. -/
/-- an object of the class X -/
def fg_is (X : String) (a : Nat) (t : State) : Prop := ∃ cell : Cell, t.heap[a]? = some cell ∧ cell.vm.isStatics = false ∧ t.vm.findClass X = some cell.cls
/-- the end of a method that throws an X -/
def fg_Qt (X : String) {S : Type} (post : S → Prop) (B : S → State → Prop) (A : Nat → Prop) : Array Value → State → Outcome → State → Prop := fun _ st oc t =>
  (∃ (a : Nat) (u : S), oc = .threw a ∧ fg_is X a t ∧ post u ∧ B u t) ∧ va_F A st t
def fg_MetT (l : Launch) (y : MethodName) (ws : List Cond) (rm : Room) (Pc : Array Value → State → Prop) (Qc : Array Value → State → Outcome → State → Prop) (mc ms : Nat) (free : Addr → Prop) : Prop :=
  MetFree l y (headSpec ws rm) Pc (fun _ _ _ _ _ => True) (fun a st o t => Qc a st o t ∧ ∃ L, FramedT st o t L mc ms ∧ ∀ q ∈ L, free q.base)
def fg_MQT (below : List Frame) (Qc : Array Value → State → Outcome → State → Prop) (a : Array Value) (s : State) (mc ms : Nat) (free : Addr → Prop) : State → Prop := fun t =>
  ∃ o, t.status = .running ∧ Ended t below o ∧ Qc a s o t ∧ ∃ L, FramedT s o t L mc ms ∧ ∀ q ∈ L, free q.base
/-- a static that has its place in a cell which this method doesn't own -/
def fg_LS (C n d : String) (A : Nat → Prop) (U : State) (H : Heap) : Prop := ∃ (a : Nat) (cell : Cell), H[a]? = some cell ∧ ¬ A a ∧ ∃ (c : ClassId) (k : Class) (i : Nat) (f : Field), U.vm.findClass C = some c ∧ U.fieldFound? C n d = some (c, k, i, f) ∧ f.isStatic = true ∧ k.statics = some a ∧ cell.vm.isStatics = true ∧ cell.cls = c ∧ f.slot < cell.slots.size ∧ k.staticTypes[f.slot]? = some f.type
theorem fg_LS.moved {C n d : String} {A : Nat → Prop} {u U : State} {H : Heap} (hvm : u.vm.Alike U.vm) (h : fg_LS C n d A u H) : fg_LS C n d A U H := by
  obtain ⟨a, cell, h1, h2, c, k, i, f, h3, h4, h5, h6, h7, h8, h9, h10⟩ := h
  obtain ⟨k', hi', he⟩ := State.fieldFound?_setVm hvm h4
  exact ⟨a, cell, h1, h2, c, k', i, f, by rw [hvm.findClass]; exact h3, hi', h5, by rw [he]; exact h6, h7, h8, h9, by rw [he]; exact h10⟩
theorem fg_LS.kept {C n d : String} {A : Nat → Prop} {U : State} {H H1 : Heap} (h : fg_LS C n d A U H) (hq : ∀ a : Nat, a < H.size → ¬ A a → H1[a]? = H[a]?) : fg_LS C n d A U H1 := by
  obtain ⟨a, cell, h1, h2, h3⟩ := h
  exact ⟨a, cell, by rw [hq a (Array.getElem?_eq_some_iff.mp h1).1 h2]; exact h1, h2, h3⟩
theorem fg_LS.narrow {C n d : String} {A B : Nat → Prop} {U : State} {H : Heap} (h : fg_LS C n d A U H) (hAB : ∀ q, B q → A q) : fg_LS C n d B U H := by
  obtain ⟨a, cell, h1, h2, h3⟩ := h
  exact ⟨a, cell, h1, fun z => h2 (hAB a z), h3⟩
theorem fg_LS.word {C n d : String} {A : Nat → Prop} {s : State} {args : Array Value} (h : fg_LS C n d A s s.heap) : (Cond.laysStatic C n d).before args s = true := by
  obtain ⟨a, cell, h1, h2, c, k, i, f, h3, h4, h5, h6, h7, h8, h9, h10⟩ := h
  exact Cond.laysStatic_of (first := s) (o := none) (idx := []) h3 h4 h5 h6 h1 h7 h8 h9 h10
theorem fg_LS.of {C n d : String} {A : Nat → Prop} {s : State} {args : Array Value} (h : (Cond.laysStatic C n d).before args s = true) (hA : ∀ a : Nat, a < s.heap.size → ¬ A a) : fg_LS C n d A s s.heap := by
  obtain ⟨c, k, i, f, a, cell, h3, h4, h5, h6, h1, h7, h8, h9, h10⟩ := Cond.laysStatic_spec h
  exact ⟨a, cell, h1, hA a (Array.getElem?_eq_some_iff.mp h1).1, c, k, i, f, h3, h4, h5, h6, h7, h8, h9, h10⟩
/-- two statics of Throwable that its constructor reads: a reference or null, in cells that this method doesn't own -/
def fg_Z0 (A : Nat → Prop) (U : State) (H : Heap) : Prop := (va_Zq Bundle.tN "UNASSIGNED_STACK" Bundle.steD A U H ∧ va_Zq Bundle.tN "SUPPRESSED_SENTINEL" Bundle.listD A U H) ∧ fg_LS Bundle.tN "UNASSIGNED_STACK" Bundle.steD A U H ∧ fg_LS Bundle.tN "SUPPRESSED_SENTINEL" Bundle.listD A U H
theorem fg_Z0.moved {A : Nat → Prop} {u U : State} {H : Heap} (hvm : u.vm.Alike U.vm) (h : fg_Z0 A u H) : fg_Z0 A U H := ⟨⟨h.1.1.moved hvm, h.1.2.moved hvm⟩, h.2.1.moved hvm, h.2.2.moved hvm⟩
theorem fg_Z0.kept {A : Nat → Prop} {U : State} {H H1 : Heap} (h : fg_Z0 A U H) (hq : ∀ a : Nat, a < H.size → ¬ A a → H1[a]? = H[a]?) : fg_Z0 A U H1 := ⟨⟨h.1.1.kept hq, h.1.2.kept hq⟩, h.2.1.kept hq, h.2.2.kept hq⟩
theorem fg_Z0.narrow {A B : Nat → Prop} {U : State} {H : Heap} (h : fg_Z0 A U H) (hAB : ∀ q, B q → A q) : fg_Z0 B U H := ⟨⟨h.1.1.narrow hAB, h.1.2.narrow hAB⟩, h.2.1.narrow hAB, h.2.2.narrow hAB⟩
theorem fg_evS {args : Array Value} {C n d : String} {v : Value} {A : Nat → Prop} {U : State} (h : va_Z C n d v A U U.heap) : (Term.static C n d).eval args U none [] U = some v := by
  obtain ⟨cf, kf, fi, f, a, cell, h1, h2, h3, h4, h5, h6, h7, -⟩ := h
  simp [Term.eval, State.fieldNamed?, h1, h2, h4, h5, h6, h7]
theorem fg_isRef {args : Array Value} {C n d : String} {A : Nat → Prop} {U : State} (h : va_Zq C n d A U U.heap) : (Cond.isRef (.static C n d)).before args U = true := by
  rcases h with h | ⟨t, h⟩
  · simp [Cond.before, Cond.holds, Cond.value, fg_evS h]
  · simp [Cond.before, Cond.holds, Cond.value, fg_evS h]
/-- the same invocation, as if it had begun just here -/
theorem fg_rebase {p : Program} {l : Launch} {e : Env} {R R2 : Room} {s : State} {m : MethodId} {args : Array Value} {below : List Frame} {meth : Method} {c : Code} {T : State} {locs : List Loc} {cells slots : Nat} (X : Stand p l e R s m args below meth c T locs cells slots) (h1 : R2.frames = R.frames) (h2 : R2.locals = R.locals) (h3 : cells + R2.cells ≤ R.cells) (h4 : slots + R2.slots ≤ R.slots) :
    Stand p l e R2 ((T.setVm s.vm).setFrames (.invoking m args :: below)) m args below meth c T [] 0 0 := by
  obtain ⟨g0, hg0⟩ := Option.isSome_iff_exists.mp (show (T.setVm s.vm).topJava?.isSome from X.here.top)
  obtain ⟨r, hr⟩ := State.topJava?_eq_some.mp hg0
  have hF : ((T.setVm s.vm).setFrames (.invoking m args :: below)).frames = .invoking m args :: below := State.frames_setFrames _ (State.cur_lt_of_frames hr)
  refine { admits := X.admits, cas := X.cas, clock := X.clock, frames := hF, room := ?_, hears := X.hears, method := X.method, code := X.code, here := X.here, tail := X.tail, warmed := X.warmed, limits := ?_, bytes := ?_, same := ?_ }
  · have h := X.room
    have e1 := State.localsInUse_invoking hF (meth := meth) (c := c) X.method X.code
    have e2 := State.localsInUse_invoking X.frames X.method X.code
    have b1 : e.platform.stackLimits (T.setVm s.vm).me = e.platform.stackLimits s.me := X.limits
    have b2 : (T.setVm s.vm).me.stackBytes = s.me.stackBytes := X.bytes
    have b3 : T.heap.size ≤ s.heap.size + cells := X.heapSize
    have b4 : T.slotsUsed ≤ s.slotsUsed + slots := X.used
    have b5 : ((T.setVm s.vm).setFrames (.invoking m args :: below)).slotsTrue = true := X.book
    simp only [State.hasRoom, Bool.and_eq_true, decide_eq_true_eq] at h ⊢
    obtain ⟨⟨⟨⟨h5, h6, h7, h8, h9, h10⟩, h11⟩, h12⟩, -⟩ := h
    rw [X.frames, List.length_cons] at h6 h7
    rw [hF, List.length_cons, State.stackLimits_setFrames, State.stackBytes_setFrames, b1, b2]
    have b6 : T.heap.size + R2.cells ≤ e.platform.maxCells := by omega
    have b7 : T.slotsUsed + R2.slots ≤ e.platform.maxSlots := by omega
    exact ⟨⟨⟨⟨by omega, by omega, by omega, by omega, by omega, h10⟩, b6⟩, b7⟩, b5⟩
  · rw [State.stackLimits_setFrames]; rfl
  · rw [State.stackBytes_setFrames]; rfl
  · refine ⟨?_, Nat.le_refl _, Nat.le_refl _, ?_, ?_, fun a c9 h9 => ⟨c9, h9, rfl, rfl, fun _ _ => rfl⟩⟩
    · obtain ⟨t, ht, -⟩ := State.frames_cons hr
      show T.setVm s.vm = { ((T.setVm s.vm).setFrames (.invoking m args :: below)).setFrames (T.setVm s.vm).frames with heap := (T.setVm s.vm).heap, slotsUsed := (T.setVm s.vm).slotsUsed }
      rw [State.setFrames_setFrames, State.setFrames_self ht]
    · show T.slotsUsed = T.slotsUsed + ((T.heap.toList.drop T.heap.size).map (·.slots.size)).sum
      rw [← Array.length_toList, List.drop_length]; rfl
    · show ((T.heap.toList.drop T.heap.size).map (·.slots.size)).sum ≤ 0
      rw [← Array.length_toList, List.drop_length]; exact Nat.le_refl _
/-- nothing that was there has changed -/
theorem fg_unch {s t : State} {cells slots : Nat} (h : s.sameButNew t [] cells slots) : s.heap.size ≤ t.heap.size ∧ ∀ q : Nat, q < s.heap.size → t.heap[q]? = s.heap[q]? := by
  refine ⟨h.2.1, fun q hq => ?_⟩
  obtain ⟨c', h1, h2, h3, h4⟩ := h.2.2.2.2.2 q _ (Array.getElem?_eq_getElem hq)
  have hs : c'.slots = (s.heap[q]).slots := by
    apply Array.ext_getElem?
    intro i
    exact h4 i (fun z => by cases z)
  rw [h1, Array.getElem?_eq_getElem hq, h2, hs]
/-- the words that an exception's constructor asks of the tables, but for the two statics -/
def fg_exq (w : Cond) : Bool := goodWord w || fg_oth w || decide (w = .isRef (.static Bundle.tN "UNASSIGNED_STACK" Bundle.steD)) || decide (w = .isRef (.static Bundle.tN "SUPPRESSED_SENTINEL" Bundle.listD)) || decide (w = .laysStatic Bundle.tN "UNASSIGNED_STACK" Bundle.steD) || decide (w = .laysStatic Bundle.tN "SUPPRESSED_SENTINEL" Bundle.listD)
def fg_up : List String := ["java/lang/RuntimeException", "java/lang/Exception"]
section FGT
variable {p : Program} {l : Launch} {e : Env} {R : Room} {s : State} {m : MethodId} {args : Array Value} {below : List Frame} {meth : Method} {c : Code} {H : Heap} {locs : List Loc} {cells slots mc ms : Nat}
variable {cc : ByteArray} {pc : Nat} {ls : Array Slot} {st : List Value} {D : va_G} {A : Nat → Prop}
/-- a tables' word at another state with the same tables -/
theorem fg_wordat {s2 : State} {w : Cond} (hvm : s2.vm = s.vm) (hz : fg_Z0 A s2 s2.heap) (hts : ∀ w ∈ fg_g, w.before args s = true) (hX : fg_X s) (hw : w ∈ lw_tbl ∨ w = .isRef (.static Bundle.tN "UNASSIGNED_STACK" Bundle.steD) ∨ w = .isRef (.static Bundle.tN "SUPPRESSED_SENTINEL" Bundle.listD)) (hq : fg_exq w = true) : w.before args s2 = true := by
  have hW : s.WarmedH s2.vm := by rw [hvm]; exact State.WarmedH.refl s
  rcases hw with hw | rfl | rfl
  · by_cases hg : goodWord w = true
    · exact word_at hW (good_of_word hg) (hts w (fg_in hw hg))
    · by_cases ho : fg_oth w = true
      · have h1 := hX.warm hW w hw ho
        match w, ho with
        | .methodLinkNest .., _ => exact va_Nw.use rfl h1
        | .fieldLinkNest .., _ => exact va_Nw.use rfl h1
        | .castable .., _ => exact va_Nw.use rfl h1
        | .declares .., _ => exact va_Nw.use rfl h1
        | .arrayOver (.object C), _ => exact va_AO.use h1
        | .not (.castable C T), _ => exact h1
        | .superclass .., _ => exact va_Nw.use rfl h1
      · simp only [fg_exq, hg, ho, Bool.false_or, Bool.or_eq_true, decide_eq_true_eq] at hq
        rcases hq with ((rfl | rfl) | rfl) | rfl
        · exact fg_isRef hz.1.1
        · exact fg_isRef hz.1.2
        · exact hz.2.1.word
        · exact hz.2.2.word
  · exact fg_isRef hz.1.1
  · exact fg_isRef hz.1.2
set_option maxHeartbeats 4000000 in
/-- throw new X("..") out of a method without handlers -/
theorem fg_throw {X tx own : String} {names : List String} {ia ib ic q : Nat} {S : Type} {post : S → Prop} {w1 : S → va_W} {t1 : S → fg_T} (u : S)
    (hl : l.stackTraces = false) (hx : p.tables.exec = Jvm.exec) (hb : c.code = cc) (hno : c.exceptionTable.isEmpty = true) (hlocks : meth.locks = false) (hown : s.vm.findClass own = some m.cls) (hts : ∀ w ∈ fg_g, w.before args s = true) (hX : fg_X s) (hz : fg_Z0 A s s.heap) (hq : vk_R own ib tx q s)
    (hfit : Bundle.fit X = true) (hnames : ∀ n ∈ names, Bundle.fit n = true)
    (hat : ∀ w ∈ Bundle.ownAtoms own ic X names, (w ∈ lw_tbl ∨ w = .isRef (.static Bundle.tN "UNASSIGNED_STACK" Bundle.steD) ∨ w = .isRef (.static Bundle.tN "SUPPRESSED_SENTINEL" Bundle.listD)) ∧ fg_exq w = true)
    (hcl : Cond.classLink own ia X ∈ fg_g) (hini : Cond.initialized X ∈ fg_g)
    (hp : post u) (hP : va_P D classes (w1 u) H) (hK : va_K D classes (t1 u) s) (hD : va_D A (w1 u)) (hS : va_S A s.heap H locs) (hsize : ls.size = c.maxLocals)
    (hRf : names.length + 3 < R.frames) (hRl : (st.map fun v => v.category).sum + (13 * (names.length + 1) + 43) ≤ R.locals) (hRc : cells + 1 ≤ R.cells) (hRs : slots + 6 ≤ R.slots) (hmc : cells + 1 ≤ mc) (hms : slots + 6 ≤ ms)
    (d0 : decode cc pc = .ok (.new ia, 3)) (d3 : decode cc (pc + 3) = .ok (.dup, 1)) (d4 : decode cc (pc + 4) = .ok (.ldc ib, 2)) (d6 : decode cc (pc + 6) = .ok (.invokespecial ic, 3)) (d9 : decode cc (pc + 9) = .ok (.athrow, 1)) :
    W p l e R s m args below meth c H locs cells slots (fg_MQT below (fg_Qt X post (fg_B D A w1 t1) A) args s mc ms A) (F0 m pc ls st) := by
  intro T hT X0
  have htr : e.platform.stackTraces = false := (show e.platform.stackTraces = l.stackTraces by rw [X0.admits.platform]).trans hl
  have Y := fg_rebase X0 (R2 := { frames := R.frames, locals := R.locals, cells := 1, slots := 6 }) rfl rfl hRc hRs
  obtain ⟨s2, hs2⟩ : ∃ z, z = (T.setVm s.vm).setFrames (.invoking m args :: below) := ⟨_, rfl⟩
  rw [← hs2] at Y
  have hvm : s2.vm = s.vm := by rw [hs2]; rfl
  have hhp : s2.heap = H := by rw [hs2]; exact hT
  have hW0 : s.WarmedH s2.vm := by rw [hvm]; exact State.WarmedH.refl s
  have hz2 : fg_Z0 A s2 s2.heap := by rw [hhp]; exact (hz.kept hS.2.1).moved hW0.alike
  have hat2 : ∀ w ∈ Bundle.ownAtoms own ic X names, w.before args s2 = true := fun w hw => fg_wordat hvm hz2 hts hX (hat w hw).1 (hat w hw).2
  have hcl2 : (Cond.classLink own ia X).before args s2 = true := word_at hW0 (fg_good _ hcl) (hts _ hcl)
  have hini2 : (Cond.initialized X).before args s2 = true := word_at hW0 (fg_good _ hini) (hts _ hini)
  have hown2 : s2.vm.findClass own = some m.cls := by rw [hvm]; exact hown
  have hq2 : vk_R own ib tx q s2 := hq.warm hW0
  have hins : (Cond.instantiable X 6).before args s2 = true := hat2 _ (by simp [Bundle.ownAtoms])
  obtain ⟨vm1, cX, kX, hfX, hkX, -, -, X1, st1⟩ := Y.newCold hx (own := own) (C := X) (index := ia) (n := 6) hown2 hcl2 hins hini2 (g := F0 m pc ls st) rfl (by rw [hb]; exact d0) (Nat.le_refl _) (Nat.le_refl _)
  generalize hT1 : (T.setVm vm1).pushCell { cls := cX, slots := kX.instanceTypes.map defaultValue, vm := .none } = T1 at X1 st1
  have hcA : T1.heap[T.heap.size]? = some (freshCell cX kX) := by rw [← hT1]; exact State.heap_pushCell_size _ _
  have hcat : (Value.ref T.heap.size).category = 1 := rfl
  obtain ⟨U, hsteps, hrun, hend, hW, hsame, ce, hce, K⟩ := X1.ctorThrowS hx htr (own := own) (cls := X) (names := names) (ic := ic) hown2 hfit hnames hat2 (fun y hy => by cases hy) hfX hkX hcA (by rw [hhp, hT]; exact Nat.le_refl _) (msg := .ref q) rfl
    (g := { method := m, pc := pc + 6, locals := ls, stack := .ref q :: .ref T.heap.size :: .ref T.heap.size :: st, locked := none }) rfl hsize rfl rfl (rest := st) rfl (by rw [hb]; exact d6) (by rw [hb]; exact d9) (covers_of_empty hno _) hRf (by simp only [List.map_cons, List.sum_cons, hcat]; omega) hlocks
  obtain ⟨f1, f2⟩ := fg_unch hsame
  have f2' : ∀ z : Nat, z < H.size → U.heap[z]? = H[z]? := fun z hz => by
    have := f2 z (by rw [hhp]; exact hz)
    rw [hhp] at this; exact this
  have f1' : H.size ≤ U.heap.size := by rw [hhp] at f1; exact f1
  have hWs : s.WarmedH U.vm := by
    have h1 : s2.WarmedH U.vm := hW
    exact State.WarmedH.trans hW0 h1
  refine ⟨U, ?_, .threw T.heap.size, hrun, hend, ⟨⟨T.heap.size, u, rfl, ⟨ce, hce, by rw [K.vm]; rfl, ?_⟩, hp, ?_, va_K.moved hWs.alike hK, hD⟩, ?_, ?_⟩, locs, ⟨⟨_, rfl⟩, hWs, ?_⟩, hS.2.2⟩
  · refine st1 _ ?_
    show Steps p.tables e below (T1.setTop (F0 m (pc + 3) ls (.ref T.heap.size :: st))) U
    have d3' : decode c.code (pc + 3) = .ok (.dup, 1) := by rw [hb]; exact d3
    jvm_step X1.here [X1.here.top, hx, d3', Value.category]
    exact X1.ldcString hx hown2 (text := tx) (a := q) hq2.1 hq2.2 (g := F0 m (pc + 4) ls (.ref T.heap.size :: .ref T.heap.size :: st)) rfl (by rw [hb]; exact d4) U hsteps
  · rw [hW.alike.findClass]; exact K.cls
  · exact hP.kept (fun k z hk => f2' z.1 ((hP k z hk).lt))
  · exact Nat.le_trans hS.1 f1'
  · intro z h1 h2
    rw [f2' z (Nat.lt_of_lt_of_le h1 hS.1)]; exact hS.2.1 z h1 h2
  · have hs3 : (T.setVm s.vm).sameButNew ({ U with vm := s.vm } : State) [] 1 6 := by
      subst hs2
      obtain ⟨g1, g2, g3, g4, g5, g6⟩ := hsame
      rw [State.setFrames_setFrames] at g1
      exact ⟨g1, g2, g3, g4, g5, g6⟩
    have h9 := (X0.same.trans hs3).mono hmc hms
    rw [List.append_nil] at h9
    exact h9
end FGT
