theorem al_ext {N N0 : Nat → Nat} {ad ad0 ad1 : Nat → Nat → Nat} (h : ∀ a b, b < N a → ad1 a b = ad a b) (h0 : ∀ a b, b < N0 a → ad a b = ad0 a b) (hok : me_ok N0 N) : ∀ a b, b < N0 a → ad1 a b = ad0 a b := fun a b q => (h a b (Nat.lt_of_lt_of_le q (hok.2.2.2.2 a))).trans (h0 a b q)
theorem al_f {N N0 : Nat → Nat} (h : me_ok N0 N) : me_cN N - me_cN N0 + 0 ≤ me_CL - me_cN N0 ∧ me_sN N - me_sN N0 + 0 ≤ me_SL - me_sN N0 := by
  obtain ⟨h1, h2, h3, h4, -⟩ := h
  omega
theorem al_g {N N0 : Nat → Nat} (h : me_ok N0 N) : me_cN N - me_cN N0 + (me_CL - me_cN N) ≤ me_CL - me_cN N0 ∧ me_sN N - me_sN N0 + (me_SL - me_sN N) ≤ me_SL - me_sN N0 := by
  obtain ⟨h1, h2, h3, h4, -⟩ := h
  omega
section MEK
variable {p : Program} {l : Launch} {e : Env} {R : Room} {s : State} {m : MethodId} {args : Array Value} {below : List Frame} {meth : Method} {c : Code} {H : Heap} {locs : List Loc} {cells slots : Nat} {Q : State → Prop}
variable {cc : ByteArray} {pc nL maxL index mc ms : Nat} {ls : Array Slot} {D : va_G} {A : Nat → Prop} {H0 : Heap} {y : MethodName} {bytes : ByteArray} {ret : Option FieldType} {rm : Room} {own : String} {b : Nat} {As rest st : List Value} {Pc : Array Value → State → Prop} {Qc : Array Value → State → Outcome → State → Prop} {free : Addr → Prop}
variable {ad : Nat → Nat → Nat} {ca : Nat → ClassId} {M M1 : me_M} {N N0 : Nat → Nat}
/-- a method whose room is more than what it takes -/
theorem al_back (hts : ∀ w ∈ fg_g, w.before args s = true) (hM : Met l y (fg_w y bytes maxL ret) rm Pc Qc mc ms free) (hbl : FrameBlind Pc) (hcode : Cond.code y bytes maxL ret ∈ fg_g) (hini : Cond.initialized y.cls ∈ fg_g) (hR : fg_rm rm R maxL) : Back l R p e below s args y 3 8 (PreOf R rm.cells rm.slots Pc) (PostOf Qc mc ms free) := by
  have hws := pay_in hts (fg_gin hcode)
  refine Back.of_free (S := headSpec (fg_w y bytes maxL ret) rm) (P := Pc) (K := fun _ _ _ _ _ => True) (Q := fun a st o t => Qc a st o t ∧ ∃ L, FrameEnd st o t L mc ms ∧ ∀ q ∈ L, free q.base) (bytes := bytes) (maxL := maxL) (ret := ret)
    (E := fun a st o t L k n => k = mc ∧ n = ms ∧ ∀ q ∈ L, free q.base) hM hR.1 hR.2 ?_ ?_ (fun _ _ _ _ _ _ _ _ _ => trivial) ?_ ?_
  · intro m meth c A a X hp
    exact ⟨atoms_intro fun w hw => hws w hw _ _ X.warmed, hws _ List.mem_cons_self _ _ X.warmed, word_at X.warmed (fg_good _ hini) (hts _ hini), hp.1, hp.2.1⟩
  · intro m meth c A a g mk X hp
    exact hbl _ _ _ _ hp.2.2
  · intro a st o t ⟨hq, L, hF, hL⟩
    exact ⟨L, mc, ms, hF, rfl, rfl, hL⟩
  · intro m meth c A a g mk v t L k n X hp hq hF ⟨e1, e2, hL⟩
    subst e1; subst e2
    exact ⟨g, mk, t, L, rfl, rfl, hq.1, rfl, hL, rfl, rfl⟩
theorem al_len {n : Nat} (hy : fg_nm y n) : ∀ sig, parseMethodDescriptor y.desc = some sig → n = sig.parameters.length := by
  intro sig h
  have h2 := hy.2.2
  rw [h] at h2
  exact (Option.some.inj h2).symm
theorem al_pre (hX : fg_X s) (hz : fz_Z A s s.heap) (hK : va_K D classes (me_T ca) s) (hP : va_P D classes (me_W ad ca M) H) (hD : va_D A (me_W ad ca M)) (hS : va_S A s.heap H locs) (hA : ∀ q : Nat, s.heap.size ≤ q → A q) (av : List Value) : ∀ U : State, U.heap = H → s.WarmedH U.vm → va_Pc av (fz_P D (me_T ca) (me_W ad ca M) H.size) av.toArray U := by
  have hz2 := me_zat hz hD hS hA
  intro U hU hWm
  exact ⟨rfl, ⟨by rw [hU], by rw [hU]; exact hP, va_K.moved hWm.alike hK, hD.weaken (fun _ _ _ _ => trivial), hX.warm hWm⟩, by rw [hU]; exact hz2.moved hWm.alike⟩
theorem al_runV {C : String} {k j : Nat} (S : CallFix p m c cc nL s args fg_g own) (hM : Met l y (fg_w y bytes maxL ret) rm (va_Pc (.ref (ad k j) :: As) (fz_P D (me_T ca) (me_W ad ca M) H.size)) Qc mc ms free)
    (hC : y.cls = C) (hy : fg_nm y As.length) (hl : Cond.methodLink own index y ∈ fg_g) (hin : Cond.instanceMethod y ∈ fg_g) (hse : Cond.selects C y y ∈ fg_g) (hini : Cond.initialized C ∈ fg_g) (hcode : Cond.code y bytes maxL ret ∈ fg_g) (hR : fg_rm rm R maxL)
    (hX : fg_X s) (hz : fz_Z A s s.heap) (hK : va_K D classes (me_T ca) s) (hP : va_P D classes (me_W ad ca M) H) (hD : va_D A (me_W ad ca M)) (hwf : me_wf N M) (hS : va_S A s.heap H locs) (hA : ∀ q : Nat, s.heap.size ≤ q → A q) (hj : j < N k) (hk : k < 13) {q : vw_C} (hc : classes[k]? = some q) (hq : q.1 = C) (hst : st = As.reverse ++ .ref (ad k j) :: rest) (hsize : ls.size = nL) (hW : (rest.map fun v => v.category).sum ≤ 8) (hdg : decode cc pc = .ok (.invokevirtual index, 3)) (hf : cells + rm.cells ≤ R.cells ∧ slots + rm.slots ≤ R.slots) :
    va_Run p l e R s m args below meth c H locs cells slots mc ms (F0 m pc ls st) rest (Qc (Value.ref (ad k j) :: As).toArray) free := by
  obtain ⟨q0, h0, -⟩ := me_ix (A := fun _ => True) (ad := ad) (ca := ca) (M := M) (k := k) (j := j) (by omega) (by rw [hwf.1]; exact hj)
  obtain ⟨hx, hb, hml, ho, hts⟩ := S
  have hKb : Back l R p e below s args y 3 8 (PreOf R rm.cells rm.slots (va_Pc (.ref (ad k j) :: As) (fz_P D (me_T ca) (me_W ad ca M) H.size))) (PostOf Qc mc ms free) := al_back hts hM fz_blind hcode (by rw [hC]; exact hini) hR
  obtain ⟨cellB, hcB, hoB, hclB⟩ := va_recv hK hP hc (by rw [h0]; unfold me_E; rw [if_pos hk])
  rw [hq] at hclB
  intro T hT X
  obtain ⟨v, vm₁, ⟨U', l2, c2, s2⟩, hW₁, X', ⟨g', mk, t, L, e1, e2, hq, h1, hL, h2, h3⟩, st⟩ := callV X hx (C := C) (bytes := bytes) (maxL := maxL) (ret := ret) ho (hts _ hl) (hts _ hin) (hts _ hse) (hts _ hcode) ⟨hy.1, hy.2.1⟩ hKb (by rw [hT]; exact hcB) hoB hclB (g := F0 m pc ls st) rfl (hsize.trans hml.symm) (argsL := As) (rest := rest) (al_len hy) hst (lv_room (rest := st) (pc := pc) (ls := ls) (m := m) hW) (by rw [hb]; exact hdg)
    (fun vm₁ hW₁ => ⟨hf.1, hf.2, al_pre hX hz hK hP hD hS hA (.ref (ad k j) :: As) (T.setVm vm₁) hT hW₁⟩)
  dsimp only [Pt.U, Pt.locs, Pt.cells, Pt.slots] at X' e1 e2 h1 h2 h3 st
  subst h1; subst h2; subst h3
  exact ⟨v, (T.setVm vm₁).calling g' mk (Value.ref (ad k j) :: As).toArray, t, U', L, hT, X', hL, e1, e2, hq, st⟩
theorem al_runVN {C host : String} {k j : Nat} (S : CallFix p m c cc nL s args fg_g own) (hM : Met l y (fg_w y bytes maxL ret) rm (va_Pc (.ref (ad k j) :: As) (fz_P D (me_T ca) (me_W ad ca M) H.size)) Qc mc ms free)
    (hC : y.cls = C) (hy : fg_nm y As.length) (hl : Cond.methodLinkNest own index y host ∈ lw_tbl) (hin : Cond.instanceMethod y ∈ fg_g) (hse : Cond.selects C y y ∈ fg_g) (hini : Cond.initialized C ∈ fg_g) (hcode : Cond.code y bytes maxL ret ∈ fg_g) (hR : fg_rm rm R maxL)
    (hX : fg_X s) (hz : fz_Z A s s.heap) (hK : va_K D classes (me_T ca) s) (hP : va_P D classes (me_W ad ca M) H) (hD : va_D A (me_W ad ca M)) (hwf : me_wf N M) (hS : va_S A s.heap H locs) (hA : ∀ q : Nat, s.heap.size ≤ q → A q) (hj : j < N k) (hk : k < 13) {q : vw_C} (hc : classes[k]? = some q) (hq : q.1 = C) (hst : st = As.reverse ++ .ref (ad k j) :: rest) (hsize : ls.size = nL) (hW : (rest.map fun v => v.category).sum ≤ 8) (hdg : decode cc pc = .ok (.invokevirtual index, 3)) (hf : cells + rm.cells ≤ R.cells ∧ slots + rm.slots ≤ R.slots) :
    va_Run p l e R s m args below meth c H locs cells slots mc ms (F0 m pc ls st) rest (Qc (Value.ref (ad k j) :: As).toArray) free := by
  obtain ⟨q0, h0, -⟩ := me_ix (A := fun _ => True) (ad := ad) (ca := ca) (M := M) (k := k) (j := j) (by omega) (by rw [hwf.1]; exact hj)
  obtain ⟨hx, hb, hml, ho, hts⟩ := S
  have hKb : Back l R p e below s args y 3 8 (PreOf R rm.cells rm.slots (va_Pc (.ref (ad k j) :: As) (fz_P D (me_T ca) (me_W ad ca M) H.size))) (PostOf Qc mc ms free) := al_back hts hM fz_blind hcode (by rw [hC]; exact hini) hR
  obtain ⟨cellB, hcB, hoB, hclB⟩ := va_recv hK hP hc (by rw [h0]; unfold me_E; rw [if_pos hk])
  rw [hq] at hclB
  intro T hT X
  obtain ⟨v, vm₁, ⟨U', l2, c2, s2⟩, hW₁, X', ⟨g', mk, t, L, e1, e2, hq, h1, hL, h2, h3⟩, st⟩ := va_callVN X hx (C := C) (bytes := bytes) (maxL := maxL) (ret := ret) ho (va_Nw.use rfl (hX _ hl rfl)) (hts _ hin) (hts _ hse) (hts _ hcode) ⟨hy.1, hy.2.1⟩ hKb (by rw [hT]; exact hcB) hoB hclB (g := F0 m pc ls st) rfl (hsize.trans hml.symm) (argsL := As) (rest := rest) (al_len hy) hst (lv_room (rest := st) (pc := pc) (ls := ls) (m := m) hW) (by rw [hb]; exact hdg)
    (fun vm₁ hW₁ => ⟨hf.1, hf.2, al_pre hX hz hK hP hD hS hA (.ref (ad k j) :: As) (T.setVm vm₁) hT hW₁⟩)
  dsimp only [Pt.U, Pt.locs, Pt.cells, Pt.slots] at X' e1 e2 h1 h2 h3 st
  subst h1; subst h2; subst h3
  exact ⟨v, (T.setVm vm₁).calling g' mk (Value.ref (ad k j) :: As).toArray, t, U', L, hT, X', hL, e1, e2, hq, st⟩
theorem al_runI {k j : Nat} (S : CallFix p m c cc nL s args fg_g own) (hM : Met l y (fg_w y bytes maxL none) rm (va_Pc (.ref (ad k j) :: As) (fz_P D (me_T ca) (me_W ad ca M) H.size)) Qc mc ms free)
    (hy1 : y.name = "<init>") (hy : fg_nm y As.length) (hl : Cond.methodLink own index y ∈ fg_g) (hin : Cond.instanceMethod y ∈ fg_g) (hini : Cond.initialized y.cls ∈ fg_g) (hcode : Cond.code y bytes maxL none ∈ fg_g) (hR : fg_rm rm R maxL)
    (hX : fg_X s) (hz : fz_Z A s s.heap) (hK : va_K D classes (me_T ca) s) (hP : va_P D classes (me_W ad ca M) H) (hD : va_D A (me_W ad ca M)) (hS : va_S A s.heap H locs) (hA : ∀ q : Nat, s.heap.size ≤ q → A q) (hst : st = As.reverse ++ .ref (ad k j) :: rest) (hsize : ls.size = nL) (hW : (rest.map fun v => v.category).sum ≤ 8) (hdg : decode cc pc = .ok (.invokespecial index, 3)) (hf : cells + rm.cells ≤ R.cells ∧ slots + rm.slots ≤ R.slots) :
    va_Run p l e R s m args below meth c H locs cells slots mc ms (F0 m pc ls st) rest (Qc (Value.ref (ad k j) :: As).toArray) free := by
  obtain ⟨hx, hb, hml, ho, hts⟩ := S
  have hKb : Back l R p e below s args y 3 8 (PreOf R rm.cells rm.slots (va_Pc (.ref (ad k j) :: As) (fz_P D (me_T ca) (me_W ad ca M) H.size))) (PostOf Qc mc ms free) := al_back hts hM fz_blind hcode hini hR
  intro T hT X
  obtain ⟨v, vm₁, ⟨U', l2, c2, s2⟩, hW₁, X', ⟨g', mk, t, L, e1, e2, hq, h1, hL, h2, h3⟩, st⟩ := callI X hx (bytes := bytes) (maxL := maxL) ho hy1 (hts _ hl) (hts _ hin) (hts _ hcode) ⟨hy.1, hy.2.1⟩ hKb (g := F0 m pc ls st) rfl (hsize.trans hml.symm) (a := ad k j) (argsL := As) (rest := rest) (al_len hy) hst (lv_room (rest := st) (pc := pc) (ls := ls) (m := m) hW) (by rw [hb]; exact hdg)
    (fun vm₁ hW₁ => ⟨hf.1, hf.2, al_pre hX hz hK hP hD hS hA (.ref (ad k j) :: As) (T.setVm vm₁) hT hW₁⟩)
  dsimp only [Pt.U, Pt.locs, Pt.cells, Pt.slots] at X' e1 e2 h1 h2 h3 st
  subst h1; subst h2; subst h3
  exact ⟨v, (T.setVm vm₁).calling g' mk (Value.ref (ad k j) :: As).toArray, t, U', L, hT, X', hL, e1, e2, hq, st⟩
theorem al_runIN {host : String} {k j : Nat} (S : CallFix p m c cc nL s args fg_g own) (hM : Met l y (fg_w y bytes maxL none) rm (va_Pc (.ref (ad k j) :: As) (fz_P D (me_T ca) (me_W ad ca M) H.size)) Qc mc ms free)
    (hy1 : y.name = "<init>") (hy : fg_nm y As.length) (hl : Cond.methodLinkNest own index y host ∈ lw_tbl) (hin : Cond.instanceMethod y ∈ fg_g) (hini : Cond.initialized y.cls ∈ fg_g) (hcode : Cond.code y bytes maxL none ∈ fg_g) (hR : fg_rm rm R maxL)
    (hX : fg_X s) (hz : fz_Z A s s.heap) (hK : va_K D classes (me_T ca) s) (hP : va_P D classes (me_W ad ca M) H) (hD : va_D A (me_W ad ca M)) (hS : va_S A s.heap H locs) (hA : ∀ q : Nat, s.heap.size ≤ q → A q) (hst : st = As.reverse ++ .ref (ad k j) :: rest) (hsize : ls.size = nL) (hW : (rest.map fun v => v.category).sum ≤ 8) (hdg : decode cc pc = .ok (.invokespecial index, 3)) (hf : cells + rm.cells ≤ R.cells ∧ slots + rm.slots ≤ R.slots) :
    va_Run p l e R s m args below meth c H locs cells slots mc ms (F0 m pc ls st) rest (Qc (Value.ref (ad k j) :: As).toArray) free := by
  obtain ⟨hx, hb, hml, ho, hts⟩ := S
  have hKb : Back l R p e below s args y 3 8 (PreOf R rm.cells rm.slots (va_Pc (.ref (ad k j) :: As) (fz_P D (me_T ca) (me_W ad ca M) H.size))) (PostOf Qc mc ms free) := al_back hts hM fz_blind hcode hini hR
  intro T hT X
  obtain ⟨v, vm₁, ⟨U', l2, c2, s2⟩, hW₁, X', ⟨g', mk, t, L, e1, e2, hq, h1, hL, h2, h3⟩, st⟩ := va_callIN X hx (bytes := bytes) (maxL := maxL) ho hy1 (va_Nw.use rfl (hX _ hl rfl)) (hts _ hin) (hts _ hcode) ⟨hy.1, hy.2.1⟩ hKb (g := F0 m pc ls st) rfl (hsize.trans hml.symm) (a := ad k j) (argsL := As) (rest := rest) (al_len hy) hst (lv_room (rest := st) (pc := pc) (ls := ls) (m := m) hW) (by rw [hb]; exact hdg)
    (fun vm₁ hW₁ => ⟨hf.1, hf.2, al_pre hX hz hK hP hD hS hA (.ref (ad k j) :: As) (T.setVm vm₁) hT hW₁⟩)
  dsimp only [Pt.U, Pt.locs, Pt.cells, Pt.slots] at X' e1 e2 h1 h2 h3 st
  subst h1; subst h2; subst h3
  exact ⟨v, (T.setVm vm₁).calling g' mk (Value.ref (ad k j) :: As).toArray, t, U', L, hT, X', hL, e1, e2, hq, st⟩
theorem al_runS (S : CallFix p m c cc nL s args fg_g own) (hM : Met l y (fg_w y bytes maxL ret) rm (va_Pc As (fz_P D (me_T ca) (me_W ad ca M) H.size)) Qc mc ms free)
    (hy : fg_nm y As.length) (hl : Cond.methodLink own index y ∈ fg_g) (hs : Cond.static y ∈ fg_g) (hini : Cond.initialized y.cls ∈ fg_g) (hcode : Cond.code y bytes maxL ret ∈ fg_g) (hR : fg_rm rm R maxL)
    (hX : fg_X s) (hz : fz_Z A s s.heap) (hK : va_K D classes (me_T ca) s) (hP : va_P D classes (me_W ad ca M) H) (hD : va_D A (me_W ad ca M)) (hS : va_S A s.heap H locs) (hA : ∀ q : Nat, s.heap.size ≤ q → A q) (hst : st = As.reverse ++ rest) (hsize : ls.size = nL) (hW : (rest.map fun v => v.category).sum ≤ 8) (hdg : decode cc pc = .ok (.invokestatic index, 3)) (hf : cells + rm.cells ≤ R.cells ∧ slots + rm.slots ≤ R.slots) :
    va_Run p l e R s m args below meth c H locs cells slots mc ms (F0 m pc ls st) rest (Qc As.toArray) free := by
  obtain ⟨hx, hb, hml, ho, hts⟩ := S
  have hKb : Back l R p e below s args y 3 8 (PreOf R rm.cells rm.slots (va_Pc As (fz_P D (me_T ca) (me_W ad ca M) H.size))) (PostOf Qc mc ms free) := al_back hts hM fz_blind hcode hini hR
  intro T hT X
  obtain ⟨v, vm₁, ⟨U', l2, c2, s2⟩, hW₁, X', ⟨g', mk, t, L, e1, e2, hq, h1, hL, h2, h3⟩, st⟩ := callS X hx (bytes := bytes) (maxL := maxL) (ret := ret) ho (hts _ hl) (hts _ hs) (hts _ hini) (hts _ hcode) ⟨hy.1, hy.2.1⟩ hKb (g := F0 m pc ls st) rfl (hsize.trans hml.symm) (argsL := As) (rest := rest) (al_len hy) hst (lv_room (rest := st) (pc := pc) (ls := ls) (m := m) hW) (by rw [hb]; exact hdg)
    (fun vm₁ hW₁ => ⟨hf.1, hf.2, al_pre hX hz hK hP hD hS hA As (T.setVm vm₁) hT hW₁⟩)
  dsimp only [Pt.U, Pt.locs, Pt.cells, Pt.slots] at X' e1 e2 h1 h2 h3 st
  subst h1; subst h2; subst h3
  exact ⟨v, (T.setVm vm₁).calling g' mk As.toArray, t, U', L, hT, X', hL, e1, e2, hq, st⟩
variable {a : Array Value}
/-- what a method that makes things leaves -/
abbrev al_P (ad : Nat → Nat → Nat) (N : Nat → Nat) (MZ : me_M) (u : Nat → Nat → Nat) : Prop := me_wf (mN MZ) MZ ∧ me_ok N (mN MZ) ∧ ∀ a b, b < N a → u a b = ad a b
theorem al_thenv {P1 : Prop} (hr : va_Run p l e R s m args below meth c H locs (me_cN N - me_cN N0) (me_sN N - me_sN N0) (me_cN (mN M1) - me_cN N) (me_sN (mN M1) - me_sN N) (F0 m pc ls st) rest (va_Qv (fun (u : Nat → Nat → Nat) => al_P ad N M1 u ∧ P1) (fg_B D (va_A (me_W ad ca M) H.size) (fun u => me_W u ca M1) (fun _ => [])) (va_A (me_W ad ca M) H.size) a) (va_A (me_W ad ca M) H.size))
    (hP : va_P D classes (me_W ad ca M) H) (hD : va_D A (me_W ad ca M)) (hok : me_ok N0 N) (hK : va_K D classes (me_T ca) s) (hS : va_S A s.heap H locs) (hA : ∀ q : Nat, s.heap.size ≤ q → A q)
    (kk : ∀ (ad1 : Nat → Nat → Nat) (N1 : Nat → Nat) (H1 : Heap) (locs1 : List Loc), (∀ a b, b < N a → ad1 a b = ad a b) → (∀ a, N a ≤ N1 a) → me_wf N1 M1 → me_ok N0 N1 → mN M1 = N1 → P1 → va_P D classes (me_W ad1 ca M1) H1 → va_D A (me_W ad1 ca M1) → va_S A s.heap H1 locs1 → W p l e R s m args below meth c H1 locs1 (me_cN N1 - me_cN N0) (me_sN N1 - me_sN N0) Q (F0 m (pc + 3) ls rest)) : W p l e R s m args below meth c H locs (me_cN N - me_cN N0) (me_sN N - me_sN N0) Q (F0 m pc ls st) :=
  fg_thenv (wr := []) hr hP hD hK hS hA (List.range (me_W ad ca M).length) [] me_all rfl rfl (fun i h => by cases h) (fun u H1 locs1 hw hP1 hD1 _ hS1 => by
    obtain ⟨⟨h1, h2, h3⟩, h4⟩ := hw
    refine W.widen ?_ ?_ (kk u (mN M1) H1 locs1 h3 h2.2.2.2.2 h1 (hok.tr h2) rfl h4 hP1 hD1 hS1)
    · have := hok.1; have := h2.1; omega
    · have := hok.2.1; have := h2.2.1; omega)
theorem al_theni {r0 : Int32} {P1 : Prop} (hr : va_Run p l e R s m args below meth c H locs (me_cN N - me_cN N0) (me_sN N - me_sN N0) (me_cN (mN M1) - me_cN N) (me_sN (mN M1) - me_sN N) (F0 m pc ls st) rest (va_Qi (fun r (u : Nat → Nat → Nat) => r = r0 ∧ al_P ad N M1 u ∧ P1) (fg_B D (va_A (me_W ad ca M) H.size) (fun u => me_W u ca M1) (fun _ => [])) (va_A (me_W ad ca M) H.size) a) (va_A (me_W ad ca M) H.size))
    (hP : va_P D classes (me_W ad ca M) H) (hD : va_D A (me_W ad ca M)) (hok : me_ok N0 N) (hK : va_K D classes (me_T ca) s) (hS : va_S A s.heap H locs) (hA : ∀ q : Nat, s.heap.size ≤ q → A q)
    (kk : ∀ (ad1 : Nat → Nat → Nat) (N1 : Nat → Nat) (H1 : Heap) (locs1 : List Loc), (∀ a b, b < N a → ad1 a b = ad a b) → (∀ a, N a ≤ N1 a) → me_wf N1 M1 → me_ok N0 N1 → mN M1 = N1 → P1 → va_P D classes (me_W ad1 ca M1) H1 → va_D A (me_W ad1 ca M1) → va_S A s.heap H1 locs1 → W p l e R s m args below meth c H1 locs1 (me_cN N1 - me_cN N0) (me_sN N1 - me_sN N0) Q (F0 m (pc + 3) ls (.int r0 :: rest))) : W p l e R s m args below meth c H locs (me_cN N - me_cN N0) (me_sN N - me_sN N0) Q (F0 m pc ls st) :=
  fg_theni (wr := []) hr hP hD hK hS hA (List.range (me_W ad ca M).length) [] me_all rfl rfl (fun i h => by cases h) (fun r u H1 locs1 hw hP1 hD1 _ hS1 => by
    obtain ⟨rfl, ⟨h1, h2, h3⟩, h4⟩ := hw
    refine W.widen ?_ ?_ (kk u (mN M1) H1 locs1 h3 h2.2.2.2.2 h1 (hok.tr h2) rfl h4 hP1 hD1 hS1)
    · have := hok.1; have := h2.1; omega
    · have := hok.2.1; have := h2.2.1; omega)
theorem al_thenr {k r0 : Nat} {P1 : Prop} (hr : va_Run p l e R s m args below meth c H locs (me_cN N - me_cN N0) (me_sN N - me_sN N0) (me_cN (mN M1) - me_cN N) (me_sN (mN M1) - me_sN N) (F0 m pc ls st) rest (va_Qq (fun r (u : Nat → Nat → Nat) => r = some (u k r0) ∧ al_P ad N M1 u ∧ P1) (fg_B D (va_A (me_W ad ca M) H.size) (fun u => me_W u ca M1) (fun _ => [])) (va_A (me_W ad ca M) H.size) a) (va_A (me_W ad ca M) H.size))
    (hP : va_P D classes (me_W ad ca M) H) (hD : va_D A (me_W ad ca M)) (hok : me_ok N0 N) (hK : va_K D classes (me_T ca) s) (hS : va_S A s.heap H locs) (hA : ∀ q : Nat, s.heap.size ≤ q → A q)
    (kk : ∀ (ad1 : Nat → Nat → Nat) (N1 : Nat → Nat) (H1 : Heap) (locs1 : List Loc), (∀ a b, b < N a → ad1 a b = ad a b) → (∀ a, N a ≤ N1 a) → me_wf N1 M1 → me_ok N0 N1 → mN M1 = N1 → P1 → va_P D classes (me_W ad1 ca M1) H1 → va_D A (me_W ad1 ca M1) → va_S A s.heap H1 locs1 → W p l e R s m args below meth c H1 locs1 (me_cN N1 - me_cN N0) (me_sN N1 - me_sN N0) Q (F0 m (pc + 3) ls (.ref (ad1 k r0) :: rest))) : W p l e R s m args below meth c H locs (me_cN N - me_cN N0) (me_sN N - me_sN N0) Q (F0 m pc ls st) :=
  fk_thenr (wr := []) (wc := me_W ad ca M) (wn := fun u => me_W u ca M1) hr (by rw [List.append_nil]) (fun _ => List.Perm.refl _) hP hD hK hS hA (fun r u H1 locs1 hw hP1 hD1 _ hS1 => by
    obtain ⟨rfl, ⟨h1, h2, h3⟩, h4⟩ := hw
    refine W.widen ?_ ?_ (kk u (mN M1) H1 locs1 h3 h2.2.2.2.2 h1 (hok.tr h2) rfl h4 hP1 hD1 hS1)
    · have := hok.1; have := h2.1; omega
    · have := hok.2.1; have := h2.2.1; omega)
variable {tys : fg_T} {MZ : me_M} {ad0 : Nat → Nat → Nat}
theorem al_retv (h : some M = some MZ) (hx : p.tables.exec = Jvm.exec) (hb : c.code = cc) (hr : meth.sig.returnType = none) (hlocks : meth.locks = false) (hwf : me_wf N M) (hok : me_ok N0 N) (hext0 : ∀ a b, b < N0 a → ad a b = ad0 a b) (hP : va_P D classes (me_W ad ca M) H) (hK : va_K D classes tys s) (hD : va_D A (me_W ad ca M)) (hS : va_S A s.heap H locs) (hdg : decode cc pc = .ok (.return_, 1)) : W p l e R s m args below meth c H locs (me_cN N - me_cN N0) (me_sN N - me_sN N0) (MQ below (va_Qv (fun (u : Nat → Nat → Nat) => al_P ad0 N0 MZ u ∧ True) (fg_B D A (fun u => me_W u ca MZ) (fun _ => [])) A) args s (me_cN (mN MZ) - me_cN N0) (me_sN (mN MZ) - me_sN N0) A) (F0 m pc ls []) := by
  cases h
  have e := hwf.1
  subst e
  exact fg_retv ad hx hb hr hlocks ⟨⟨hwf, hok, hext0⟩, trivial⟩ hP (me_K0 hK) hD hS (Nat.le_refl _) (Nat.le_refl _) hdg
theorem al_reti {v RZ : Int32} (h : some (M, v) = some (MZ, RZ)) (hx : p.tables.exec = Jvm.exec) (hb : c.code = cc) (hr : meth.sig.returnType = some .int) (hlocks : meth.locks = false) (hwf : me_wf N M) (hok : me_ok N0 N) (hext0 : ∀ a b, b < N0 a → ad a b = ad0 a b) (hP : va_P D classes (me_W ad ca M) H) (hK : va_K D classes tys s) (hD : va_D A (me_W ad ca M)) (hS : va_S A s.heap H locs) (hdg : decode cc pc = .ok (.ireturn, 1)) : W p l e R s m args below meth c H locs (me_cN N - me_cN N0) (me_sN N - me_sN N0) (MQ below (va_Qi (fun r (u : Nat → Nat → Nat) => r = RZ ∧ al_P ad0 N0 MZ u ∧ True) (fg_B D A (fun u => me_W u ca MZ) (fun _ => [])) A) args s (me_cN (mN MZ) - me_cN N0) (me_sN (mN MZ) - me_sN N0) A) (F0 m pc ls [.int v]) := by
  cases h
  have e := hwf.1
  subst e
  exact fg_reti ad hx hb hr hlocks ⟨rfl, ⟨hwf, hok, hext0⟩, trivial⟩ hP (me_K0 hK) hD hS (Nat.le_refl _) (Nat.le_refl _) hdg
theorem al_retz {v RZ : Int32} (h : some (M, v) = some (MZ, RZ)) (hz : v = 1 ∨ v = 0) (hx : p.tables.exec = Jvm.exec) (hb : c.code = cc) (hr : meth.sig.returnType = some .boolean) (hlocks : meth.locks = false) (hwf : me_wf N M) (hok : me_ok N0 N) (hext0 : ∀ a b, b < N0 a → ad a b = ad0 a b) (hP : va_P D classes (me_W ad ca M) H) (hK : va_K D classes tys s) (hD : va_D A (me_W ad ca M)) (hS : va_S A s.heap H locs) (hdg : decode cc pc = .ok (.ireturn, 1)) : W p l e R s m args below meth c H locs (me_cN N - me_cN N0) (me_sN N - me_sN N0) (MQ below (va_Qi (fun r (u : Nat → Nat → Nat) => r = RZ ∧ al_P ad0 N0 MZ u ∧ (RZ = 1 ∨ RZ = 0)) (fg_B D A (fun u => me_W u ca MZ) (fun _ => [])) A) args s (me_cN (mN MZ) - me_cN N0) (me_sN (mN MZ) - me_sN N0) A) (F0 m pc ls [.int v]) := by
  cases h
  have e := hwf.1
  subst e
  exact fg_retz ad hx hb hr hlocks (me_nz hz) ⟨rfl, ⟨hwf, hok, hext0⟩, hz⟩ hP (me_K0 hK) hD hS (Nat.le_refl _) (Nat.le_refl _) hdg
theorem al_retiX {v RZ : Int32} (h : some (M, v, 0) = some (MZ, RZ, 0)) (hx : p.tables.exec = Jvm.exec) (hb : c.code = cc) (hr : meth.sig.returnType = some .int) (hlocks : meth.locks = false) (hwf : me_wf N M) (hok : me_ok N0 N) (hext0 : ∀ a b, b < N0 a → ad a b = ad0 a b) (hP : va_P D classes (me_W ad ca M) H) (hK : va_K D classes tys s) (hD : va_D A (me_W ad ca M)) (hS : va_S A s.heap H locs) (hdg : decode cc pc = .ok (.ireturn, 1)) : W p l e R s m args below meth c H locs (me_cN N - me_cN N0) (me_sN N - me_sN N0) (MQ below (va_Qi (fun r (u : Nat → Nat → Nat) => r = RZ ∧ al_P ad0 N0 MZ u ∧ True) (fg_B D A (fun u => me_W u ca MZ) (fun _ => [])) A) args s (me_cN (mN MZ) - me_cN N0) (me_sN (mN MZ) - me_sN N0) A) (F0 m pc ls [.int v]) := by
  cases h
  have e := hwf.1
  subst e
  exact fg_reti ad hx hb hr hlocks ⟨rfl, ⟨hwf, hok, hext0⟩, trivial⟩ hP (me_K0 hK) hD hS (Nat.le_refl _) (Nat.le_refl _) hdg
theorem al_reta {k v RZ : Nat} {ty : FieldType} (h : some (M, v) = some (MZ, RZ)) (hv : v < N k) (hx : p.tables.exec = Jvm.exec) (hb : c.code = cc) (hr : meth.sig.returnType = some (.array ty)) (hlocks : meth.locks = false) (hwf : me_wf N M) (hok : me_ok N0 N) (hext0 : ∀ a b, b < N0 a → ad a b = ad0 a b) (hP : va_P D classes (me_W ad ca M) H) (hK : va_K D classes tys s) (hD : va_D A (me_W ad ca M)) (hS : va_S A s.heap H locs) (hdg : decode cc pc = .ok (.areturn, 1)) : W p l e R s m args below meth c H locs (me_cN N - me_cN N0) (me_sN N - me_sN N0) (MQ below (va_Qq (fun r (u : Nat → Nat → Nat) => r = some (u k RZ) ∧ al_P ad0 N0 MZ u ∧ RZ < mN MZ k) (fg_B D A (fun u => me_W u ca MZ) (fun _ => [])) A) args s (me_cN (mN MZ) - me_cN N0) (me_sN (mN MZ) - me_sN N0) A) (F0 m pc ls [.ref (ad k v)]) := by
  cases h
  have e := hwf.1
  subst e
  exact W.aret hx hb hr (Or.inr ⟨ty, rfl⟩) (Or.inr ⟨_, rfl⟩) (fun t ht hW => ⟨⟨some (ad k v), ad, rfl, ⟨rfl, ⟨hwf, hok, hext0⟩, hv⟩, by rw [ht]; exact hP, va_K.moved hW.alike (me_K0 hK), hD⟩, hS.F ht⟩) hS.2.2 hdg hlocks
/-- a final field, in its class's constructor -/
theorem me_putF {ref C : String} {T : u_T} {Nf : Nat} (hexec : p.tables.exec = Jvm.exec) (hb : c.code = cc) (hts : ∀ w ∈ fg_g, w.before args s = true) (hin : ∀ w ∈ u_ws C T Nf, w ∈ fg_g) (ty0 : Nat → FieldType) (hty : ∀ k, k < Nf → parseFieldDescriptor (T k).2.2.1 = some (ty0 k)) (hnm : ∀ a, a < Nf → ∀ b, b < Nf → a ≠ b → (T a).2.1 ≠ (T b).2.1) (hown : s.vm.findClass own = some m.cls) (hK : va_K D classes (me_T ca) s) (hP : va_P D classes (me_W ad ca M) H) (hD : va_D A (me_W ad ca M)) (hwf : me_wf N M) (hS : va_S A H0 H locs) {k j f : Nat} (hj : j < N k) (hk : k < 13) (hc : classes[k]? = some (C, T, Nf)) (hn : me_nf k = Nf) (hf : f < Nf) (hlink : (Cond.fieldLink own index ref (T f).2.1 (T f).2.2.1).before args s = true) (hsame : ∀ x, s.fieldFound? (T f).1 (T f).2.1 (T f).2.2.1 = some x → s.fieldFound? ref (T f).2.1 (T f).2.2.1 = some x) (hfin : (T f).2.2.2 = true) (hin2 : meth.name = "<init>") (hdecl : (T f).1 = own) {v : Value} (hnv : narrow (ty0 f) v = v) (hfit : fits (ty0 f) v = true)
    (hN1 : mN M1 = mN M) (hE : ∀ a b, a ≠ k ∨ b ≠ j → me_E ad ca M1 a b = me_E ad ca M a b) (hfl : (me_fl ad M k j).set f v = me_fl ad M1 k j) (hdg : decode cc pc = .ok (.putfield index, 3))
    (kk : ∀ (H1 : Heap) (locs1 : List Loc), va_P D classes (me_W ad ca M1) H1 → va_D A (me_W ad ca M1) → va_S A H0 H1 locs1 → W p l e R s m args below meth c H1 locs1 cells slots Q (F0 m (pc + 3) ls rest)) : W p l e R s m args below meth c H locs cells slots Q (F0 m pc ls (v :: .ref (ad k j) :: rest)) := by
  obtain ⟨q0, h0, h1⟩ := me_ix (A := A) (ad := ad) (ca := ca) (M := M) (k := k) (j := j) (by omega) (by rw [hwf.1]; exact hj)
  have h2 := h1 hD M1 hN1 hE
  have e1 : me_E ad ca M1 k j = .inr (k, me_fl ad M1 k j) := by unfold me_E; rw [if_pos hk]
  rw [e1] at h2
  refine va_putF hexec hb hts hin ty0 hty hnm hown hK hP hD hS q0 (fs := me_fl ad M k j) (by rw [h0]; unfold me_E; rw [if_pos hk]) hc f hf hlink hsame hfin hin2 hdecl (hty f hf) hnv hfit (by unfold me_fl; rw [List.length_map, List.length_range, hn]; exact hf) hdg (fun H1 locs1 a1 a2 a3 => ?_)
  rw [hfl, h2] at a1 a2
  exact kk H1 locs1 a1 a2 a3
end MEK
theorem al_ar13 {M : me_M} {ad : Nat → Nat → Nat} {n : Nat} : ((n, me_ar ad (nA M 13 n) 13 (mN M 13)) : vp_A) = (n, .inl (fun _ => 0)) := by
  show (n, Sum.inl (mI (nA M 13 n) 13 (mN M 13))) = _
  rw [show mI (nA M 13 n) 13 (mN M 13) = fun _ => 0 from funext (fun f => al_nA0.1 f)]
theorem al_ar14 {M : me_M} {ad : Nat → Nat → Nat} {n : Nat} : ((n, me_ar ad (nA M 14 n) 14 (mN M 14)) : vp_A) = (n, .inl (fun _ => 0)) := by
  show (n, Sum.inl (mI (nA M 14 n) 14 (mN M 14))) = _
  rw [show mI (nA M 14 n) 14 (mN M 14) = fun _ => 0 from funext (fun f => al_nA0.1 f)]
theorem al_ar15 {M : me_M} {ad : Nat → Nat → Nat} {n : Nat} : ((n, me_ar ad (nA M 15 n) 15 (mN M 15)) : vp_A) = (n, .inl (fun _ => 0)) := by
  show (n, Sum.inl (mI (nA M 15 n) 15 (mN M 15))) = _
  rw [show mI (nA M 15 n) 15 (mN M 15) = fun _ => 0 from funext (fun f => al_nA0.1 f)]
theorem al_ar16 {M : me_M} {ad : Nat → Nat → Nat} {n : Nat} : ((n, me_ar ad (nA M 16 n) 16 (mN M 16)) : vp_A) = (n, .inr (.inl (fun _ => 0))) := by
  show (n, Sum.inr (Sum.inl (mL (nA M 16 n) 16 (mN M 16)))) = _
  rw [show mL (nA M 16 n) 16 (mN M 16) = fun _ => 0 from funext (fun f => al_nA0.2.1 f)]
theorem me_sub1 (K : me_M → Prop) {H : Heap} {D : va_G} {A : Nat → Prop} {ad : Nat → Nat → Nat} {ca : Nat → ClassId} {M MZ : me_M} {N : Nat → Nat} (h : some M = some MZ) (hwf : me_wf N M) (hkp : K M) (hP : va_P D classes (me_W ad ca M) H) (hD : va_D A (me_W ad ca M)) : me_wf N MZ ∧ K MZ ∧ va_P D classes (me_W ad ca MZ) H ∧ va_D A (me_W ad ca MZ) := by
  cases h
  exact ⟨hwf, hkp, hP, hD⟩
section MEM9
variable {p : Program} {l : Launch} {e : Env} {R : Room} {s : State} {m : MethodId} {args : Array Value} {below : List Frame} {meth : Method} {c : Code} {H : Heap} {locs : List Loc} {Q : State → Prop} {pc : Nat} {ls : Array Slot} {rest : List Value} {N N0 : Nat → Nat}
theorem al_mmax {cc : ByteArray} (hok : me_ok N0 N) (hRc : R.cells = me_CL - me_cN N0) (hRs : R.slots = me_SL - me_sN N0) (hexec : p.tables.exec = Jvm.exec) (hb : c.code = cc) (hml : c.maxLocals = ls.size) {own : String} {index : Nat} (hown : s.vm.findClass own = some m.cls) (hlink : (Cond.methodLink own index Lib.Math.max.name).before args s = true) (hstat : (Cond.static Lib.Math.max.name).before args s = true) (hini : (Cond.initialized "java/lang/Math").before args s = true) (hcode : (Cond.code Lib.Math.max.name Lib.Math.max.code 2 (some .int)).before args s = true)
    (hframes : 1 ≤ R.frames) (hlocals : (rest.map fun v => v.category).sum + 13 ≤ R.locals) {x y : Int32} (hdg : decode cc pc = .ok (.invokestatic index, 3))
    (kk : W p l e R s m args below meth c H locs (me_cN N - me_cN N0) (me_sN N - me_sN N0) Q (F0 m (pc + 3) ls (.int (if x < y then y else x) :: rest))) : W p l e R s m args below meth c H locs (me_cN N - me_cN N0) (me_sN N - me_sN N0) Q (F0 m pc ls (.int y :: .int x :: rest)) := by
  obtain ⟨h1, h2, h3, h4, -⟩ := hok
  exact va_mmax hexec hb hml hown hlink hstat hini hcode hframes hlocals (by rw [hRc]; omega) (by rw [hRs]; omega) hdg kk
theorem al_mmin {cc : ByteArray} (hok : me_ok N0 N) (hRc : R.cells = me_CL - me_cN N0) (hRs : R.slots = me_SL - me_sN N0) (hexec : p.tables.exec = Jvm.exec) (hb : c.code = cc) (hml : c.maxLocals = ls.size) {own : String} {index : Nat} (hown : s.vm.findClass own = some m.cls) (hlink : (Cond.methodLink own index Lib.Math.min.name).before args s = true) (hstat : (Cond.static Lib.Math.min.name).before args s = true) (hini : (Cond.initialized "java/lang/Math").before args s = true) (hcode : (Cond.code Lib.Math.min.name Lib.Math.min.code 2 (some .int)).before args s = true)
    (hframes : 1 ≤ R.frames) (hlocals : (rest.map fun v => v.category).sum + 13 ≤ R.locals) {x y : Int32} (hdg : decode cc pc = .ok (.invokestatic index, 3))
    (kk : W p l e R s m args below meth c H locs (me_cN N - me_cN N0) (me_sN N - me_sN N0) Q (F0 m (pc + 3) ls (.int (if y < x then y else x) :: rest))) : W p l e R s m args below meth c H locs (me_cN N - me_cN N0) (me_sN N - me_sN N0) Q (F0 m pc ls (.int y :: .int x :: rest)) := by
  obtain ⟨h1, h2, h3, h4, -⟩ := hok
  exact va_mmin hexec hb hml hown hlink hstat hini hcode hframes hlocals (by rw [hRc]; omega) (by rw [hRs]; omega) hdg kk
end MEM9
theorem oc_n {α β : Type} {x y : β} {f : α → β} (h : oc none x f = y) : x = y := h
theorem oc_s {α β : Type} {j : α} {x y : β} {f : α → β} (h : oc (some j) x f = y) : f j = y := h
