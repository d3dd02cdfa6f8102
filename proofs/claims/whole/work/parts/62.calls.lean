section MEC
variable {p : Program} {l : Launch} {e : Env} {R : Room} {s : State} {m : MethodId} {args : Array Value} {below : List Frame} {meth : Method} {c : Code} {H : Heap} {locs : List Loc} {cells slots : Nat} {Q : State → Prop}
variable {cc : ByteArray} {pc nL maxL index : Nat} {ls : Array Slot} {D : va_G} {A : Nat → Prop} {y : MethodName} {bytes : ByteArray} {ret : Option FieldType} {rm : Room} {own : String} {As rest st : List Value} {Qc : Array Value → State → Outcome → State → Prop} {free : Addr → Prop}
variable {ad : Nat → Nat → Nat} {ca : Nat → ClassId} {M M1 : me_M} {N : Nat → Nat}
theorem me_zat (hz : fz_Z A s s.heap) (hD : va_D A (me_W ad ca M)) (hS : va_S A s.heap H locs) (hA : ∀ q : Nat, s.heap.size ≤ q → A q) : fz_Z (va_A (me_W ad ca M) H.size) s H :=
  hz.at (wr := []) (ws := me_W ad ca M) (by rw [List.append_nil]) hD hS hA
theorem me_runV {C : String} {k j : Nat} (S : CallFix p m c cc nL s args fg_g own) (hM : Met l y (fg_w y bytes maxL ret) rm (va_Pc (.ref (ad k j) :: As) (fz_P D (me_T ca) (me_W ad ca M) H.size)) Qc rm.cells rm.slots free)
    (hC : y.cls = C) (hy : fg_nm y As.length) (hl : Cond.methodLink own index y ∈ fg_g) (hin : Cond.instanceMethod y ∈ fg_g) (hse : Cond.selects C y y ∈ fg_g) (hini : Cond.initialized C ∈ fg_g) (hcode : Cond.code y bytes maxL ret ∈ fg_g) (hR : fg_rm rm R maxL)
    (hX : fg_X s) (hz : fz_Z A s s.heap) (hK : va_K D classes (me_T ca) s) (hP : va_P D classes (me_W ad ca M) H) (hD : va_D A (me_W ad ca M)) (hwf : me_wf N M) (hS : va_S A s.heap H locs) (hA : ∀ q : Nat, s.heap.size ≤ q → A q) (hj : j < N k) (hk : k < 13) {q : vw_C} (hc : classes[k]? = some q) (hq : q.1 = C) (hst : st = As.reverse ++ .ref (ad k j) :: rest) (hsize : ls.size = nL) (hW : (rest.map fun v => v.category).sum ≤ 8) (hdg : decode cc pc = .ok (.invokevirtual index, 3)) (hf : cells + rm.cells ≤ R.cells ∧ slots + rm.slots ≤ R.slots) :
    va_Run p l e R s m args below meth c H locs cells slots rm.cells rm.slots (F0 m pc ls st) rest (Qc (Value.ref (ad k j) :: As).toArray) free := by
  obtain ⟨q0, h0, -⟩ := me_ix (A := fun _ => True) (ad := ad) (ca := ca) (M := M) (k := k) (j := j) (by omega) (by rw [hwf.1]; exact hj)
  exact fz_runV S hM hC hy hl hin hse hini hcode hR hX hP hK hD (me_zat hz hD hS hA) (q0 := q0) (fs := me_fl ad M k j) hc hq (by rw [h0]; unfold me_E; rw [if_pos hk]) hst hsize hW hdg hf
theorem me_runVN {C host : String} {k j : Nat} (S : CallFix p m c cc nL s args fg_g own) (hM : Met l y (fg_w y bytes maxL ret) rm (va_Pc (.ref (ad k j) :: As) (fz_P D (me_T ca) (me_W ad ca M) H.size)) Qc rm.cells rm.slots free)
    (hC : y.cls = C) (hy : fg_nm y As.length) (hl : Cond.methodLinkNest own index y host ∈ lw_tbl) (hin : Cond.instanceMethod y ∈ fg_g) (hse : Cond.selects C y y ∈ fg_g) (hini : Cond.initialized C ∈ fg_g) (hcode : Cond.code y bytes maxL ret ∈ fg_g) (hR : fg_rm rm R maxL)
    (hX : fg_X s) (hz : fz_Z A s s.heap) (hK : va_K D classes (me_T ca) s) (hP : va_P D classes (me_W ad ca M) H) (hD : va_D A (me_W ad ca M)) (hwf : me_wf N M) (hS : va_S A s.heap H locs) (hA : ∀ q : Nat, s.heap.size ≤ q → A q) (hj : j < N k) (hk : k < 13) {q : vw_C} (hc : classes[k]? = some q) (hq : q.1 = C) (hst : st = As.reverse ++ .ref (ad k j) :: rest) (hsize : ls.size = nL) (hW : (rest.map fun v => v.category).sum ≤ 8) (hdg : decode cc pc = .ok (.invokevirtual index, 3)) (hf : cells + rm.cells ≤ R.cells ∧ slots + rm.slots ≤ R.slots) :
    va_Run p l e R s m args below meth c H locs cells slots rm.cells rm.slots (F0 m pc ls st) rest (Qc (Value.ref (ad k j) :: As).toArray) free := by
  obtain ⟨q0, h0, -⟩ := me_ix (A := fun _ => True) (ad := ad) (ca := ca) (M := M) (k := k) (j := j) (by omega) (by rw [hwf.1]; exact hj)
  exact fz_runVN S hM hC hy hl hin hse hini hcode hR hX hP hK hD (me_zat hz hD hS hA) (q0 := q0) (fs := me_fl ad M k j) hc hq (by rw [h0]; unfold me_E; rw [if_pos hk]) hst hsize hW hdg hf
variable {mc ms : Nat} {a : Array Value} {P1 : Prop}
theorem me_all {ws : va_W} : (List.range ws.length).map (fun i => ws[i]?) = ws.map some := by
  have h := fk_ixC (wc := ws) (wr := [])
  rw [List.append_nil] at h
  exact h
theorem me_thenv (hr : va_Run p l e R s m args below meth c H locs cells slots mc ms (F0 m pc ls st) rest (va_Qv (fun (_ : Unit) => P1) (fg_B D (va_A (me_W ad ca M) H.size) (fun _ => me_W ad ca M1) (fun _ => [])) (va_A (me_W ad ca M) H.size) a) (va_A (me_W ad ca M) H.size))
    (hP : va_P D classes (me_W ad ca M) H) (hD : va_D A (me_W ad ca M)) (hK : va_K D classes (me_T ca) s) (hS : va_S A s.heap H locs) (hA : ∀ q : Nat, s.heap.size ≤ q → A q)
    (kk : ∀ (H1 : Heap) (locs1 : List Loc), P1 → va_P D classes (me_W ad ca M1) H1 → va_D A (me_W ad ca M1) → va_S A s.heap H1 locs1 → W p l e R s m args below meth c H1 locs1 (cells + mc) (slots + ms) Q (F0 m (pc + 3) ls rest)) : W p l e R s m args below meth c H locs cells slots Q (F0 m pc ls st) :=
  fg_thenv (wr := []) hr hP hD hK hS hA (List.range (me_W ad ca M).length) [] me_all rfl rfl (fun i h => by cases h) (fun _ H1 locs1 hw hP1 hD1 _ hS1 => kk H1 locs1 hw hP1 hD1 hS1)
theorem me_theni {r0 : Int32} (hr : va_Run p l e R s m args below meth c H locs cells slots mc ms (F0 m pc ls st) rest (va_Qi (fun r (_ : Unit) => r = r0 ∧ P1) (fg_B D (va_A (me_W ad ca M) H.size) (fun _ => me_W ad ca M1) (fun _ => [])) (va_A (me_W ad ca M) H.size) a) (va_A (me_W ad ca M) H.size))
    (hP : va_P D classes (me_W ad ca M) H) (hD : va_D A (me_W ad ca M)) (hK : va_K D classes (me_T ca) s) (hS : va_S A s.heap H locs) (hA : ∀ q : Nat, s.heap.size ≤ q → A q)
    (kk : ∀ (H1 : Heap) (locs1 : List Loc), P1 → va_P D classes (me_W ad ca M1) H1 → va_D A (me_W ad ca M1) → va_S A s.heap H1 locs1 → W p l e R s m args below meth c H1 locs1 (cells + mc) (slots + ms) Q (F0 m (pc + 3) ls (.int r0 :: rest))) : W p l e R s m args below meth c H locs cells slots Q (F0 m pc ls st) :=
  fg_theni (wr := []) hr hP hD hK hS hA (List.range (me_W ad ca M).length) [] me_all rfl rfl (fun i h => by cases h) (fun r _ H1 locs1 hw hP1 hD1 _ hS1 => by obtain ⟨rfl, hw⟩ := hw; exact kk H1 locs1 hw hP1 hD1 hS1)
theorem me_thenl {r0 : Int64} (hr : va_Run p l e R s m args below meth c H locs cells slots mc ms (F0 m pc ls st) rest (va_Ql (fun r (_ : Unit) => r = r0 ∧ P1) (fg_B D (va_A (me_W ad ca M) H.size) (fun _ => me_W ad ca M1) (fun _ => [])) (va_A (me_W ad ca M) H.size) a) (va_A (me_W ad ca M) H.size))
    (hP : va_P D classes (me_W ad ca M) H) (hD : va_D A (me_W ad ca M)) (hK : va_K D classes (me_T ca) s) (hS : va_S A s.heap H locs) (hA : ∀ q : Nat, s.heap.size ≤ q → A q)
    (kk : ∀ (H1 : Heap) (locs1 : List Loc), P1 → va_P D classes (me_W ad ca M1) H1 → va_D A (me_W ad ca M1) → va_S A s.heap H1 locs1 → W p l e R s m args below meth c H1 locs1 (cells + mc) (slots + ms) Q (F0 m (pc + 3) ls (.long r0 :: rest))) : W p l e R s m args below meth c H locs cells slots Q (F0 m pc ls st) :=
  fg_thenl (wr := []) hr hP hD hK hS hA (List.range (me_W ad ca M).length) [] me_all rfl rfl (fun i h => by cases h) (fun r _ H1 locs1 hw hP1 hD1 _ hS1 => by obtain ⟨rfl, hw⟩ := hw; exact kk H1 locs1 hw hP1 hD1 hS1)
theorem me_thenr {r0 : Nat} (hr : va_Run p l e R s m args below meth c H locs cells slots mc ms (F0 m pc ls st) rest (va_Qq (fun r (_ : Unit) => r = some r0 ∧ P1) (fg_B D (va_A (me_W ad ca M) H.size) (fun _ => me_W ad ca M1) (fun _ => [])) (va_A (me_W ad ca M) H.size) a) (va_A (me_W ad ca M) H.size))
    (hP : va_P D classes (me_W ad ca M) H) (hD : va_D A (me_W ad ca M)) (hK : va_K D classes (me_T ca) s) (hS : va_S A s.heap H locs) (hA : ∀ q : Nat, s.heap.size ≤ q → A q)
    (kk : ∀ (H1 : Heap) (locs1 : List Loc), P1 → va_P D classes (me_W ad ca M1) H1 → va_D A (me_W ad ca M1) → va_S A s.heap H1 locs1 → W p l e R s m args below meth c H1 locs1 (cells + mc) (slots + ms) Q (F0 m (pc + 3) ls (.ref r0 :: rest))) : W p l e R s m args below meth c H locs cells slots Q (F0 m pc ls st) :=
  fk_thenr (wr := []) (wc := me_W ad ca M) (wn := fun _ => me_W ad ca M1) hr (by rw [List.append_nil]) (fun _ => List.Perm.refl _) hP hD hK hS hA (fun r _ H1 locs1 hw hP1 hD1 _ hS1 => by obtain ⟨rfl, hw⟩ := hw; exact kk H1 locs1 hw hP1 hD1 hS1)
/-- a method that touches no cell -/
theorem me_pani {r0 : Int32} (hr : va_Run p l e R s m args below meth c H locs cells slots mc ms (F0 m pc ls st) rest (va_Qi (fun r (_ : Unit) => r = r0 ∧ P1) (fg_B D (va_A [] H.size) (fun _ => []) (fun _ => [])) (va_A [] H.size) a) (va_A [] H.size))
    (hP : va_P D classes (me_W ad ca M) H) (hD : va_D A (me_W ad ca M)) (hK : va_K D classes (me_T ca) s) (hS : va_S A s.heap H locs) (hA : ∀ q : Nat, s.heap.size ≤ q → A q)
    (kk : ∀ (H1 : Heap) (locs1 : List Loc), P1 → va_P D classes (me_W ad ca M) H1 → va_D A (me_W ad ca M) → va_S A s.heap H1 locs1 → W p l e R s m args below meth c H1 locs1 (cells + mc) (slots + ms) Q (F0 m (pc + 3) ls (.int r0 :: rest))) : W p l e R s m args below meth c H locs cells slots Q (F0 m pc ls st) :=
  fg_theni (wr := me_W ad ca M) hr hP hD hK hS hA [] (List.range (me_W ad ca M).length) rfl me_all (fk_nd _ List.nodup_range) (fun i _ h => by cases h) (fun r _ H1 locs1 hw hP1 hD1 _ hS1 => by obtain ⟨rfl, hw⟩ := hw; exact kk H1 locs1 hw (by rw [List.append_nil] at hP1; exact hP1) (by rw [List.append_nil] at hD1; exact hD1) hS1)
theorem me_panl {r0 : Int64} (hr : va_Run p l e R s m args below meth c H locs cells slots mc ms (F0 m pc ls st) rest (va_Ql (fun r (_ : Unit) => r = r0 ∧ P1) (fg_B D (va_A [] H.size) (fun _ => []) (fun _ => [])) (va_A [] H.size) a) (va_A [] H.size))
    (hP : va_P D classes (me_W ad ca M) H) (hD : va_D A (me_W ad ca M)) (hK : va_K D classes (me_T ca) s) (hS : va_S A s.heap H locs) (hA : ∀ q : Nat, s.heap.size ≤ q → A q)
    (kk : ∀ (H1 : Heap) (locs1 : List Loc), P1 → va_P D classes (me_W ad ca M) H1 → va_D A (me_W ad ca M) → va_S A s.heap H1 locs1 → W p l e R s m args below meth c H1 locs1 (cells + mc) (slots + ms) Q (F0 m (pc + 3) ls (.long r0 :: rest))) : W p l e R s m args below meth c H locs cells slots Q (F0 m pc ls st) :=
  fg_thenl (wr := me_W ad ca M) hr hP hD hK hS hA [] (List.range (me_W ad ca M).length) rfl me_all (fk_nd _ List.nodup_range) (fun i _ h => by cases h) (fun r _ H1 locs1 hw hP1 hD1 _ hS1 => by obtain ⟨rfl, hw⟩ := hw; exact kk H1 locs1 hw (by rw [List.append_nil] at hP1; exact hP1) (by rw [List.append_nil] at hD1; exact hD1) hS1)
theorem me_opt {o : Option Nat} {j t : Nat} (h : o = some j) (k : W p l e R s m args below meth c H locs cells slots Q (F0 m pc ls (.ref (ad t j) :: rest))) : W p l e R s m args below meth c H locs cells slots Q (F0 m pc ls (va_rf (o.map (ad t)) :: rest)) := by
  subst h
  exact k
end MEC
theorem me_P0 {D : va_G} {H : Heap} : va_P D classes [] H := fun k q h => by simp at h
theorem me_D0 {A : Nat → Prop} : va_D A [] := ⟨fun i j p q h => by simp at h, fun k q h => by simp at h⟩
theorem me_in {i : Int32} {k n : Nat} (h0 : ¬ i < 0) (h1 : i.toNatClampNeg = k) (h : k < n) : ¬ (i < 0 ∨ n ≤ i.toNatClampNeg) := by
  rintro (z | z)
  · exact h0 z
  · omega
section MEO
variable {p : Program} {l : Launch} {e : Env} {R : Room} {s : State} {m : MethodId} {args : Array Value} {below : List Frame} {meth : Method} {c : Code} {H : Heap} {locs : List Loc} {cells slots : Nat} {Q : State → Prop}
variable {cc : ByteArray} {pc : Nat} {ls : Array Slot} {D : va_G} {A : Nat → Prop} {rest st : List Value}
variable {ad : Nat → Nat → Nat} {ca : Nat → ClassId} {M M1 : me_M} {mc ms : Nat} {a : Array Value} {P1 : Prop}
theorem me_thenv0 (hr : va_Run p l e R s m args below meth c H locs cells slots mc ms (F0 m pc ls st) rest (va_Qv (fun (_ : Unit) => P1) (fg_B D (va_A (me_W ad ca M) H.size) (fun _ => me_W ad ca M1) (fun _ => [])) (va_A (me_W ad ca M) H.size) a) (va_A (me_W ad ca M) H.size))
    (hP : va_P D classes (me_W ad ca M) H) (hD : va_D A (me_W ad ca M)) (hK : va_K D classes (me_T ca) s) (hS : va_S A s.heap H locs) (hA : ∀ q : Nat, s.heap.size ≤ q → A q) (hm : mc = 0) (hs : ms = 0)
    (kk : ∀ (H1 : Heap) (locs1 : List Loc), P1 → va_P D classes (me_W ad ca M1) H1 → va_D A (me_W ad ca M1) → va_S A s.heap H1 locs1 → W p l e R s m args below meth c H1 locs1 cells slots Q (F0 m (pc + 3) ls rest)) : W p l e R s m args below meth c H locs cells slots Q (F0 m pc ls st) :=
  me_thenv hr hP hD hK hS hA (fun H1 locs1 a1 a2 a3 a4 => by rw [hm, hs]; exact kk H1 locs1 a1 a2 a3 a4)
theorem me_theni0 {r0 : Int32} (hr : va_Run p l e R s m args below meth c H locs cells slots mc ms (F0 m pc ls st) rest (va_Qi (fun r (_ : Unit) => r = r0 ∧ P1) (fg_B D (va_A (me_W ad ca M) H.size) (fun _ => me_W ad ca M1) (fun _ => [])) (va_A (me_W ad ca M) H.size) a) (va_A (me_W ad ca M) H.size))
    (hP : va_P D classes (me_W ad ca M) H) (hD : va_D A (me_W ad ca M)) (hK : va_K D classes (me_T ca) s) (hS : va_S A s.heap H locs) (hA : ∀ q : Nat, s.heap.size ≤ q → A q) (hm : mc = 0) (hs : ms = 0)
    (kk : ∀ (H1 : Heap) (locs1 : List Loc), P1 → va_P D classes (me_W ad ca M1) H1 → va_D A (me_W ad ca M1) → va_S A s.heap H1 locs1 → W p l e R s m args below meth c H1 locs1 cells slots Q (F0 m (pc + 3) ls (.int r0 :: rest))) : W p l e R s m args below meth c H locs cells slots Q (F0 m pc ls st) :=
  me_theni hr hP hD hK hS hA (fun H1 locs1 a1 a2 a3 a4 => by rw [hm, hs]; exact kk H1 locs1 a1 a2 a3 a4)
theorem me_thenl0 {r0 : Int64} (hr : va_Run p l e R s m args below meth c H locs cells slots mc ms (F0 m pc ls st) rest (va_Ql (fun r (_ : Unit) => r = r0 ∧ P1) (fg_B D (va_A (me_W ad ca M) H.size) (fun _ => me_W ad ca M1) (fun _ => [])) (va_A (me_W ad ca M) H.size) a) (va_A (me_W ad ca M) H.size))
    (hP : va_P D classes (me_W ad ca M) H) (hD : va_D A (me_W ad ca M)) (hK : va_K D classes (me_T ca) s) (hS : va_S A s.heap H locs) (hA : ∀ q : Nat, s.heap.size ≤ q → A q) (hm : mc = 0) (hs : ms = 0)
    (kk : ∀ (H1 : Heap) (locs1 : List Loc), P1 → va_P D classes (me_W ad ca M1) H1 → va_D A (me_W ad ca M1) → va_S A s.heap H1 locs1 → W p l e R s m args below meth c H1 locs1 cells slots Q (F0 m (pc + 3) ls (.long r0 :: rest))) : W p l e R s m args below meth c H locs cells slots Q (F0 m pc ls st) :=
  me_thenl hr hP hD hK hS hA (fun H1 locs1 a1 a2 a3 a4 => by rw [hm, hs]; exact kk H1 locs1 a1 a2 a3 a4)
theorem me_thenr0 {r0 : Nat} (hr : va_Run p l e R s m args below meth c H locs cells slots mc ms (F0 m pc ls st) rest (va_Qq (fun r (_ : Unit) => r = some r0 ∧ P1) (fg_B D (va_A (me_W ad ca M) H.size) (fun _ => me_W ad ca M1) (fun _ => [])) (va_A (me_W ad ca M) H.size) a) (va_A (me_W ad ca M) H.size))
    (hP : va_P D classes (me_W ad ca M) H) (hD : va_D A (me_W ad ca M)) (hK : va_K D classes (me_T ca) s) (hS : va_S A s.heap H locs) (hA : ∀ q : Nat, s.heap.size ≤ q → A q) (hm : mc = 0) (hs : ms = 0)
    (kk : ∀ (H1 : Heap) (locs1 : List Loc), P1 → va_P D classes (me_W ad ca M1) H1 → va_D A (me_W ad ca M1) → va_S A s.heap H1 locs1 → W p l e R s m args below meth c H1 locs1 cells slots Q (F0 m (pc + 3) ls (.ref r0 :: rest))) : W p l e R s m args below meth c H locs cells slots Q (F0 m pc ls st) :=
  me_thenr hr hP hD hK hS hA (fun H1 locs1 a1 a2 a3 a4 => by rw [hm, hs]; exact kk H1 locs1 a1 a2 a3 a4)
theorem me_pani' {r0 : Int32} (hr : va_Run p l e R s m args below meth c H locs cells slots mc ms (F0 m pc ls st) rest (va_Qi (fun r (_ : Unit) => r = r0 ∧ P1) (fg_B D (va_A [] H.size) (fun _ => []) (fun _ => [])) (va_A [] H.size) a) (va_A [] H.size))
    (hP : va_P D classes (me_W ad ca M) H) (hD : va_D A (me_W ad ca M)) (hK : va_K D classes (me_T ca) s) (hS : va_S A s.heap H locs) (hA : ∀ q : Nat, s.heap.size ≤ q → A q) (hm : mc = 0) (hs : ms = 0)
    (kk : ∀ (H1 : Heap) (locs1 : List Loc), P1 → va_P D classes (me_W ad ca M) H1 → va_D A (me_W ad ca M) → va_S A s.heap H1 locs1 → W p l e R s m args below meth c H1 locs1 cells slots Q (F0 m (pc + 3) ls (.int r0 :: rest))) : W p l e R s m args below meth c H locs cells slots Q (F0 m pc ls st) :=
  me_pani hr hP hD hK hS hA (fun H1 locs1 a1 a2 a3 a4 => by rw [hm, hs]; exact kk H1 locs1 a1 a2 a3 a4)
theorem me_panl' {r0 : Int64} (hr : va_Run p l e R s m args below meth c H locs cells slots mc ms (F0 m pc ls st) rest (va_Ql (fun r (_ : Unit) => r = r0 ∧ P1) (fg_B D (va_A [] H.size) (fun _ => []) (fun _ => [])) (va_A [] H.size) a) (va_A [] H.size))
    (hP : va_P D classes (me_W ad ca M) H) (hD : va_D A (me_W ad ca M)) (hK : va_K D classes (me_T ca) s) (hS : va_S A s.heap H locs) (hA : ∀ q : Nat, s.heap.size ≤ q → A q) (hm : mc = 0) (hs : ms = 0)
    (kk : ∀ (H1 : Heap) (locs1 : List Loc), P1 → va_P D classes (me_W ad ca M) H1 → va_D A (me_W ad ca M) → va_S A s.heap H1 locs1 → W p l e R s m args below meth c H1 locs1 cells slots Q (F0 m (pc + 3) ls (.long r0 :: rest))) : W p l e R s m args below meth c H locs cells slots Q (F0 m pc ls st) :=
  me_panl hr hP hD hK hS hA (fun H1 locs1 a1 a2 a3 a4 => by rw [hm, hs]; exact kk H1 locs1 a1 a2 a3 a4)
theorem me_pani0 {r0 : Int32} {tys : fg_T} (hr : va_Run p l e R s m args below meth c H locs cells slots mc ms (F0 m pc ls st) rest (va_Qi (fun r (_ : Unit) => r = r0 ∧ P1) (fg_B D (va_A [] H.size) (fun _ => []) (fun _ => [])) (va_A [] H.size) a) (va_A [] H.size))
    (hK : va_K D classes tys s) (hS : va_S A s.heap H locs) (hA : ∀ q : Nat, s.heap.size ≤ q → A q) (hm : mc = 0) (hs : ms = 0)
    (kk : ∀ (H1 : Heap) (locs1 : List Loc), P1 → va_S A s.heap H1 locs1 → W p l e R s m args below meth c H1 locs1 cells slots Q (F0 m (pc + 3) ls (.int r0 :: rest))) : W p l e R s m args below meth c H locs cells slots Q (F0 m pc ls st) :=
  fg_theni (wr := []) hr (me_P0 (H := H)) (me_D0 (A := A)) hK hS hA [] [] rfl rfl rfl (fun i h => by cases h) (fun r _ H1 locs1 hw _ _ _ hS1 => by obtain ⟨rfl, hw⟩ := hw; rw [hm, hs]; exact kk H1 locs1 hw hS1)
theorem me_panl0 {r0 : Int64} {tys : fg_T} (hr : va_Run p l e R s m args below meth c H locs cells slots mc ms (F0 m pc ls st) rest (va_Ql (fun r (_ : Unit) => r = r0 ∧ P1) (fg_B D (va_A [] H.size) (fun _ => []) (fun _ => [])) (va_A [] H.size) a) (va_A [] H.size))
    (hK : va_K D classes tys s) (hS : va_S A s.heap H locs) (hA : ∀ q : Nat, s.heap.size ≤ q → A q) (hm : mc = 0) (hs : ms = 0)
    (kk : ∀ (H1 : Heap) (locs1 : List Loc), P1 → va_S A s.heap H1 locs1 → W p l e R s m args below meth c H1 locs1 cells slots Q (F0 m (pc + 3) ls (.long r0 :: rest))) : W p l e R s m args below meth c H locs cells slots Q (F0 m pc ls st) :=
  fg_thenl (wr := []) hr (me_P0 (H := H)) (me_D0 (A := A)) hK hS hA [] [] rfl rfl rfl (fun i h => by cases h) (fun r _ H1 locs1 hw _ _ _ hS1 => by obtain ⟨rfl, hw⟩ := hw; rw [hm, hs]; exact kk H1 locs1 hw hS1)
end MEO
def jishl (x k : Int32) : Int32 := x <<< (k &&& 31)
def jishr (x k : Int32) : Int32 := x >>> (k &&& 31)
def jiushr (x k : Int32) : Int32 := (x.toUInt32 >>> (k.toUInt32 &&& Int32.toUInt32 31)).toInt32
def jlshl (x : Int64) (k : Int32) : Int64 := x <<< (k.toInt64 &&& 63)
def jlshr (x : Int64) (k : Int32) : Int64 := x >>> (k.toInt64 &&& 63)
def jlushr (x : Int64) (k : Int32) : Int64 := (x.toUInt64 >>> (k.toInt64.toUInt64 &&& Int64.toUInt64 63)).toInt64
def jirem (x y : Int32) : Int32 := x - x / y * y
def jlrem (x y : Int64) : Int64 := x - x / y * y
def jimax (x y : Int32) : Int32 := if x < y then y else x
def jimin (x y : Int32) : Int32 := if y < x then y else x
def jlmax (x y : Int64) : Int64 := if y < x then x else y
def jlmin (x y : Int64) : Int64 := if y < x then y else x
