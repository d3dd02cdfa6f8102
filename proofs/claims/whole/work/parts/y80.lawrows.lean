/-! Rows of the law: the class's memory and the reference's stand side by side. -/
theorem fk_Pr {D : va_G} {cl : List vw_C} {a b : va_W} {H : Heap} (hP : va_P D cl (a ++ b) H) : va_P D cl b H := fk_P.mpr (fun q hq => fk_P.mp hP q (List.mem_append_right _ hq))
theorem fk_Dr {A : Nat → Prop} {a b : va_W} (hD : va_D A (a ++ b)) : va_D A b := fk_D.mpr ⟨(List.pairwise_append.mp (fk_D.mp hD).1).2.1, fun q hq => (fk_D.mp hD).2 q (List.mem_append_right _ hq)⟩
section LWR
variable {p : Program} {l : Launch} {e : Env} {Rm : Room} {s : State} {m : MethodId} {args : Array Value} {below : List Frame} {meth : Method} {c : Code} {H : Heap} {locs : List Loc} {cells slots : Nat} {Q : State → Prop}
variable {cc : ByteArray} {pc nL maxL index mc ms : Nat} {ls : Array Slot} {D : va_G} {A : Nat → Prop} {y : MethodName} {bytes : ByteArray} {ret : Option FieldType} {rm : Room} {own : String} {As rest st : List Value} {Qc : Array Value → State → Outcome → State → Prop} {free : Addr → Prop} {a : Array Value} {P1 : Prop}
variable {ad bd : Nat → Nat → Nat} {ca : Nat → ClassId} {M M1 R R1 : me_M} {N : Nat → Nat} {wf : va_W}
/-- a new thing of a memory that stands behind other cells -/
theorem lw_new {C : String} {T : u_T} {Nf k : Nat} {fs : List Value} (he : M1 = nO M k) (hexec : p.tables.exec = Jvm.exec) (hb : c.code = cc) (hts : ∀ w ∈ fg_g, w.before args s = true) (hin : ∀ w ∈ u_ws C T Nf, w ∈ fg_g) (ty : Nat → FieldType) (hty : ∀ k, k < Nf → parseFieldDescriptor (T k).2.2.1 = some (ty k)) (hown : s.vm.findClass own = some m.cls) (hcl : (Cond.classLink own index C).before args s = true) (hinst : (Cond.instantiable C Nf).before args s = true) (hini : (Cond.initialized C).before args s = true)
    {tys : fg_T} (hK : va_K D classes tys s) (hP : va_P D classes (wf ++ me_W ad ca M) H) (hD : va_D A (wf ++ me_W ad ca M)) (hwf : me_wf N M) {H0 : Heap} (hS : va_S A H0 H locs) (hA : ∀ q, H0.size ≤ q → A q) (hk : k < 13) (hc : classes[k]? = some (C, T, Nf)) (hfs : ∀ j, j < Nf → defaultValue (ty j) = vp_V fs j) (hz0 : (List.range (me_nf k)).map (me_dv k) = fs) (hcells : cells + 1 ≤ Rm.cells) (hslots : slots + Nf ≤ Rm.slots) (hdg : decode cc pc = .ok (.new index, 3))
    (kk : ∀ (ad1 : Nat → Nat → Nat) (H1 : Heap), (∀ a b, b < N a → ad1 a b = ad a b) → me_wf (me_N1 N k) M1 → va_P D classes (wf ++ me_W ad1 ca M1) H1 → va_D A (wf ++ me_W ad1 ca M1) → va_S A H0 H1 locs → W p l e Rm s m args below meth c H1 locs (cells + 1) (slots + Nf) Q (F0 m (pc + 3) ls (.ref (ad1 k (N k)) :: rest))) : W p l e Rm s m args below meth c H locs cells slots Q (F0 m pc ls rest) := by
  refine va_new hexec hb hts hin ty hty hown hcl hinst hini hK hP hD hS hA hc hfs hcells hslots hdg (fun q H1 a1 a2 a3 => ?_)
  obtain ⟨ad1, had⟩ : ∃ z : Nat → Nat → Nat, z = fun a b => if a = k ∧ b = N k then q else ad a b := ⟨_, rfl⟩
  have hext : ∀ a b, b < N a → ad1 a b = ad a b := by
    intro a b h
    rw [had]
    show (if a = k ∧ b = N k then q else ad a b) = ad a b
    rw [if_neg (fun z => by obtain ⟨z1, z2⟩ := z; subst z1; omega)]
  have hq : ad1 k (N k) = q := by
    rw [had]
    show (if k = k ∧ N k = N k then q else _) = q
    rw [if_pos ⟨rfl, rfl⟩]
  have hM1 : me_E ad1 ca M1 k (mN M k) = .inr (k, fs) := by
    unfold me_E
    rw [if_pos hk, me_fl0 (fun f => ?_) (fun f => ?_) (fun f => ?_), hz0]
    · rw [he]; show (if k = k ∧ mN M k = mN M k then (0 : Int32) else _) = 0; rw [if_pos ⟨rfl, rfl⟩]
    · rw [he]; show (if k = k ∧ mN M k = mN M k then (0 : Int64) else _) = 0; rw [if_pos ⟨rfl, rfl⟩]
    · rw [he]; show (if k = k ∧ mN M k = mN M k then none else _) = none; rw [if_pos ⟨rfl, rfl⟩]
  have hp := me_Wp (k := k) (ad := ad) (ad1 := ad1) (ca := ca) (M := M) (M1 := M1) hwf (by omega) (by rw [he]; rfl) (fun a b h => by rw [he]; exact me_nOE h) hext
  rw [hM1, hwf.1, hq] at hp
  have hN1 : mN M1 = me_N1 N k := by rw [he, ← hwf.1]; rfl
  have hw1 := me_wfn (M := M) (M1 := M1) hwf (k := k) (by rw [he]; rfl) (fun a b c => by rw [he]; rfl) (fun a b c => by rw [he]; rfl)
  rw [hN1] at hw1
  rw [List.append_assoc] at a1 a2
  have k1 := kk ad1 H1 hext hw1 (fk_Pp (hp.symm.append_left wf) a1) (fk_Dp (hp.symm.append_left wf) a2) a3
  rw [hq] at k1
  exact k1
/-- a new array of longs -/
theorem lw_newl {n : Int32} (he : M1 = nA M 16 n.toNatClampNeg) (hexec : p.tables.exec = Jvm.exec) (hb : c.code = cc) (harr : (Cond.arrayClass .long).before args s = true)
    (hK : va_K D classes (me_T ca) s) (hP : va_P D classes (wf ++ me_W ad ca M) H) (hD : va_D A (wf ++ me_W ad ca M)) (hwf : me_wf N M) {H0 : Heap} (hS : va_S A H0 H locs) (hA : ∀ q, H0.size ≤ q → A q) (hn : ¬ n < 0) (hb8 : n.toNatClampNeg * componentBytes .long ≤ 536870912) (hcells : cells + 1 ≤ Rm.cells) (hslots : slots + n.toNatClampNeg ≤ Rm.slots) (hdg : decode cc pc = .ok (.newarray .long, 2))
    (kk : ∀ (ad1 : Nat → Nat → Nat) (H1 : Heap), (∀ a b, b < N a → ad1 a b = ad a b) → me_wf (me_N1 N 16) M1 → va_P D classes (wf ++ me_W ad1 ca M1) H1 → va_D A (wf ++ me_W ad1 ca M1) → va_S A H0 H1 locs → W p l e Rm s m args below meth c H1 locs (cells + 1) (slots + n.toNatClampNeg) Q (F0 m (pc + 2) ls (.ref (ad1 16 (N 16)) :: rest))) : W p l e Rm s m args below meth c H locs cells slots Q (F0 m pc ls (.int n :: rest)) := by
  refine va_newa (atype := .long) (ty := .long) (N' := n.toNatClampNeg) (a0 := (n.toNatClampNeg, .inr (.inl (fun _ => 0)))) hexec hb harr rfl hK hP hD hS hA (fun _ => rfl) hn rfl hb8 hcells hslots hdg (fun q cA H1 h9 a1 a2 a3 => ?_)
  have e1 : s.vm.findClass ("[" ++ FieldType.long.toString) = some (ca 16) := (hK.2 3 _ rfl).2
  have e2 : s.vm.findClass ("[" ++ FieldType.long.toString) = some cA := (h9.2 7 (cA, .long) rfl).2
  have hcA : cA = ca 16 := Option.some.inj (e2.symm.trans e1)
  obtain ⟨ad1, had⟩ : ∃ z : Nat → Nat → Nat, z = fun a b => if a = 16 ∧ b = N 16 then q else ad a b := ⟨_, rfl⟩
  have hext : ∀ a b, b < N a → ad1 a b = ad a b := by
    intro a b h
    rw [had]
    show (if a = 16 ∧ b = N 16 then q else ad a b) = ad a b
    rw [if_neg (fun z => by obtain ⟨z1, z2⟩ := z; subst z1; omega)]
  have hq : ad1 16 (N 16) = q := by
    rw [had]
    show (if 16 = 16 ∧ N 16 = N 16 then q else _) = q
    rw [if_pos ⟨rfl, rfl⟩]
  have hM1 : me_E ad1 ca M1 16 (mN M 16) = .inl (cA, n.toNatClampNeg, .inr (.inl (fun _ => 0))) := by
    have h2 := al_ar16 (M := M) (ad := ad1) (n := n.toNatClampNeg)
    rw [← he] at h2
    have hZ : mZ M1 16 (mN M 16) = n.toNatClampNeg := by
      rw [he]; show (if 16 = 16 ∧ mN M 16 = mN M 16 then n.toNatClampNeg else _) = _; rw [if_pos ⟨rfl, rfl⟩]
    unfold me_E
    rw [if_neg (by decide), hZ, h2, hcA]
  have hp := me_Wp (ad := ad) (ad1 := ad1) (ca := ca) (M := M) (M1 := M1) (k := 16) hwf (by omega) (by rw [he]; rfl) (fun a b h => by rw [he]; exact me_nAE h) hext
  rw [hM1, hwf.1, hq] at hp
  have hN1 : mN M1 = me_N1 N 16 := by rw [he, ← hwf.1]; rfl
  have hw1 := me_wfn (M := M) (M1 := M1) hwf (k := 16) (by rw [he]; rfl) (fun a b c => by rw [he]; rfl) (fun a b c => by rw [he]; rfl)
  rw [hN1] at hw1
  rw [List.append_assoc] at a1 a2
  have k1 := kk ad1 H1 hext hw1 (fk_Pp (hp.symm.append_left wf) a1) (fk_Dp (hp.symm.append_left wf) a2) a3
  rw [hq] at k1
  exact k1
/-- a call on the first memory, that makes nothing -/
theorem lw_Mv (hr : va_Run p l e Rm s m args below meth c H locs cells slots mc ms (F0 m pc ls st) rest (va_Qv (fun (_ : Unit) => P1) (fg_B D (va_A (me_W ad ca M) H.size) (fun _ => me_W ad ca M1) (fun _ => [])) (va_A (me_W ad ca M) H.size) a) (va_A (me_W ad ca M) H.size))
    (hP : va_P D classes (me_W ad ca M ++ me_W bd ca R) H) (hD : va_D A (me_W ad ca M ++ me_W bd ca R)) {tys : fg_T} (hK : va_K D classes tys s) (hS : va_S A s.heap H locs) (hA : ∀ q : Nat, s.heap.size ≤ q → A q)
    (kk : ∀ (H1 : Heap) (locs1 : List Loc), P1 → va_P D classes (me_W ad ca M1 ++ me_W bd ca R) H1 → va_D A (me_W ad ca M1 ++ me_W bd ca R) → va_S A s.heap H1 locs1 → W p l e Rm s m args below meth c H1 locs1 (cells + mc) (slots + ms) Q (F0 m (pc + 3) ls rest)) : W p l e Rm s m args below meth c H locs cells slots Q (F0 m pc ls st) :=
  fk_thenv (wr := me_W bd ca R) (wc := me_W ad ca M) (wn := fun _ => me_W ad ca M1 ++ me_W bd ca R) hr (List.Perm.refl _) (fun _ => List.perm_append_comm) hP hD hK hS hA (fun _ H1 locs1 hw hP1 hD1 _ hS1 => kk H1 locs1 hw hP1 hD1 hS1)
theorem lw_Mi {r0 : Int32} (hr : va_Run p l e Rm s m args below meth c H locs cells slots mc ms (F0 m pc ls st) rest (va_Qi (fun r (_ : Unit) => r = r0 ∧ P1) (fg_B D (va_A (me_W ad ca M) H.size) (fun _ => me_W ad ca M1) (fun _ => [])) (va_A (me_W ad ca M) H.size) a) (va_A (me_W ad ca M) H.size))
    (hP : va_P D classes (me_W ad ca M ++ me_W bd ca R) H) (hD : va_D A (me_W ad ca M ++ me_W bd ca R)) {tys : fg_T} (hK : va_K D classes tys s) (hS : va_S A s.heap H locs) (hA : ∀ q : Nat, s.heap.size ≤ q → A q)
    (kk : ∀ (H1 : Heap) (locs1 : List Loc), P1 → va_P D classes (me_W ad ca M1 ++ me_W bd ca R) H1 → va_D A (me_W ad ca M1 ++ me_W bd ca R) → va_S A s.heap H1 locs1 → W p l e Rm s m args below meth c H1 locs1 (cells + mc) (slots + ms) Q (F0 m (pc + 3) ls (.int r0 :: rest))) : W p l e Rm s m args below meth c H locs cells slots Q (F0 m pc ls st) :=
  fk_theni (wr := me_W bd ca R) (wc := me_W ad ca M) (wn := fun _ => me_W ad ca M1 ++ me_W bd ca R) hr (List.Perm.refl _) (fun _ => List.perm_append_comm) hP hD hK hS hA (fun r _ H1 locs1 hw hP1 hD1 _ hS1 => by obtain ⟨rfl, hw⟩ := hw; exact kk H1 locs1 hw hP1 hD1 hS1)
/-- a call on the first memory, that makes things -/
theorem lw_Mav (hr : va_Run p l e Rm s m args below meth c H locs cells slots mc ms (F0 m pc ls st) rest (va_Qv (fun (u : Nat → Nat → Nat) => al_P ad N M1 u ∧ P1) (fg_B D (va_A (me_W ad ca M) H.size) (fun u => me_W u ca M1) (fun _ => [])) (va_A (me_W ad ca M) H.size) a) (va_A (me_W ad ca M) H.size))
    (hP : va_P D classes (me_W ad ca M ++ wf) H) (hD : va_D A (me_W ad ca M ++ wf)) {tys : fg_T} (hK : va_K D classes tys s) (hS : va_S A s.heap H locs) (hA : ∀ q : Nat, s.heap.size ≤ q → A q)
    (kk : ∀ (ad1 : Nat → Nat → Nat) (H1 : Heap) (locs1 : List Loc), al_P ad N M1 ad1 → P1 → va_P D classes (me_W ad1 ca M1 ++ wf) H1 → va_D A (me_W ad1 ca M1 ++ wf) → va_S A s.heap H1 locs1 → W p l e Rm s m args below meth c H1 locs1 (cells + mc) (slots + ms) Q (F0 m (pc + 3) ls rest)) : W p l e Rm s m args below meth c H locs cells slots Q (F0 m pc ls st) :=
  fk_thenv (wr := wf) (wc := me_W ad ca M) (wn := fun u => me_W u ca M1 ++ wf) hr (List.Perm.refl _) (fun _ => List.perm_append_comm) hP hD hK hS hA (fun u H1 locs1 hw hP1 hD1 _ hS1 => kk u H1 locs1 hw.1 hw.2 hP1 hD1 hS1)
theorem lw_Mai {r0 : Int32} (hr : va_Run p l e Rm s m args below meth c H locs cells slots mc ms (F0 m pc ls st) rest (va_Qi (fun r (u : Nat → Nat → Nat) => r = r0 ∧ al_P ad N M1 u ∧ P1) (fg_B D (va_A (me_W ad ca M) H.size) (fun u => me_W u ca M1) (fun _ => [])) (va_A (me_W ad ca M) H.size) a) (va_A (me_W ad ca M) H.size))
    (hP : va_P D classes (me_W ad ca M ++ wf) H) (hD : va_D A (me_W ad ca M ++ wf)) {tys : fg_T} (hK : va_K D classes tys s) (hS : va_S A s.heap H locs) (hA : ∀ q : Nat, s.heap.size ≤ q → A q)
    (kk : ∀ (ad1 : Nat → Nat → Nat) (H1 : Heap) (locs1 : List Loc), al_P ad N M1 ad1 → P1 → va_P D classes (me_W ad1 ca M1 ++ wf) H1 → va_D A (me_W ad1 ca M1 ++ wf) → va_S A s.heap H1 locs1 → W p l e Rm s m args below meth c H1 locs1 (cells + mc) (slots + ms) Q (F0 m (pc + 3) ls (.int r0 :: rest))) : W p l e Rm s m args below meth c H locs cells slots Q (F0 m pc ls st) :=
  fk_theni (wr := wf) (wc := me_W ad ca M) (wn := fun u => me_W u ca M1 ++ wf) hr (List.Perm.refl _) (fun _ => List.perm_append_comm) hP hD hK hS hA (fun r u H1 locs1 hw hP1 hD1 _ hS1 => by obtain ⟨rfl, hw⟩ := hw; exact kk u H1 locs1 hw.1 hw.2 hP1 hD1 hS1)
/-- a call on the second memory -/
theorem lw_Rv (hr : va_Run p l e Rm s m args below meth c H locs cells slots mc ms (F0 m pc ls st) rest (va_Qv (fun (_ : Unit) => P1) (fg_B D (va_A (me_W bd ca R) H.size) (fun _ => me_W bd ca R1) (fun _ => [])) (va_A (me_W bd ca R) H.size) a) (va_A (me_W bd ca R) H.size))
    (hP : va_P D classes (wf ++ me_W bd ca R) H) (hD : va_D A (wf ++ me_W bd ca R)) {tys : fg_T} (hK : va_K D classes tys s) (hS : va_S A s.heap H locs) (hA : ∀ q : Nat, s.heap.size ≤ q → A q)
    (kk : ∀ (H1 : Heap) (locs1 : List Loc), P1 → va_P D classes (wf ++ me_W bd ca R1) H1 → va_D A (wf ++ me_W bd ca R1) → va_S A s.heap H1 locs1 → W p l e Rm s m args below meth c H1 locs1 (cells + mc) (slots + ms) Q (F0 m (pc + 3) ls rest)) : W p l e Rm s m args below meth c H locs cells slots Q (F0 m pc ls st) :=
  fk_thenv (wr := wf) (wc := me_W bd ca R) (wn := fun _ => wf ++ me_W bd ca R1) hr List.perm_append_comm (fun _ => List.Perm.refl _) hP hD hK hS hA (fun _ H1 locs1 hw hP1 hD1 _ hS1 => kk H1 locs1 hw hP1 hD1 hS1)
theorem lw_Ri {r0 : Int32} (hr : va_Run p l e Rm s m args below meth c H locs cells slots mc ms (F0 m pc ls st) rest (va_Qi (fun r (_ : Unit) => r = r0 ∧ P1) (fg_B D (va_A (me_W bd ca R) H.size) (fun _ => me_W bd ca R1) (fun _ => [])) (va_A (me_W bd ca R) H.size) a) (va_A (me_W bd ca R) H.size))
    (hP : va_P D classes (wf ++ me_W bd ca R) H) (hD : va_D A (wf ++ me_W bd ca R)) {tys : fg_T} (hK : va_K D classes tys s) (hS : va_S A s.heap H locs) (hA : ∀ q : Nat, s.heap.size ≤ q → A q)
    (kk : ∀ (H1 : Heap) (locs1 : List Loc), P1 → va_P D classes (wf ++ me_W bd ca R1) H1 → va_D A (wf ++ me_W bd ca R1) → va_S A s.heap H1 locs1 → W p l e Rm s m args below meth c H1 locs1 (cells + mc) (slots + ms) Q (F0 m (pc + 3) ls (.int r0 :: rest))) : W p l e Rm s m args below meth c H locs cells slots Q (F0 m pc ls st) :=
  fk_theni (wr := wf) (wc := me_W bd ca R) (wn := fun _ => wf ++ me_W bd ca R1) hr List.perm_append_comm (fun _ => List.Perm.refl _) hP hD hK hS hA (fun r _ H1 locs1 hw hP1 hD1 _ hS1 => by obtain ⟨rfl, hw⟩ := hw; exact kk H1 locs1 hw hP1 hD1 hS1)
theorem lw_Rl {r0 : Int64} (hr : va_Run p l e Rm s m args below meth c H locs cells slots mc ms (F0 m pc ls st) rest (va_Ql (fun r (_ : Unit) => r = r0 ∧ P1) (fg_B D (va_A (me_W bd ca R) H.size) (fun _ => me_W bd ca R1) (fun _ => [])) (va_A (me_W bd ca R) H.size) a) (va_A (me_W bd ca R) H.size))
    (hP : va_P D classes (wf ++ me_W bd ca R) H) (hD : va_D A (wf ++ me_W bd ca R)) {tys : fg_T} (hK : va_K D classes tys s) (hS : va_S A s.heap H locs) (hA : ∀ q : Nat, s.heap.size ≤ q → A q)
    (kk : ∀ (H1 : Heap) (locs1 : List Loc), P1 → va_P D classes (wf ++ me_W bd ca R1) H1 → va_D A (wf ++ me_W bd ca R1) → va_S A s.heap H1 locs1 → W p l e Rm s m args below meth c H1 locs1 (cells + mc) (slots + ms) Q (F0 m (pc + 3) ls (.long r0 :: rest))) : W p l e Rm s m args below meth c H locs cells slots Q (F0 m pc ls st) :=
  fk_thenl (wr := wf) (wc := me_W bd ca R) (wn := fun _ => wf ++ me_W bd ca R1) hr List.perm_append_comm (fun _ => List.Perm.refl _) hP hD hK hS hA (fun r _ H1 locs1 hw hP1 hD1 _ hS1 => by obtain ⟨rfl, hw⟩ := hw; exact kk H1 locs1 hw hP1 hD1 hS1)
theorem lw_Rav (hr : va_Run p l e Rm s m args below meth c H locs cells slots mc ms (F0 m pc ls st) rest (va_Qv (fun (u : Nat → Nat → Nat) => al_P bd N R1 u ∧ P1) (fg_B D (va_A (me_W bd ca R) H.size) (fun u => me_W u ca R1) (fun _ => [])) (va_A (me_W bd ca R) H.size) a) (va_A (me_W bd ca R) H.size))
    (hP : va_P D classes (wf ++ me_W bd ca R) H) (hD : va_D A (wf ++ me_W bd ca R)) {tys : fg_T} (hK : va_K D classes tys s) (hS : va_S A s.heap H locs) (hA : ∀ q : Nat, s.heap.size ≤ q → A q)
    (kk : ∀ (bd1 : Nat → Nat → Nat) (H1 : Heap) (locs1 : List Loc), al_P bd N R1 bd1 → P1 → va_P D classes (wf ++ me_W bd1 ca R1) H1 → va_D A (wf ++ me_W bd1 ca R1) → va_S A s.heap H1 locs1 → W p l e Rm s m args below meth c H1 locs1 (cells + mc) (slots + ms) Q (F0 m (pc + 3) ls rest)) : W p l e Rm s m args below meth c H locs cells slots Q (F0 m pc ls st) :=
  fk_thenv (wr := wf) (wc := me_W bd ca R) (wn := fun u => wf ++ me_W u ca R1) hr List.perm_append_comm (fun _ => List.Perm.refl _) hP hD hK hS hA (fun u H1 locs1 hw hP1 hD1 _ hS1 => kk u H1 locs1 hw.1 hw.2 hP1 hD1 hS1)
/-- a static method with handlers, whose room is more than what it takes -/
theorem al_runSH {hs : List (Nat × Nat × Nat × Nat)} (S : CallFix p m c cc nL s args fg_g own) (hM : Met l y (fg_wh y bytes maxL ret hs) rm (va_Pc As (fg_PZ D (me_T ca) (me_W ad ca M) H.size)) Qc mc ms free)
    (hy : fg_nm y As.length) (hl : Cond.methodLink own index y ∈ fg_g) (hs1 : Cond.static y ∈ fg_g) (hini : Cond.initialized y.cls ∈ fg_g) (hcode : Cond.codeWith y bytes maxL ret hs ∈ fg_g) (hR : fg_rm rm Rm maxL)
    (hX : fg_X s) (hP : va_P D classes (me_W ad ca M) H) (hK : va_K D classes (me_T ca) s) (hD : va_D A (me_W ad ca M)) (hZ : fg_Z A s s.heap) (hY : fg_Y s) (hS : va_S A s.heap H locs) (hA : ∀ q : Nat, s.heap.size ≤ q → A q) (hst : st = As.reverse ++ rest) (hsize : ls.size = nL) (hW : (rest.map fun v => v.category).sum ≤ 8) (hdg : decode cc pc = .ok (.invokestatic index, 3)) (hf : cells + rm.cells ≤ Rm.cells ∧ slots + rm.slots ≤ Rm.slots) :
    va_Run p l e Rm s m args below meth c H locs cells slots mc ms (F0 m pc ls st) rest (Qc As.toArray) free := by
  have hZ2 : fg_Z (va_A (me_W ad ca M) H.size) s H := (hZ.kept hS.2.1).narrow (va_free (wc := me_W ad ca M) hD hS hA (List.range (me_W ad ca M).length) me_all)
  obtain ⟨hx, hb, hml, ho, hts⟩ := S
  have hws : ∀ w ∈ fg_wh y bytes maxL ret hs, ∀ (a' : Array Value) (U : State), s.WarmedH U.vm → w.before a' U = true := pay_in hts (fg_ginH hcode)
  have hBk : Back l Rm p e below s args y 3 8 (PreOf Rm rm.cells rm.slots (va_Pc As (fg_PZ D (me_T ca) (me_W ad ca M) H.size))) (PostOf Qc mc ms free) := by
    refine Back.of_freeWith (handlers := hs) (S := headSpec (fg_wh y bytes maxL ret hs) rm) (P := va_Pc As (fg_PZ D (me_T ca) (me_W ad ca M) H.size)) (K := fun _ _ _ _ _ => True) (Q := fun a st o t => Qc a st o t ∧ ∃ L, FrameEnd st o t L mc ms ∧ ∀ q ∈ L, free q.base) (bytes := bytes) (maxL := maxL) (ret := ret)
      (E := fun a st o t L k n => k = mc ∧ n = ms ∧ ∀ q ∈ L, free q.base) hM hR.1 hR.2 ?_ ?_ (fun _ _ _ _ _ _ _ _ _ => trivial) ?_ ?_
    · intro m meth c A a X hp
      exact ⟨atoms_intro fun w hw => hws w hw _ _ X.warmed, hws _ List.mem_cons_self _ _ X.warmed, word_at X.warmed (fg_good _ hini) (hts _ hini), hp.1, hp.2.1⟩
    · intro m meth c A a g mk X hp
      exact fg_blindZ _ _ _ _ hp.2.2
    · intro a st o t ⟨hq, L, hF, hL⟩
      exact ⟨L, _, _, hF, rfl, rfl, hL⟩
    · intro m meth c A a g mk v t L k n X hp hq hF ⟨e1, e2, hL⟩
      subst e1; subst e2
      exact ⟨g, mk, t, L, rfl, rfl, hq.1, rfl, hL, rfl, rfl⟩
  have hcw := hts _ hcode
  obtain ⟨mk, methM, cM, hnamed, hmethM, -, -, -, -, -, -, hsigM⟩ := Cond.codeWith_spec hcw
  have hstatic : methM.isStatic = true := Cond.static_spec hnamed hmethM (hts _ hs1)
  obtain ⟨kP, hkP, -⟩ := className_of_methodNamed hnamed
  have hinitP : kP.init = .initialized := Cond.initialized_spec (findClass_of_methodNamed hnamed) hkP (hts _ hini)
  have hlen : As.length = methM.sig.parameters.length := by
    have h2 := hy.2.2
    rw [hsigM] at h2
    exact (Option.some.inj h2).symm
  intro T hT X
  obtain ⟨vm₁, X₁, hstep₁⟩ := X.invokestatic hx ho (hts _ hl) hnamed hmethM hstatic hkP hinitP ⟨hy.1, hy.2.1⟩ (g := F0 m pc ls st) rfl (argsL := As) (rest := rest) hlen hst (by rw [hb]; exact hdg)
  have hpre : PreOf Rm rm.cells rm.slots (va_Pc As (fg_PZ D (me_T ca) (me_W ad ca M) H.size)) ⟨T.setVm vm₁, locs, cells, slots⟩ As.toArray := by
    have hWm : s.WarmedH vm₁ := X₁.warmed
    have hTh : (T.setVm vm₁).heap = H := hT
    exact ⟨hf.1, hf.2, rfl, ⟨by rw [hTh], by rw [hTh]; exact hP, va_K.moved (U := T.setVm vm₁) hWm.alike hK, hD.weaken (fun _ _ _ _ => trivial), fg_X.warm (U := T.setVm vm₁) hWm hX⟩, by rw [hTh]; exact fg_Z.moved (U := T.setVm vm₁) hWm.alike hZ2, fg_Y.warm (U := T.setVm vm₁) hWm hY⟩
  obtain ⟨v, ⟨U', l2, c2, s2⟩, X', ⟨g', mk', t, L, e1, e2, hq, h1, hL, h2, h3⟩, hsteps⟩ := hBk m meth c ⟨T.setVm vm₁, locs, cells, slots⟩ (F0 m pc ls rest) (.invokestatic index) mk As.toArray X₁ rfl (hsize.trans hml.symm) (by rw [hb]; exact hdg) (lv_room (rest := rest) (pc := pc) (ls := ls) (m := m) hW) (X₁.named hnamed) hpre
  dsimp only [Pt.U, Pt.locs, Pt.cells, Pt.slots] at X' e1 e2 h1 h2 h3 hsteps
  subst h1; subst h2; subst h3
  exact ⟨v, (T.setVm vm₁).calling g' mk' As.toArray, t, U', L, hT, X', hL, e1, e2, hq, fun target h => hstep₁ _ fun acts => by rw [doInvoke_state]; exact hsteps.trans h⟩
theorem me_runVT {C : String} {k j : Nat} (S : CallFix p m c cc nL s args fg_g own) (hM : fg_MetT l y (fg_w y bytes maxL ret) rm (va_Pc (.ref (ad k j) :: As) (fg_PZ D (me_T ca) (me_W ad ca M) H.size)) Qc rm.cells rm.slots free)
    (hC : y.cls = C) (hy : fg_nm y As.length) (hl : Cond.methodLink own index y ∈ fg_g) (hin : Cond.instanceMethod y ∈ fg_g) (hse : Cond.selects C y y ∈ fg_g) (hini : Cond.initialized C ∈ fg_g) (hcode : Cond.code y bytes maxL ret ∈ fg_g) (hR : fg_rm rm Rm maxL)
    (hX : fg_X s) (hZ : fg_Z A s s.heap) (hY : fg_Y s) (hK : va_K D classes (me_T ca) s) (hP : va_P D classes (me_W ad ca M) H) (hD : va_D A (me_W ad ca M)) (hwf : me_wf N M) (hS : va_S A s.heap H locs) (hA : ∀ q : Nat, s.heap.size ≤ q → A q) (hj : j < N k) (hk : k < 13) {q : vw_C} (hc : classes[k]? = some q) (hq : q.1 = C) (hst : st = As.reverse ++ .ref (ad k j) :: rest) (hsize : ls.size = nL) (hW : (rest.map fun v => v.category).sum ≤ 8) (hdg : decode cc pc = .ok (.invokevirtual index, 3)) (hf : cells + rm.cells ≤ Rm.cells ∧ slots + rm.slots ≤ Rm.slots) :
    fg_RunT p l e Rm s m args below meth c H locs cells slots rm.cells rm.slots (F0 m pc ls st) (F0 m pc ls rest) (Qc (Value.ref (ad k j) :: As).toArray) free := by
  have hZ2 : fg_Z (va_A (me_W ad ca M) H.size) s H := (hZ.kept hS.2.1).narrow (va_free (wc := me_W ad ca M) hD hS hA (List.range (me_W ad ca M).length) me_all)
  obtain ⟨q0, h0, -⟩ := me_ix (A := fun _ => True) (ad := ad) (ca := ca) (M := M) (k := k) (j := j) (by omega) (by rw [hwf.1]; exact hj)
  exact fg_runVT S hM hC hy hl hin hse hini hcode hR hX hP hK hD hZ2 hY (q0 := q0) (fs := me_fl ad M k j) hc hq (by rw [h0]; unfold me_E; rw [if_pos hk]) hst hsize hW hdg hf
theorem me_thenT {X : String} (hr : fg_RunT p l e Rm s m args below meth c H locs cells slots mc ms (F0 m pc ls st) (F0 m pc ls rest) (fg_Qt X (fun (_ : Unit) => P1) (fg_B D (va_A (me_W ad ca M) H.size) (fun _ => me_W ad ca M1) (fun _ => [])) (va_A (me_W ad ca M) H.size) a) (va_A (me_W ad ca M) H.size))
    (hP : va_P D classes (me_W ad ca M) H) (hD : va_D A (me_W ad ca M)) (hK : va_K D classes (me_T ca) s) (hS : va_S A s.heap H locs) (hA : ∀ q : Nat, s.heap.size ≤ q → A q)
    (hown : s.vm.findClass own = some m.cls) (hts : ∀ w ∈ fg_g, w.before args s = true) (hs : List (Nat × Nat × Nat × Nat)) (htab : fg_tab c = hs) (np h1 : Nat)
    (hpass : ∀ y ∈ hs.take np, (y.1 ≤ pc ∧ pc < y.2.1) ∧ y.2.2.2 ≠ 0 ∧ ∃ nm, Cond.classLink own y.2.2.2 nm ∈ fg_g ∧ va_Nc X nm s) (hit : ∃ a1 b1 k1, hs[np]? = some (a1, b1, h1, k1) ∧ a1 ≤ pc ∧ pc < b1 ∧ k1 ≠ 0 ∧ Cond.classLink own k1 X ∈ fg_g)
    (kk : ∀ (x : Nat) (H1 : Heap) (locs1 : List Loc), P1 → va_P D classes (me_W ad ca M1) H1 → va_D A (me_W ad ca M1) → va_S A s.heap H1 locs1 → W p l e Rm s m args below meth c H1 locs1 (cells + mc) (slots + ms) Q (F0 m h1 ls [.ref x])) : W p l e Rm s m args below meth c H locs cells slots Q (F0 m pc ls st) :=
  fg_thenT (wr := []) hr hP hD hK hS hA (List.range (me_W ad ca M).length) [] me_all rfl rfl (fun i h => by cases h) hown hts hs htab np h1 hpass hit (fun x _ H1 locs1 hw hP1 hD1 _ hS1 => kk x H1 locs1 hw hP1 hD1 hS1)
end LWR
theorem lw_f2 {cells slots c d : Nat} (h : cells + c ≤ 601024 ∧ slots + d ≤ 7293034) : cells + 0 ≤ 601024 ∧ slots + 0 ≤ 7293034 := by omega
theorem lw_f0 {cells slots x y c d : Nat} (h : cells + x + c ≤ 601024 ∧ slots + y + d ≤ 7293034) : cells + 0 ≤ 601024 ∧ slots + 0 ≤ 7293034 := by omega
theorem lw_f1 {cells slots x y : Nat} (h : cells + x + 8 ≤ 601024 ∧ slots + y + 48 ≤ 7293034) : cells + 1 ≤ 601024 ∧ slots + 6 ≤ 7293034 := by omega
theorem lw_fa {cells slots x y : Nat} (h : cells + x + 8 ≤ 601024 ∧ slots + y + 48 ≤ 7293034) : cells + x ≤ 601024 ∧ slots + y ≤ 7293034 := by omega
theorem lw_ft {cells slots x y : Nat} (h : cells + x + 8 ≤ 601024 ∧ slots + y + 48 ≤ 7293034) : cells + 1 + 7 ≤ 601024 ∧ slots + 6 + 42 ≤ 7293034 := by omega
theorem lw_fg {N N1 : Nat → Nat} {cells slots : Nat} (h : cells + (me_CL - me_cN N) + 8 ≤ 601024 ∧ slots + (me_SL - me_sN N) + 48 ≤ 7293034) (hok : me_ok N N1) : cells + (me_cN N1 - me_cN N) + 8 ≤ 601024 ∧ slots + (me_sN N1 - me_sN N) + 48 ≤ 7293034 := by
  obtain ⟨h1, h2, h3, h4, -⟩ := hok
  omega
