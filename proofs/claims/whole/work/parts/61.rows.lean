section MER
variable {p : Program} {l : Launch} {e : Env} {R : Room} {s : State} {m : MethodId} {args : Array Value} {below : List Frame} {meth : Method} {c : Code} {H : Heap} {locs : List Loc} {cells slots : Nat} {Q : State → Prop}
variable {cc : ByteArray} {pc : Nat} {ls : Array Slot} {rest : List Value} {D : va_G} {A : Nat → Prop} {H0 : Heap} {ad : Nat → Nat → Nat} {ca : Nat → ClassId} {M M1 : me_M} {N : Nat → Nat}
theorem me_get (hexec : p.tables.exec = Jvm.exec) (hb : c.code = cc) {own ref C : String} {T : u_T} {Nf index : Nat} (hts : ∀ w ∈ fg_g, w.before args s = true) (hin : ∀ w ∈ u_ws C T Nf, w ∈ fg_g) (hown : s.vm.findClass own = some m.cls) (hK : va_K D classes (me_T ca) s) (hP : va_P D classes (me_W ad ca M) H) (hwf : me_wf N M) {k j f : Nat} (hj : j < N k) (hk : k < 13) (hc : classes[k]? = some (C, T, Nf)) (hn : me_nf k = Nf) (hf : f < Nf) (hlink : (Cond.fieldLink own index ref (T f).2.1 (T f).2.2.1).before args s = true) (hsame : ∀ x, s.fieldFound? (T f).1 (T f).2.1 (T f).2.2.1 = some x → s.fieldFound? ref (T f).2.1 (T f).2.2.1 = some x) (hdg : decode cc pc = .ok (.getfield index, 3))
    (kk : W p l e R s m args below meth c H locs cells slots Q (F0 m (pc + 3) ls (me_fv ad M k j f :: rest))) : W p l e R s m args below meth c H locs cells slots Q (F0 m pc ls (.ref (ad k j) :: rest)) := by
  obtain ⟨q0, h0, -⟩ := me_ix (A := fun _ => True) (ad := ad) (ca := ca) (M := M) (k := k) (j := j) (by omega) (by rw [hwf.1]; exact hj)
  refine va_get hexec hb hts hin hown hK hP q0 (fs := me_fl ad M k j) (by rw [h0]; unfold me_E; rw [if_pos hk]) hc f hf hlink hsame ?_ hdg kk
  unfold me_fl
  rw [List.getElem?_map, List.getElem?_range (by rw [hn]; exact hf)]
  rfl
theorem me_getN (hexec : p.tables.exec = Jvm.exec) (hb : c.code = cc) {own ref C host : String} {T : u_T} {Nf index : Nat} (hts : ∀ w ∈ fg_g, w.before args s = true) (hin : ∀ w ∈ u_ws C T Nf, w ∈ fg_g) (hown : s.vm.findClass own = some m.cls) (hK : va_K D classes (me_T ca) s) (hP : va_P D classes (me_W ad ca M) H) (hwf : me_wf N M) {k j f : Nat} (hj : j < N k) (hk : k < 13) (hc : classes[k]? = some (C, T, Nf)) (hn : me_nf k = Nf) (hf : f < Nf) (hlink : (Cond.fieldLinkNest own index ref (T f).2.1 (T f).2.2.1 host).before args s = true) (hsame : ∀ x, s.fieldFound? (T f).1 (T f).2.1 (T f).2.2.1 = some x → s.fieldFound? ref (T f).2.1 (T f).2.2.1 = some x) (hdg : decode cc pc = .ok (.getfield index, 3))
    (kk : W p l e R s m args below meth c H locs cells slots Q (F0 m (pc + 3) ls (me_fv ad M k j f :: rest))) : W p l e R s m args below meth c H locs cells slots Q (F0 m pc ls (.ref (ad k j) :: rest)) := by
  obtain ⟨q0, h0, -⟩ := me_ix (A := fun _ => True) (ad := ad) (ca := ca) (M := M) (k := k) (j := j) (by omega) (by rw [hwf.1]; exact hj)
  refine va_getN hexec hb hts hin hown hK hP q0 (fs := me_fl ad M k j) (by rw [h0]; unfold me_E; rw [if_pos hk]) hc f hf hlink hsame ?_ hdg kk
  unfold me_fl
  rw [List.getElem?_map, List.getElem?_range (by rw [hn]; exact hf)]
  rfl
theorem me_put (hexec : p.tables.exec = Jvm.exec) (hb : c.code = cc) {own ref C : String} {T : u_T} {Nf index : Nat} (hts : ∀ w ∈ fg_g, w.before args s = true) (hin : ∀ w ∈ u_ws C T Nf, w ∈ fg_g) (ty0 : Nat → FieldType) (hty : ∀ k, k < Nf → parseFieldDescriptor (T k).2.2.1 = some (ty0 k)) (hnm : ∀ a, a < Nf → ∀ b, b < Nf → a ≠ b → (T a).2.1 ≠ (T b).2.1) (hown : s.vm.findClass own = some m.cls) (hK : va_K D classes (me_T ca) s) (hP : va_P D classes (me_W ad ca M) H) (hD : va_D A (me_W ad ca M)) (hwf : me_wf N M) (hS : va_S A H0 H locs) {k j f : Nat} (hj : j < N k) (hk : k < 13) (hc : classes[k]? = some (C, T, Nf)) (hn : me_nf k = Nf) (hf : f < Nf) (hlink : (Cond.fieldLink own index ref (T f).2.1 (T f).2.2.1).before args s = true) (hsame : ∀ x, s.fieldFound? (T f).1 (T f).2.1 (T f).2.2.1 = some x → s.fieldFound? ref (T f).2.1 (T f).2.2.1 = some x) (hfin : (T f).2.2.2 = false) {v : Value} (hnv : narrow (ty0 f) v = v) (hfit : fits (ty0 f) v = true)
    (hN1 : mN M1 = mN M) (hE : ∀ a b, a ≠ k ∨ b ≠ j → me_E ad ca M1 a b = me_E ad ca M a b) (hfl : (me_fl ad M k j).set f v = me_fl ad M1 k j) (hdg : decode cc pc = .ok (.putfield index, 3))
    (kk : ∀ (H1 : Heap) (locs1 : List Loc), va_P D classes (me_W ad ca M1) H1 → va_D A (me_W ad ca M1) → va_S A H0 H1 locs1 → W p l e R s m args below meth c H1 locs1 cells slots Q (F0 m (pc + 3) ls rest)) : W p l e R s m args below meth c H locs cells slots Q (F0 m pc ls (v :: .ref (ad k j) :: rest)) := by
  obtain ⟨q0, h0, h1⟩ := me_ix (A := A) (ad := ad) (ca := ca) (M := M) (k := k) (j := j) (by omega) (by rw [hwf.1]; exact hj)
  have h2 := h1 hD M1 hN1 hE
  have e1 : me_E ad ca M1 k j = .inr (k, me_fl ad M1 k j) := by unfold me_E; rw [if_pos hk]
  rw [e1] at h2
  refine va_put hexec hb hts hin ty0 hty hnm hown hK hP hD hS q0 (fs := me_fl ad M k j) (by rw [h0]; unfold me_E; rw [if_pos hk]) hc f hf hlink hsame hfin (hty f hf) hnv hfit (by unfold me_fl; rw [List.length_map, List.length_range, hn]; exact hf) hdg (fun H1 locs1 a1 a2 a3 => ?_)
  rw [hfl, h2] at a1 a2
  exact kk H1 locs1 a1 a2 a3
theorem me_putN (hexec : p.tables.exec = Jvm.exec) (hb : c.code = cc) {own ref C host : String} {T : u_T} {Nf index : Nat} (hts : ∀ w ∈ fg_g, w.before args s = true) (hin : ∀ w ∈ u_ws C T Nf, w ∈ fg_g) (ty0 : Nat → FieldType) (hty : ∀ k, k < Nf → parseFieldDescriptor (T k).2.2.1 = some (ty0 k)) (hnm : ∀ a, a < Nf → ∀ b, b < Nf → a ≠ b → (T a).2.1 ≠ (T b).2.1) (hown : s.vm.findClass own = some m.cls) (hK : va_K D classes (me_T ca) s) (hP : va_P D classes (me_W ad ca M) H) (hD : va_D A (me_W ad ca M)) (hwf : me_wf N M) (hS : va_S A H0 H locs) {k j f : Nat} (hj : j < N k) (hk : k < 13) (hc : classes[k]? = some (C, T, Nf)) (hn : me_nf k = Nf) (hf : f < Nf) (hlink : (Cond.fieldLinkNest own index ref (T f).2.1 (T f).2.2.1 host).before args s = true) (hsame : ∀ x, s.fieldFound? (T f).1 (T f).2.1 (T f).2.2.1 = some x → s.fieldFound? ref (T f).2.1 (T f).2.2.1 = some x) (hfin : (T f).2.2.2 = false) {v : Value} (hnv : narrow (ty0 f) v = v) (hfit : fits (ty0 f) v = true)
    (hN1 : mN M1 = mN M) (hE : ∀ a b, a ≠ k ∨ b ≠ j → me_E ad ca M1 a b = me_E ad ca M a b) (hfl : (me_fl ad M k j).set f v = me_fl ad M1 k j) (hdg : decode cc pc = .ok (.putfield index, 3))
    (kk : ∀ (H1 : Heap) (locs1 : List Loc), va_P D classes (me_W ad ca M1) H1 → va_D A (me_W ad ca M1) → va_S A H0 H1 locs1 → W p l e R s m args below meth c H1 locs1 cells slots Q (F0 m (pc + 3) ls rest)) : W p l e R s m args below meth c H locs cells slots Q (F0 m pc ls (v :: .ref (ad k j) :: rest)) := by
  obtain ⟨q0, h0, h1⟩ := me_ix (A := A) (ad := ad) (ca := ca) (M := M) (k := k) (j := j) (by omega) (by rw [hwf.1]; exact hj)
  have h2 := h1 hD M1 hN1 hE
  have e1 : me_E ad ca M1 k j = .inr (k, me_fl ad M1 k j) := by unfold me_E; rw [if_pos hk]
  rw [e1] at h2
  refine va_putN hexec hb hts hin ty0 hty hnm hown hK hP hD hS q0 (fs := me_fl ad M k j) (by rw [h0]; unfold me_E; rw [if_pos hk]) hc f hf hlink hsame hfin (hty f hf) hnv hfit (by unfold me_fl; rw [List.length_map, List.length_range, hn]; exact hf) hdg (fun H1 locs1 a1 a2 a3 => ?_)
  rw [hfl, h2] at a1 a2
  exact kk H1 locs1 a1 a2 a3
theorem me_arr {k j : Nat} (hwf : me_wf N M) (hk : 13 ≤ k) (hk2 : k < 20) (hj : j < N k) : ∃ q0, (me_W ad ca M)[q0]? = some (ad k j, .inl (ca k, mZ M k j, me_ar ad M k j)) ∧ (va_D A (me_W ad ca M) → ∀ M1 : me_M, mN M1 = mN M → (∀ a b, a ≠ k ∨ b ≠ j → me_E ad ca M1 a b = me_E ad ca M a b) → mZ M1 k j = mZ M k j → ∀ x, me_ar ad M1 k j = x → (me_W ad ca M).set q0 (ad k j, .inl (ca k, mZ M k j, x)) = me_W ad ca M1) := by
  obtain ⟨q0, h0, h1⟩ := me_ix (A := A) (ad := ad) (ca := ca) (M := M) (k := k) (j := j) hk2 (by rw [hwf.1]; exact hj)
  have hE : ∀ M2 : me_M, me_E ad ca M2 k j = .inl (ca k, mZ M2 k j, me_ar ad M2 k j) := by
    intro M2
    unfold me_E
    rw [if_neg (by omega)]
  refine ⟨q0, by rw [h0, hE], ?_⟩
  intro hD M1 hN hE1 hZ x hx
  have h2 := h1 hD M1 hN hE1
  rw [hE M1, hZ, hx] at h2
  exact h2
theorem me_iald (hexec : p.tables.exec = Jvm.exec) (hb : c.code = cc) (hK : va_K D classes (me_T ca) s) (hP : va_P D classes (me_W ad ca M) H) (hwf : me_wf N M) {j : Nat} (hj : j < N 13) {i : Int32} (hin : ¬ (i < 0 ∨ mZ M 13 j ≤ i.toNatClampNeg)) (hdg : decode cc pc = .ok (.iaload, 1))
    (kk : W p l e R s m args below meth c H locs cells slots Q (F0 m (pc + 1) ls (.int (mI M 13 j i.toNatClampNeg) :: rest))) : W p l e R s m args below meth c H locs cells slots Q (F0 m pc ls (.int i :: .ref (ad 13 j) :: rest)) := by
  obtain ⟨q0, h0, -⟩ := me_arr (A := fun _ => True) (ad := ad) (ca := ca) hwf (k := 13) (j := j) (by decide) (by decide) hj
  exact va_iald hexec hb hK hP q0 0 h0 rfl hin hdg kk
theorem me_bald (hexec : p.tables.exec = Jvm.exec) (hb : c.code = cc) (hK : va_K D classes (me_T ca) s) (hP : va_P D classes (me_W ad ca M) H) (hwf : me_wf N M) {j : Nat} (hj : j < N 14) {i : Int32} (hin : ¬ (i < 0 ∨ mZ M 14 j ≤ i.toNatClampNeg)) (hdg : decode cc pc = .ok (.baload, 1))
    (kk : W p l e R s m args below meth c H locs cells slots Q (F0 m (pc + 1) ls (.int (mI M 14 j i.toNatClampNeg) :: rest))) : W p l e R s m args below meth c H locs cells slots Q (F0 m pc ls (.int i :: .ref (ad 14 j) :: rest)) := by
  obtain ⟨q0, h0, -⟩ := me_arr (A := fun _ => True) (ad := ad) (ca := ca) hwf (k := 14) (j := j) (by decide) (by decide) hj
  exact va_bald hexec hb hK hP q0 1 h0 rfl hin hdg kk
theorem me_zald (hexec : p.tables.exec = Jvm.exec) (hb : c.code = cc) (hK : va_K D classes (me_T ca) s) (hP : va_P D classes (me_W ad ca M) H) (hwf : me_wf N M) {j : Nat} (hj : j < N 15) {i : Int32} (hin : ¬ (i < 0 ∨ mZ M 15 j ≤ i.toNatClampNeg)) (hdg : decode cc pc = .ok (.baload, 1))
    (kk : W p l e R s m args below meth c H locs cells slots Q (F0 m (pc + 1) ls (.int (mI M 15 j i.toNatClampNeg) :: rest))) : W p l e R s m args below meth c H locs cells slots Q (F0 m pc ls (.int i :: .ref (ad 15 j) :: rest)) := by
  obtain ⟨q0, h0, -⟩ := me_arr (A := fun _ => True) (ad := ad) (ca := ca) hwf (k := 15) (j := j) (by decide) (by decide) hj
  exact va_zald hexec hb hK hP q0 2 h0 rfl hin hdg kk
theorem me_lald (hexec : p.tables.exec = Jvm.exec) (hb : c.code = cc) (hK : va_K D classes (me_T ca) s) (hP : va_P D classes (me_W ad ca M) H) (hwf : me_wf N M) {j : Nat} (hj : j < N 16) {i : Int32} (hin : ¬ (i < 0 ∨ mZ M 16 j ≤ i.toNatClampNeg)) (hdg : decode cc pc = .ok (.laload, 1))
    (kk : W p l e R s m args below meth c H locs cells slots Q (F0 m (pc + 1) ls (.long (mL M 16 j i.toNatClampNeg) :: rest))) : W p l e R s m args below meth c H locs cells slots Q (F0 m pc ls (.int i :: .ref (ad 16 j) :: rest)) := by
  obtain ⟨q0, h0, -⟩ := me_arr (A := fun _ => True) (ad := ad) (ca := ca) hwf (k := 16) (j := j) (by decide) (by decide) hj
  exact va_lald hexec hb hK hP q0 3 h0 rfl hin hdg kk
theorem me_aald {k t : Nat} {C : String} (hexec : p.tables.exec = Jvm.exec) (hb : c.code = cc) (hK : va_K D classes (me_T ca) s) (hP : va_P D classes (me_W ad ca M) H) (hwf : me_wf N M) {j : Nat} (hj : j < N k) (hk : 17 ≤ k) (hk2 : k < 20) (ht : (me_T ca)[k - 13]? = some (ca k, .object C)) (htk : ∀ i, me_tk k i = t) {i : Int32} (hin : ¬ (i < 0 ∨ mZ M k j ≤ i.toNatClampNeg)) (hdg : decode cc pc = .ok (.aaload, 1))
    (kk : W p l e R s m args below meth c H locs cells slots Q (F0 m (pc + 1) ls (va_rf ((mR M k j i.toNatClampNeg).map (ad t)) :: rest))) : W p l e R s m args below meth c H locs cells slots Q (F0 m pc ls (.int i :: .ref (ad k j) :: rest)) := by
  obtain ⟨q0, h0, -⟩ := me_arr (A := fun _ => True) (ad := ad) (ca := ca) hwf (k := k) (j := j) (by omega) hk2 hj
  have e : me_ar ad M k j = .inr (.inr (.inr (.inr (fun i => (mR M k j i).map (ad t))))) := by
    unfold me_ar
    rw [if_neg (by omega), if_neg (by omega)]
    simp only [htk]
  rw [e] at h0
  exact va_aldq hexec hb hK hP q0 (k - 13) h0 ht hin hdg kk
theorem me_alen {k j : Nat} {ty : FieldType} (hexec : p.tables.exec = Jvm.exec) (hb : c.code = cc) (hK : va_K D classes (me_T ca) s) (hP : va_P D classes (me_W ad ca M) H) (hwf : me_wf N M) (hj : j < N k) (hk : 13 ≤ k) (hk2 : k < 20) (ht : (me_T ca)[k - 13]? = some (ca k, ty)) (hdg : decode cc pc = .ok (.arraylength, 1))
    (kk : W p l e R s m args below meth c H locs cells slots Q (F0 m (pc + 1) ls (.int (Int32.ofNat (mZ M k j)) :: rest))) : W p l e R s m args below meth c H locs cells slots Q (F0 m pc ls (.ref (ad k j) :: rest)) := by
  obtain ⟨q0, h0, -⟩ := me_arr (A := fun _ => True) (ad := ad) (ca := ca) hwf (k := k) (j := j) hk hk2 hj
  exact va_alen hexec hb hK hP q0 (k - 13) h0 ht rfl hdg kk
theorem me_iast {j : Nat} {i x : Int32} (he : M1 = wI M 13 j i.toNatClampNeg x) (hexec : p.tables.exec = Jvm.exec) (hb : c.code = cc) (hK : va_K D classes (me_T ca) s) (hP : va_P D classes (me_W ad ca M) H) (hD : va_D A (me_W ad ca M)) (hwf : me_wf N M) (hS : va_S A H0 H locs) (hj : j < N 13) (hin : ¬ (i < 0 ∨ mZ M 13 j ≤ i.toNatClampNeg)) (hdg : decode cc pc = .ok (.iastore, 1))
    (kk : ∀ (H1 : Heap) (locs1 : List Loc), va_P D classes (me_W ad ca M1) H1 → va_D A (me_W ad ca M1) → me_wf N M1 → va_S A H0 H1 locs1 → W p l e R s m args below meth c H1 locs1 cells slots Q (F0 m (pc + 1) ls rest)) : W p l e R s m args below meth c H locs cells slots Q (F0 m pc ls (.int x :: .int i :: .ref (ad 13 j) :: rest)) := by
  obtain ⟨q0, h0, h1⟩ := me_arr (A := A) (ad := ad) (ca := ca) hwf (k := 13) (j := j) (by decide) (by decide) hj
  subst he
  refine va_iast hexec hb hK hP hD hS q0 0 h0 rfl hin hdg (fun H1 locs1 a1 a2 a3 => ?_)
  have h2 := h1 hD (wI M 13 j i.toNatClampNeg x) rfl (fun a b h => me_wIE h) rfl (.inl (upd (mI M 13 j) i.toNatClampNeg x)) (by
    show Sum.inl _ = Sum.inl _
    congr 1
    funext q
    show (if 13 = 13 ∧ j = j ∧ q = i.toNatClampNeg then x else mI M 13 j q) = if q = i.toNatClampNeg then x else mI M 13 j q
    simp)
  rw [h2] at a1 a2
  exact kk H1 locs1 a1 a2 (me_wfI hwf (fun z => absurd z (by decide)) (fun z => absurd z (by simp [me_bz, me_bzt]))) a3
theorem me_bast {j : Nat} {i x : Int32} (he : M1 = wI M 14 j i.toNatClampNeg (vp_nar .byte x)) (hexec : p.tables.exec = Jvm.exec) (hb : c.code = cc) (hK : va_K D classes (me_T ca) s) (hP : va_P D classes (me_W ad ca M) H) (hD : va_D A (me_W ad ca M)) (hwf : me_wf N M) (hS : va_S A H0 H locs) (hj : j < N 14) (hin : ¬ (i < 0 ∨ mZ M 14 j ≤ i.toNatClampNeg)) (hdg : decode cc pc = .ok (.bastore, 1))
    (kk : ∀ (H1 : Heap) (locs1 : List Loc), va_P D classes (me_W ad ca M1) H1 → va_D A (me_W ad ca M1) → me_wf N M1 → va_S A H0 H1 locs1 → W p l e R s m args below meth c H1 locs1 cells slots Q (F0 m (pc + 1) ls rest)) : W p l e R s m args below meth c H locs cells slots Q (F0 m pc ls (.int x :: .int i :: .ref (ad 14 j) :: rest)) := by
  obtain ⟨q0, h0, h1⟩ := me_arr (A := A) (ad := ad) (ca := ca) hwf (k := 14) (j := j) (by decide) (by decide) hj
  subst he
  refine va_bast hexec hb hK hP hD hS q0 1 h0 rfl hin hdg (fun H1 locs1 a1 a2 a3 => ?_)
  have h2 := h1 hD (wI M 14 j i.toNatClampNeg (vp_nar .byte x)) rfl (fun a b h => me_wIE h) rfl (.inl (upd (mI M 14 j) i.toNatClampNeg (vp_nar .byte x))) (by
    show Sum.inl _ = Sum.inl _
    congr 1
    funext q
    show (if 14 = 14 ∧ j = j ∧ q = i.toNatClampNeg then vp_nar .byte x else mI M 14 j q) = if q = i.toNatClampNeg then vp_nar .byte x else mI M 14 j q
    simp)
  rw [h2] at a1 a2
  exact kk H1 locs1 a1 a2 (me_wfI hwf (fun z => fits_narrow_byte x) (fun z => absurd z (by simp [me_bz, me_bzt]))) a3
theorem me_zast {j : Nat} {i x : Int32} (he : M1 = wI M 15 j i.toNatClampNeg (vp_nar .boolean x)) (hexec : p.tables.exec = Jvm.exec) (hb : c.code = cc) (hK : va_K D classes (me_T ca) s) (hP : va_P D classes (me_W ad ca M) H) (hD : va_D A (me_W ad ca M)) (hwf : me_wf N M) (hS : va_S A H0 H locs) (hj : j < N 15) (hin : ¬ (i < 0 ∨ mZ M 15 j ≤ i.toNatClampNeg)) (hdg : decode cc pc = .ok (.bastore, 1))
    (kk : ∀ (H1 : Heap) (locs1 : List Loc), va_P D classes (me_W ad ca M1) H1 → va_D A (me_W ad ca M1) → me_wf N M1 → va_S A H0 H1 locs1 → W p l e R s m args below meth c H1 locs1 cells slots Q (F0 m (pc + 1) ls rest)) : W p l e R s m args below meth c H locs cells slots Q (F0 m pc ls (.int x :: .int i :: .ref (ad 15 j) :: rest)) := by
  obtain ⟨q0, h0, h1⟩ := me_arr (A := A) (ad := ad) (ca := ca) hwf (k := 15) (j := j) (by decide) (by decide) hj
  subst he
  refine va_zast hexec hb hK hP hD hS q0 2 h0 rfl hin hdg (fun H1 locs1 a1 a2 a3 => ?_)
  have h2 := h1 hD (wI M 15 j i.toNatClampNeg (vp_nar .boolean x)) rfl (fun a b h => me_wIE h) rfl (.inl (upd (mI M 15 j) i.toNatClampNeg (vp_nar .boolean x))) (by
    show Sum.inl _ = Sum.inl _
    congr 1
    funext q
    show (if 15 = 15 ∧ j = j ∧ q = i.toNatClampNeg then vp_nar .boolean x else mI M 15 j q) = if q = i.toNatClampNeg then vp_nar .boolean x else mI M 15 j q
    simp)
  rw [h2] at a1 a2
  exact kk H1 locs1 a1 a2 (me_wfI hwf (fun z => absurd z (by decide)) (fun _ => me_zb x)) a3
theorem me_last {j : Nat} {i : Int32} {y : Int64} (he : M1 = wL M 16 j i.toNatClampNeg y) (hexec : p.tables.exec = Jvm.exec) (hb : c.code = cc) (hK : va_K D classes (me_T ca) s) (hP : va_P D classes (me_W ad ca M) H) (hD : va_D A (me_W ad ca M)) (hwf : me_wf N M) (hS : va_S A H0 H locs) (hj : j < N 16) (hin : ¬ (i < 0 ∨ mZ M 16 j ≤ i.toNatClampNeg)) (hdg : decode cc pc = .ok (.lastore, 1))
    (kk : ∀ (H1 : Heap) (locs1 : List Loc), va_P D classes (me_W ad ca M1) H1 → va_D A (me_W ad ca M1) → me_wf N M1 → va_S A H0 H1 locs1 → W p l e R s m args below meth c H1 locs1 cells slots Q (F0 m (pc + 1) ls rest)) : W p l e R s m args below meth c H locs cells slots Q (F0 m pc ls (.long y :: .int i :: .ref (ad 16 j) :: rest)) := by
  obtain ⟨q0, h0, h1⟩ := me_arr (A := A) (ad := ad) (ca := ca) hwf (k := 16) (j := j) (by decide) (by decide) hj
  subst he
  refine va_last hexec hb hK hP hD hS q0 3 h0 rfl hin hdg (fun H1 locs1 a1 a2 a3 => ?_)
  have h2 := h1 hD (wL M 16 j i.toNatClampNeg y) rfl (fun a b h => me_wLE h) rfl (.inr (.inl (vp_updL (mL M 16 j) i.toNatClampNeg y))) (by
    show Sum.inr (Sum.inl _) = Sum.inr (Sum.inl _)
    congr 2
    funext q
    show (if 16 = 16 ∧ j = j ∧ q = i.toNatClampNeg then y else mL M 16 j q) = if q = i.toNatClampNeg then y else mL M 16 j q
    simp)
  rw [h2] at a1 a2
  exact kk H1 locs1 a1 a2 (me_wfL hwf) a3
theorem me_aast {k t j j2 : Nat} {i : Int32} {r : vw_C} (he : M1 = wR M k j i.toNatClampNeg (some j2)) (hexec : p.tables.exec = Jvm.exec) (hb : c.code = cc) (hK : va_K D classes (me_T ca) s) (hP : va_P D classes (me_W ad ca M) H) (hD : va_D A (me_W ad ca M)) (hwf : me_wf N M) (hS : va_S A H0 H locs) (hj : j < N k) (hj2 : j2 < N t) (hk : 17 ≤ k) (hk2 : k < 20) (ht13 : t < 13) (hc : classes[t]? = some r) (ht : (me_T ca)[k - 13]? = some (ca k, .object r.1)) (htk : ∀ i, me_tk k i = t) (hin : ¬ (i < 0 ∨ mZ M k j ≤ i.toNatClampNeg)) (hdg : decode cc pc = .ok (.aastore, 1))
    (kk : ∀ (H1 : Heap) (locs1 : List Loc), va_P D classes (me_W ad ca M1) H1 → va_D A (me_W ad ca M1) → me_wf N M1 → va_S A H0 H1 locs1 → W p l e R s m args below meth c H1 locs1 cells slots Q (F0 m (pc + 1) ls rest)) : W p l e R s m args below meth c H locs cells slots Q (F0 m pc ls (.ref (ad t j2) :: .int i :: .ref (ad k j) :: rest)) := by
  obtain ⟨q0, h0, h1⟩ := me_arr (A := A) (ad := ad) (ca := ca) hwf (k := k) (j := j) (by omega) hk2 hj
  obtain ⟨qk, h9, -⟩ := me_ix (A := fun _ => True) (ad := ad) (ca := ca) (M := M) (k := t) (j := j2) (by omega) (by rw [hwf.1]; exact hj2)
  have h9 : (me_W ad ca M)[qk]? = some (ad t j2, .inr (t, me_fl ad M t j2)) := by
    rw [h9]
    unfold me_E
    rw [if_pos ht13]
  have e : ∀ M2 : me_M, me_ar ad M2 k j = .inr (.inr (.inr (.inr (fun i => (mR M2 k j i).map (ad t))))) := by
    intro M2
    unfold me_ar
    rw [if_neg (by omega), if_neg (by omega)]
    simp only [htk]
  rw [e] at h0
  subst he
  refine va_astq hexec hb hK hP hD hS q0 (k - 13) qk t h0 ht h9 hc hin hdg (fun H1 locs1 a1 a2 a3 => ?_)
  have h2 := h1 hD (wR M k j i.toNatClampNeg (some j2)) rfl (fun a b h => me_wRE h) rfl (.inr (.inr (.inr (.inr (va_up (fun i => (mR M k j i).map (ad t)) i.toNatClampNeg (some (ad t j2))))))) (by
    rw [e]
    congr 4
    funext q
    show (if k = k ∧ j = j ∧ q = i.toNatClampNeg then some j2 else mR M k j q).map (ad t) = if q = i.toNatClampNeg then some (ad t j2) else (mR M k j q).map (ad t)
    by_cases z : q = i.toNatClampNeg
    · simp [z]
    · simp [z])
  rw [h2] at a1 a2
  exact kk H1 locs1 a1 a2 (me_wfR hwf (fun t2 z => by cases z; rw [htk]; exact hj2)) a3
end MER
