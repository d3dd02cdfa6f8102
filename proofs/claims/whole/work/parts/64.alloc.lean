/-! Methods that make things. A method's room is what is left of the whole room; what it takes is what it made. -/
def me_sc (k : Nat) : Nat := if k < 13 then me_nf k else ([30081, 65536, 2001, 30081, 200, 75, 4] : List Nat).getD (k - 13) 0
def me_cN (N : Nat → Nat) : Nat := ((List.range 20).map N).sum
def me_sN (N : Nat → Nat) : Nat := ((List.range 20).map (fun k => N k * me_sc k)).sum
def me_CL : Nat := 100000
def me_SL : Nat := 3000000
def me_N1 (N : Nat → Nat) (k : Nat) : Nat → Nat := fun a => if a = k then N a + 1 else N a
def nO (M : me_M) (k : Nat) : me_M := (fun a b c => if a = k ∧ b = mN M k then 0 else mI M a b c, fun a b c => if a = k ∧ b = mN M k then 0 else mL M a b c, fun a b c => if a = k ∧ b = mN M k then none else mR M a b c, me_N1 (mN M) k, mZ M)
def nA (M : me_M) (k n : Nat) : me_M := (fun a b c => if a = k ∧ b = mN M k then 0 else mI M a b c, fun a b c => if a = k ∧ b = mN M k then 0 else mL M a b c, fun a b c => if a = k ∧ b = mN M k then none else mR M a b c, me_N1 (mN M) k, fun a b => if a = k ∧ b = mN M k then n else mZ M a b)
abbrev me_fit (M : me_M) (k : Nat) : Prop := me_cN (mN M) + 1 ≤ me_CL ∧ me_sN (mN M) + me_sc k ≤ me_SL
def me_ok (N0 N : Nat → Nat) : Prop := me_cN N0 ≤ me_cN N ∧ me_sN N0 ≤ me_sN N ∧ me_cN N ≤ me_CL ∧ me_sN N ≤ me_SL ∧ ∀ k, N0 k ≤ N k
theorem me_ok.rf {N : Nat → Nat} (h : me_cN N ≤ me_CL ∧ me_sN N ≤ me_SL) : me_ok N N := ⟨Nat.le_refl _, Nat.le_refl _, h.1, h.2, fun _ => Nat.le_refl _⟩
theorem me_ok.tr {N0 N N1 : Nat → Nat} (h : me_ok N0 N) (h1 : me_ok N N1) : me_ok N0 N1 := ⟨Nat.le_trans h.1 h1.1, Nat.le_trans h.2.1 h1.2.1, h1.2.2.1, h1.2.2.2.1, fun k => Nat.le_trans (h.2.2.2.2 k) (h1.2.2.2.2 k)⟩
theorem me_sum0 {g : Nat → Nat} {k d : Nat} : ∀ l : List Nat, k ∉ l → (l.map (fun a => if a = k then g a + d else g a)).sum = (l.map g).sum
  | [], _ => rfl
  | a :: t, h => by
    rw [List.map_cons, List.map_cons, List.sum_cons, List.sum_cons, me_sum0 t (fun z => h (List.mem_cons_of_mem _ z)), if_neg (show ¬ a = k from fun z => h (by rw [z]; exact List.mem_cons_self))]
theorem me_sum {g : Nat → Nat} {k d : Nat} : ∀ l : List Nat, l.Nodup → k ∈ l → (l.map (fun a => if a = k then g a + d else g a)).sum = (l.map g).sum + d
  | [], _, h => by cases h
  | a :: t, hn, h => by
    rw [List.map_cons, List.map_cons, List.sum_cons, List.sum_cons]
    by_cases z : a = k
    · subst z
      rw [me_sum0 t (List.nodup_cons.mp hn).1, if_pos rfl]
      omega
    · rw [me_sum t (List.nodup_cons.mp hn).2 (by rcases List.mem_cons.mp h with q | q; exact absurd q.symm z; exact q), if_neg z]
      omega
theorem me_cN1 {N : Nat → Nat} {k : Nat} (hk : k < 20) : me_cN (me_N1 N k) = me_cN N + 1 := me_sum (List.range 20) List.nodup_range (List.mem_range.mpr hk)
theorem me_sN1 {N : Nat → Nat} {k : Nat} (hk : k < 20) : me_sN (me_N1 N k) = me_sN N + me_sc k := by
  have h := me_sum (g := fun a => N a * me_sc a) (d := me_sc k) (List.range 20) List.nodup_range (List.mem_range.mpr hk)
  have e : (fun a => me_N1 N k a * me_sc a) = fun a => if a = k then N a * me_sc a + me_sc k else N a * me_sc a := by
    funext a
    unfold me_N1
    by_cases z : a = k
    · rw [if_pos z, if_pos z, Nat.add_mul, Nat.one_mul, z]
    · rw [if_neg z, if_neg z]
  unfold me_sN
  rw [e]
  exact h
theorem me_okn {N0 N : Nat → Nat} {k : Nat} (hk : k < 20) (h : me_ok N0 N) (h1 : me_cN N + 1 ≤ me_CL) (h2 : me_sN N + me_sc k ≤ me_SL) : me_ok N0 (me_N1 N k) := by
  refine ⟨?_, ?_, ?_, ?_, fun a => ?_⟩
  · rw [me_cN1 hk]; have := h.1; omega
  · rw [me_sN1 hk]; have := h.2.1; omega
  · rw [me_cN1 hk]; exact h1
  · rw [me_sN1 hk]; exact h2
  · unfold me_N1
    have := h.2.2.2.2 a
    split <;> omega
theorem me_fp {α : Type} {f f1 : Nat → List α} {k : Nat} {x : α} (h1 : f1 k = f k ++ [x]) (h2 : ∀ a, a ≠ k → f1 a = f a) : ∀ l : List Nat, l.Nodup → k ∈ l → (l.flatMap f1).Perm (l.flatMap f ++ [x])
  | [], _, h => by cases h
  | a :: t, hn, hm => by
    rw [List.flatMap_cons, List.flatMap_cons]
    by_cases h : a = k
    · subst h
      have e : t.flatMap f1 = t.flatMap f := by
        have hna := (List.nodup_cons.mp hn).1
        have : ∀ u : List Nat, a ∉ u → u.flatMap f1 = u.flatMap f := by
          intro u
          induction u with
          | nil => intro _; rfl
          | cons b u ih =>
            intro hb
            rw [List.flatMap_cons, List.flatMap_cons, h2 b (fun z => hb (z ▸ List.mem_cons_self)), ih (fun z => hb (List.mem_cons_of_mem _ z))]
        exact this t hna
      rw [e, h1, List.append_assoc, List.append_assoc]
      exact List.Perm.append_left _ List.perm_append_comm
    · rw [h2 a h, List.append_assoc]
      exact (me_fp h1 h2 t (List.nodup_cons.mp hn).2 (by rcases List.mem_cons.mp hm with q | q; exact absurd q.symm h; exact q)).append_left _
theorem me_idp {N : Nat → Nat} {k : Nat} (hk : k < 20) : (me_ids (me_N1 N k)).Perm (me_ids N ++ [(k, N k)]) := by
  refine me_fp (f := fun k => (List.range (N k)).map (fun j => (k, j))) (f1 := fun a => (List.range (me_N1 N k a)).map (fun j => (a, j))) ?_ ?_ (List.range 20) List.nodup_range (List.mem_range.mpr hk)
  · show (List.range (if k = k then N k + 1 else N k)).map _ = _
    rw [if_pos rfl, List.range_succ, List.map_append]
    rfl
  · intro a ha
    show (List.range (if a = k then N a + 1 else N a)).map _ = _
    rw [if_neg ha]
/-- the addresses of things that are there are what counts -/
theorem me_Ead {ad ad1 : Nat → Nat → Nat} {ca : Nat → ClassId} {M : me_M} {N : Nat → Nat} {a b : Nat} (hwf : me_wf N M) (ha : a < 20) (hb : b < N a) (hx : ∀ a b, b < N a → ad1 a b = ad a b) : me_E ad1 ca M a b = me_E ad ca M a b := by
  have key : ∀ f, (mR M a b f).map (ad1 (me_tk a f)) = (mR M a b f).map (ad (me_tk a f)) := by
    intro f
    cases h : mR M a b f with
    | none => rfl
    | some t => exact congrArg some (hx _ _ (hwf.2.1 a b f t h ha hb))
  unfold me_E
  by_cases h13 : a < 13
  · rw [if_pos h13, if_pos h13]
    have e : me_fv ad1 M a b = me_fv ad M a b := by
      funext f
      have k1 := key f
      have tk : me_tk a f = me_ft a f - 2 := by
        unfold me_tk
        rw [if_neg (by omega), if_neg (by omega), if_neg (by omega)]
      rw [tk] at k1
      unfold me_fv
      split
      · rfl
      · rfl
      · next t ht =>
        rw [ht] at k1
        rw [show t + 2 - 2 = t by omega] at k1
        rw [k1]
    unfold me_fl
    rw [e]
  · rw [if_neg h13, if_neg h13]
    unfold me_ar
    by_cases h16 : a < 16
    · rw [if_pos h16, if_pos h16]
    · rw [if_neg h16, if_neg h16]
      by_cases h17 : a = 16
      · rw [if_pos h17, if_pos h17]
      · rw [if_neg h17, if_neg h17]
        simp only [key]
theorem me_Wp {ad ad1 : Nat → Nat → Nat} {ca : Nat → ClassId} {M M1 : me_M} {N : Nat → Nat} {k : Nat} (hwf : me_wf N M) (hk : k < 20) (hN : mN M1 = me_N1 (mN M) k) (hE : ∀ a b, ¬ (a = k ∧ b = mN M k) → me_E ad1 ca M1 a b = me_E ad1 ca M a b) (hx : ∀ a b, b < N a → ad1 a b = ad a b) :
    (me_W ad1 ca M1).Perm (me_W ad ca M ++ [(ad1 k (mN M k), me_E ad1 ca M1 k (mN M k))]) := by
  have h1 := (me_idp (N := mN M) hk).map (fun q => (ad1 q.1 q.2, me_E ad1 ca M1 q.1 q.2))
  rw [← hN, List.map_append] at h1
  have e : (me_ids (mN M)).map (fun q => (ad1 q.1 q.2, me_E ad1 ca M1 q.1 q.2)) = me_W ad ca M := by
    unfold me_W
    apply List.map_congr_left
    rintro ⟨a, b⟩ hq
    obtain ⟨ha, hb⟩ := me_mem.mp hq
    have hbN : b < N a := by rw [← hwf.1]; exact hb
    show (ad1 a b, me_E ad1 ca M1 a b) = (ad a b, me_E ad ca M a b)
    rw [hx a b hbN, hE a b (fun z => by obtain ⟨z1, z2⟩ := z; subst z1; omega), me_Ead hwf ha hbN hx]
  rw [e] at h1
  exact h1
theorem me_nOE {ad : Nat → Nat → Nat} {ca : Nat → ClassId} {M : me_M} {k a b : Nat} (h : ¬ (a = k ∧ b = mN M k)) : me_E ad ca (nO M k) a b = me_E ad ca M a b := by
  refine me_Ec ?_ ?_ ?_ rfl
  · funext x; show (if a = k ∧ b = mN M k then 0 else mI M a b x) = _; rw [if_neg h]
  · funext x; show (if a = k ∧ b = mN M k then 0 else mL M a b x) = _; rw [if_neg h]
  · funext x; show (if a = k ∧ b = mN M k then none else mR M a b x) = _; rw [if_neg h]
theorem me_nAE {ad : Nat → Nat → Nat} {ca : Nat → ClassId} {M : me_M} {k n a b : Nat} (h : ¬ (a = k ∧ b = mN M k)) : me_E ad ca (nA M k n) a b = me_E ad ca M a b := by
  refine me_Ec ?_ ?_ ?_ ?_
  · funext x; show (if a = k ∧ b = mN M k then 0 else mI M a b x) = _; rw [if_neg h]
  · funext x; show (if a = k ∧ b = mN M k then 0 else mL M a b x) = _; rw [if_neg h]
  · funext x; show (if a = k ∧ b = mN M k then none else mR M a b x) = _; rw [if_neg h]
  · show (if a = k ∧ b = mN M k then n else mZ M a b) = _; rw [if_neg h]
theorem me_N1le {N : Nat → Nat} {k a : Nat} : N a ≤ me_N1 N k a := by
  unfold me_N1
  split <;> omega
theorem me_N1k {N : Nat → Nat} {k : Nat} : N k < me_N1 N k k := by
  unfold me_N1
  rw [if_pos rfl]
  omega
theorem me_wfn {M M1 : me_M} {N : Nat → Nat} {k : Nat} (hwf : me_wf N M) (hN : mN M1 = me_N1 (mN M) k) (hR : ∀ a b c, mR M1 a b c = if a = k ∧ b = mN M k then none else mR M a b c) (hI : ∀ a b c, mI M1 a b c = if a = k ∧ b = mN M k then 0 else mI M a b c) : me_wf (mN M1) M1 := by
  refine ⟨rfl, ?_, ?_, ?_⟩
  · intro a b f t h ha hb
    rw [hR] at h
    by_cases z : a = k ∧ b = mN M k
    · rw [if_pos z] at h
      cases h
    · rw [if_neg z] at h
      have hb2 : b < N a := by
        rw [hN] at hb
        unfold me_N1 at hb
        rw [← hwf.1]
        by_cases q : a = k
        · rw [if_pos q] at hb
          have : b ≠ mN M k := fun w => z ⟨q, w⟩
          subst q
          omega
        · rw [if_neg q] at hb
          exact hb
      have := hwf.2.1 a b f t h ha hb2
      rw [hN, hwf.1]
      exact Nat.lt_of_lt_of_le this me_N1le
  · intro j i
    rw [hI]
    split
    · rfl
    · exact hwf.2.2.1 j i
  · intro a b f h
    rw [hI]
    split
    · exact Or.inr rfl
    · exact hwf.2.2.2 a b f h
def me_dv (k f : Nat) : Value := match me_ft k f with
  | 0 => .int 0
  | 1 => .long 0
  | _ => .null
theorem me_fl0 {ad : Nat → Nat → Nat} {M : me_M} {k j : Nat} (hI : ∀ f, mI M k j f = 0) (hL : ∀ f, mL M k j f = 0) (hR : ∀ f, mR M k j f = none) : me_fl ad M k j = (List.range (me_nf k)).map (me_dv k) := by
  unfold me_fl
  apply List.map_congr_left
  intro f _
  unfold me_fv me_dv
  rw [hI, hL, hR]
  generalize me_ft k f = q
  match q with
  | 0 => rfl
  | 1 => rfl
  | t + 2 => rfl
section MEL
variable {p : Program} {l : Launch} {e : Env} {R : Room} {s : State} {m : MethodId} {args : Array Value} {below : List Frame} {meth : Method} {c : Code} {H : Heap} {locs : List Loc} {Q : State → Prop}
variable {cc : ByteArray} {pc : Nat} {ls : Array Slot} {rest : List Value} {D : va_G} {A : Nat → Prop} {H0 : Heap} {ad : Nat → Nat → Nat} {ca : Nat → ClassId} {M M1 : me_M} {N N0 : Nat → Nat}
theorem al_new {own C : String} {T : u_T} {Nf index k : Nat} {fs : List Value} (he : M1 = nO M k) (hfit : me_fit M k) (hexec : p.tables.exec = Jvm.exec) (hb : c.code = cc) (hts : ∀ w ∈ fg_g, w.before args s = true) (hin : ∀ w ∈ u_ws C T Nf, w ∈ fg_g) (ty : Nat → FieldType) (hty : ∀ k, k < Nf → parseFieldDescriptor (T k).2.2.1 = some (ty k)) (hown : s.vm.findClass own = some m.cls) (hcl : (Cond.classLink own index C).before args s = true) (hinst : (Cond.instantiable C Nf).before args s = true) (hini : (Cond.initialized C).before args s = true)
    (hK : va_K D classes (me_T ca) s) (hP : va_P D classes (me_W ad ca M) H) (hD : va_D A (me_W ad ca M)) (hwf : me_wf N M) (hok : me_ok N0 N) (hS : va_S A H0 H locs) (hA : ∀ q, H0.size ≤ q → A q) (hk : k < 13) (hc : classes[k]? = some (C, T, Nf)) (hn : me_nf k = Nf) (hfs : ∀ j, j < Nf → defaultValue (ty j) = vp_V fs j) (hz0 : (List.range (me_nf k)).map (me_dv k) = fs) (hRc : R.cells = me_CL - me_cN N0) (hRs : R.slots = me_SL - me_sN N0) (hdg : decode cc pc = .ok (.new index, 3))
    (kk : ∀ (ad1 : Nat → Nat → Nat) (N1 : Nat → Nat) (H1 : Heap), (∀ a b, b < N a → ad1 a b = ad a b) → (∀ a, N a ≤ N1 a) → mN M k < N1 k → me_wf N1 M1 → me_ok N0 N1 → va_P D classes (me_W ad1 ca M1) H1 → va_D A (me_W ad1 ca M1) → va_S A H0 H1 locs → W p l e R s m args below meth c H1 locs (me_cN N1 - me_cN N0) (me_sN N1 - me_sN N0) Q (F0 m (pc + 3) ls (.ref (ad1 k (mN M k)) :: rest))) : W p l e R s m args below meth c H locs (me_cN N - me_cN N0) (me_sN N - me_sN N0) Q (F0 m pc ls rest) := by
  have hk20 : k < 20 := by omega
  have hsc : me_sc k = Nf := by unfold me_sc; rw [if_pos hk, hn]
  obtain ⟨f1, f2⟩ := hfit
  rw [hwf.1] at f1 f2
  have o1 := hok.1
  have o2 := hok.2.1
  have c1 := me_cN1 (N := N) hk20
  have c2 := me_sN1 (N := N) hk20
  refine va_new hexec hb hts hin ty hty hown hcl hinst hini hK hP hD hS hA hc hfs (by rw [hRc]; omega) (by rw [hRs]; omega) hdg (fun q H1 a1 a2 a3 => ?_)
  obtain ⟨ad1, had⟩ : ∃ z : Nat → Nat → Nat, z = fun a b => if a = k ∧ b = N k then q else ad a b := ⟨_, rfl⟩
  have hext : ∀ a b, b < N a → ad1 a b = ad a b := by
    intro a b h
    rw [had]
    show (if a = k ∧ b = N k then q else ad a b) = ad a b
    rw [if_neg (fun z => by obtain ⟨z1, z2⟩ := z; subst z1; omega)]
  have hq : ad1 k (mN M k) = q := by
    rw [had, hwf.1]
    show (if k = k ∧ N k = N k then q else _) = q
    rw [if_pos ⟨rfl, rfl⟩]
  have hM1 : me_E ad1 ca M1 k (mN M k) = .inr (k, fs) := by
    unfold me_E
    rw [if_pos hk, me_fl0 (fun f => ?_) (fun f => ?_) (fun f => ?_), hz0]
    · rw [he]; show (if k = k ∧ mN M k = mN M k then (0 : Int32) else _) = 0; rw [if_pos ⟨rfl, rfl⟩]
    · rw [he]; show (if k = k ∧ mN M k = mN M k then (0 : Int64) else _) = 0; rw [if_pos ⟨rfl, rfl⟩]
    · rw [he]; show (if k = k ∧ mN M k = mN M k then none else _) = none; rw [if_pos ⟨rfl, rfl⟩]
  have hp := me_Wp (ad := ad) (ad1 := ad1) (ca := ca) (M := M) (M1 := M1) hwf hk20 (by rw [he]; rfl) (fun a b h => by rw [he]; exact me_nOE h) hext
  rw [hM1, hq] at hp
  have hN1 : mN M1 = me_N1 N k := by rw [he, ← hwf.1]; rfl
  have hw1 := me_wfn (M := M) (M1 := M1) hwf (k := k) (by rw [he]; rfl) (fun a b c => by rw [he]; rfl) (fun a b c => by rw [he]; rfl)
  rw [hN1] at hw1
  have k1 := kk ad1 (me_N1 N k) H1 hext (fun a => me_N1le) (by rw [hwf.1]; exact me_N1k) hw1 (me_okn hk20 hok f1 f2) (fk_Pp hp.symm a1) (fk_Dp hp.symm a2) a3
  rw [hq] at k1
  exact W.widen (by omega) (by omega) k1
theorem al_arr {k n : Nat} {cA : ClassId} {x : vp_A} {q : Nat} {H1 : Heap} (he : M1 = nA M k n) (hfit : me_fit M k) (hwf : me_wf N M) (hok : me_ok N0 N) (hk : 13 ≤ k) (hk2 : k < 20) (hcA : cA = ca k) (hx : ∀ ad1 : Nat → Nat → Nat, ((n, me_ar ad1 M1 k (mN M k)) : vp_A) = x) (a1 : va_P D classes (me_W ad ca M ++ [(q, .inl (cA, x))]) H1) (a2 : va_D A (me_W ad ca M ++ [(q, .inl (cA, x))])) :
    ∃ (ad1 : Nat → Nat → Nat) (N1 : Nat → Nat), (∀ a b, b < N a → ad1 a b = ad a b) ∧ (∀ a, N a ≤ N1 a) ∧ mN M k < N1 k ∧ me_wf N1 M1 ∧ me_ok N0 N1 ∧ va_P D classes (me_W ad1 ca M1) H1 ∧ va_D A (me_W ad1 ca M1) ∧ ad1 k (mN M k) = q ∧ me_cN N1 = me_cN N + 1 ∧ me_sN N1 = me_sN N + me_sc k := by
  obtain ⟨f1, f2⟩ := hfit
  rw [hwf.1] at f1 f2
  obtain ⟨ad1, had⟩ : ∃ z : Nat → Nat → Nat, z = fun a b => if a = k ∧ b = N k then q else ad a b := ⟨_, rfl⟩
  have hext : ∀ a b, b < N a → ad1 a b = ad a b := by
    intro a b h
    rw [had]
    show (if a = k ∧ b = N k then q else ad a b) = ad a b
    rw [if_neg (fun z => by obtain ⟨z1, z2⟩ := z; subst z1; omega)]
  have hq : ad1 k (mN M k) = q := by
    rw [had, hwf.1]
    show (if k = k ∧ N k = N k then q else _) = q
    rw [if_pos ⟨rfl, rfl⟩]
  have hZ : mZ M1 k (mN M k) = n := by
    rw [he]; show (if k = k ∧ mN M k = mN M k then n else _) = n; rw [if_pos ⟨rfl, rfl⟩]
  have hM1 : me_E ad1 ca M1 k (mN M k) = .inl (cA, x) := by
    unfold me_E
    rw [if_neg (by omega), hZ, hcA, ← hx ad1]
  have hp := me_Wp (ad := ad) (ad1 := ad1) (ca := ca) (M := M) (M1 := M1) hwf hk2 (by rw [he]; rfl) (fun a b h => by rw [he]; exact me_nAE h) hext
  rw [hM1, hq] at hp
  have hN1 : mN M1 = me_N1 N k := by rw [he, ← hwf.1]; rfl
  have hw1 := me_wfn (M := M) (M1 := M1) hwf (k := k) (by rw [he]; rfl) (fun a b c => by rw [he]; rfl) (fun a b c => by rw [he]; rfl)
  rw [hN1] at hw1
  exact ⟨ad1, me_N1 N k, hext, fun a => me_N1le, by rw [hwf.1]; exact me_N1k, hw1, me_okn hk2 hok f1 f2, fk_Pp hp.symm a1, fk_Dp hp.symm a2, hq, me_cN1 hk2, me_sN1 hk2⟩
theorem al_nA0 {k n : Nat} : (∀ f, mI (nA M k n) k (mN M k) f = 0) ∧ (∀ f, mL (nA M k n) k (mN M k) f = 0) ∧ ∀ f, mR (nA M k n) k (mN M k) f = none := by
  refine ⟨fun f => ?_, fun f => ?_, fun f => ?_⟩
  · show (if k = k ∧ mN M k = mN M k then (0 : Int32) else _) = 0; rw [if_pos ⟨rfl, rfl⟩]
  · show (if k = k ∧ mN M k = mN M k then (0 : Int64) else _) = 0; rw [if_pos ⟨rfl, rfl⟩]
  · show (if k = k ∧ mN M k = mN M k then none else _) = none; rw [if_pos ⟨rfl, rfl⟩]
theorem al_newa {k : Nat} {n : Int32} {atype : ArrayType} {ty : FieldType} {a0 : vp_A} (he : M1 = nA M k n.toNatClampNeg) (hg : ¬ n < 0 ∧ n.toNatClampNeg ≤ me_sc k ∧ me_fit M k) (hexec : p.tables.exec = Jvm.exec) (hb : c.code = cc) (harr : (Cond.arrayClass (newarray.typeOf atype)).before args s = true) (hty : newarray.typeOf atype = ty)
    (hK : va_K D classes (me_T ca) s) (hP : va_P D classes (me_W ad ca M) H) (hD : va_D A (me_W ad ca M)) (hwf : me_wf N M) (hok : me_ok N0 N) (hS : va_S A H0 H locs) (hA : ∀ q, H0.size ≤ q → A q) (hk : 13 ≤ k) (hk2 : k < 17) (ht : (me_T ca)[k - 13]? = some (ca k, ty)) (hra : ∀ U cA, va_RA U cA ty → U.vm.findClass ("[" ++ ty.toString) = some cA) (hbytes : me_sc k * componentBytes ty ≤ 536870912) (ha : ∀ cA : ClassId, vp_cell cA a0 = arrV cA n.toNatClampNeg (fun _ => defaultValue ty)) (hx : ∀ ad1 : Nat → Nat → Nat, ((n.toNatClampNeg, me_ar ad1 M1 k (mN M k)) : vp_A) = a0) (hRc : R.cells = me_CL - me_cN N0) (hRs : R.slots = me_SL - me_sN N0) (hdg : decode cc pc = .ok (.newarray atype, 2))
    (kk : ∀ (ad1 : Nat → Nat → Nat) (N1 : Nat → Nat) (H1 : Heap), (∀ a b, b < N a → ad1 a b = ad a b) → (∀ a, N a ≤ N1 a) → mN M k < N1 k → me_wf N1 M1 → me_ok N0 N1 → va_P D classes (me_W ad1 ca M1) H1 → va_D A (me_W ad1 ca M1) → va_S A H0 H1 locs → W p l e R s m args below meth c H1 locs (me_cN N1 - me_cN N0) (me_sN N1 - me_sN N0) Q (F0 m (pc + 2) ls (.ref (ad1 k (mN M k)) :: rest))) : W p l e R s m args below meth c H locs (me_cN N - me_cN N0) (me_sN N - me_sN N0) Q (F0 m pc ls (.int n :: rest)) := by
  obtain ⟨g1, g2, f1, f2⟩ := hg
  have f1' := f1
  have f2' := f2
  rw [hwf.1] at f1' f2'
  have o1 := hok.1
  have o2 := hok.2.1
  refine va_newa hexec hb harr hty hK hP hD hS hA ha g1 rfl (Nat.le_trans (Nat.mul_le_mul_right _ g2) hbytes) (by rw [hRc]; omega) (by rw [hRs]; omega) hdg (fun q cA H1 h9 a1 a2 a3 => ?_)
  have e1 := hra _ _ (hK.2 _ _ ht).2
  have e2 := hra _ _ (h9.2 7 (cA, ty) rfl).2
  have hcA : cA = ca k := Option.some.inj (e2.symm.trans e1)
  obtain ⟨ad1, N1, b1, b2, b3, b4, b5, b6, b7, b8, b9, b10⟩ := al_arr he ⟨f1, f2⟩ hwf hok hk (by omega) hcA hx a1 a2
  have k1 := kk ad1 N1 H1 b1 b2 b3 b4 b5 b6 b7 a3
  rw [b8] at k1
  exact W.widen (by omega) (by omega) k1
theorem al_newq {own C : String} {index k : Nat} {n : Int32} (he : M1 = nA M k n.toNatClampNeg) (hg : ¬ n < 0 ∧ n.toNatClampNeg ≤ me_sc k ∧ me_fit M k) (hexec : p.tables.exec = Jvm.exec) (hb : c.code = cc) (hown : s.vm.findClass own = some m.cls) (hclink : (Cond.classLink own index C).before args s = true) (hover : va_AO C s)
    (hK : va_K D classes (me_T ca) s) (hP : va_P D classes (me_W ad ca M) H) (hD : va_D A (me_W ad ca M)) (hwf : me_wf N M) (hok : me_ok N0 N) (hS : va_S A H0 H locs) (hA : ∀ q, H0.size ≤ q → A q) (hk : 17 ≤ k) (hk2 : k < 20) (ht : (me_T ca)[k - 13]? = some (ca k, .object C)) (hbytes : me_sc k * 4 ≤ 536870912) (hRc : R.cells = me_CL - me_cN N0) (hRs : R.slots = me_SL - me_sN N0) (hdg : decode cc pc = .ok (.anewarray index, 3))
    (kk : ∀ (ad1 : Nat → Nat → Nat) (N1 : Nat → Nat) (H1 : Heap), (∀ a b, b < N a → ad1 a b = ad a b) → (∀ a, N a ≤ N1 a) → mN M k < N1 k → me_wf N1 M1 → me_ok N0 N1 → va_P D classes (me_W ad1 ca M1) H1 → va_D A (me_W ad1 ca M1) → va_S A H0 H1 locs → W p l e R s m args below meth c H1 locs (me_cN N1 - me_cN N0) (me_sN N1 - me_sN N0) Q (F0 m (pc + 3) ls (.ref (ad1 k (mN M k)) :: rest))) : W p l e R s m args below meth c H locs (me_cN N - me_cN N0) (me_sN N - me_sN N0) Q (F0 m pc ls (.int n :: rest)) := by
  obtain ⟨g1, g2, f1, f2⟩ := hg
  have f1' := f1
  have f2' := f2
  rw [hwf.1] at f1' f2'
  have o1 := hok.1
  have o2 := hok.2.1
  refine va_newq hexec hb hown hclink hover hK hP hD hS hA g1 rfl (Nat.le_trans (Nat.mul_le_mul_right _ g2) hbytes) (by rw [hRc]; omega) (by rw [hRs]; omega) hdg (fun q cA H1 h9 a1 a2 a3 => ?_)
  obtain ⟨-, -, -, -, -, e1⟩ := (hK.2 _ _ ht).2
  obtain ⟨-, -, -, -, -, e2⟩ := (h9.2 7 (cA, .object C) rfl).2
  have hcA : cA = ca k := Option.some.inj (e2.symm.trans e1)
  obtain ⟨ad1, N1, b1, b2, b3, b4, b5, b6, b7, b8, b9, b10⟩ := al_arr (x := (n.toNatClampNeg, .inr (.inr (.inr (.inr (fun _ => none)))))) he ⟨f1, f2⟩ hwf hok (by omega) hk2 hcA (fun ad1 => by
    unfold me_ar
    rw [if_neg (by omega), if_neg (by omega), he]
    simp only [al_nA0.2.2]
    rfl) a1 a2
  have k1 := kk ad1 N1 H1 b1 b2 b3 b4 b5 b6 b7 a3
  rw [b8] at k1
  exact W.widen (by omega) (by omega) k1
end MEL
