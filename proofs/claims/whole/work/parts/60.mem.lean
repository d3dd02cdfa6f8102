/-! A memory of kinds. Kinds 0 .. 12 are the classes, as `classes` has them; 13 .. 19 are arrays: int, byte, boolean, long, State, Cell, Store. The things of a kind are numbered. -/
abbrev me_M : Type := (Nat → Nat → Nat → Int32) × (Nat → Nat → Nat → Int64) × (Nat → Nat → Nat → Option Nat) × (Nat → Nat) × (Nat → Nat → Nat)
def mI (M : me_M) : Nat → Nat → Nat → Int32 := M.1
def mL (M : me_M) : Nat → Nat → Nat → Int64 := M.2.1
def mR (M : me_M) : Nat → Nat → Nat → Option Nat := M.2.2.1
def mN (M : me_M) : Nat → Nat := M.2.2.2.1
def mZ (M : me_M) : Nat → Nat → Nat := M.2.2.2.2
def wI (M : me_M) (k j f : Nat) (v : Int32) : me_M := (fun a b c => if a = k ∧ b = j ∧ c = f then v else mI M a b c, mL M, mR M, mN M, mZ M)
def wL (M : me_M) (k j f : Nat) (v : Int64) : me_M := (mI M, fun a b c => if a = k ∧ b = j ∧ c = f then v else mL M a b c, mR M, mN M, mZ M)
def wR (M : me_M) (k j f : Nat) (v : Option Nat) : me_M := (mI M, mL M, fun a b c => if a = k ∧ b = j ∧ c = f then v else mR M a b c, mN M, mZ M)
/-- an int array whose contents are g -/
def wA (M : me_M) (k j : Nat) (g : Nat → Int32) : me_M := (fun a b => if a = k ∧ b = j then g else mI M a b, mL M, mR M, mN M, mZ M)
def wB (M : me_M) (k j : Nat) (g : Nat → Int64) : me_M := (mI M, fun a b => if a = k ∧ b = j then g else mL M a b, mR M, mN M, mZ M)
def me_tab : List (List Nat) := [[16, 0, 21, 0, 4, 4, 5, 6, 7, 0, 0, 0, 0, 0],
  [0, 16, 0, 0, 0, 15, 15, 15, 15, 17, 16, 16, 0, 18, 0, 0, 18, 18, 0, 0, 0, 0, 0, 0, 0, 0, 0, 15, 17, 17, 15, 18, 17, 17, 0, 16, 16, 1, 0, 18, 0, 0, 0, 18, 16, 16, 16, 16, 15, 15, 15, 15, 18, 18, 18, 18, 18, 18, 15, 0, 15, 15, 0, 15, 15, 0, 15, 15, 0, 0, 0, 17, 18, 15, 0],
  [18, 17, 17, 0, 0, 0, 0, 0, 0, 0, 0, 0, 0, 0, 0, 0],
  [15, 17, 17, 15, 18, 17, 15],
  [4, 5, 9, 19, 19, 15, 15, 0, 11, 0, 0, 0, 0, 0, 0],
  [4, 4, 21, 8, 16, 16, 18, 16, 0, 18, 0, 1, 0, 0, 0, 0, 4, 0, 16, 0],
  [4, 21, 11, 20],
  [4, 21, 10, 12, 13, 20, 11, 0, 0, 0, 0, 0, 0, 0, 0, 13, 13, 13, 13],
  [13, 13, 13, 13, 13],
  [20, 0, 0, 0, 0],
  [0, 0, 0, 0, 0, 0, 13],
  [1, 1, 1, 1, 1, 1],
  [0, 0, 0, 0, 16, 16, 17]]
def me_bzt : List (List Nat) := [[11, 12, 13], [4, 18, 19], [13, 14, 15], [], [10], [], [], [8, 9, 14], [], [4], [], [], [0]]
def me_ft (k f : Nat) : Nat := (me_tab.getD k []).getD f 0
def me_nf (k : Nat) : Nat := (me_tab.getD k []).length
def me_bz (k f : Nat) : Bool := k == 15 || (me_bzt.getD k []).contains f
def me_tk (k f : Nat) : Nat := if k = 17 then 9 else if k = 18 then 10 else if k = 19 then 12 else me_ft k f - 2
def me_fv (ad : Nat → Nat → Nat) (M : me_M) (k j f : Nat) : Value := match me_ft k f with
  | 0 => .int (mI M k j f)
  | 1 => .long (mL M k j f)
  | t + 2 => va_rf ((mR M k j f).map (ad t))
def me_fl (ad : Nat → Nat → Nat) (M : me_M) (k j : Nat) : List Value := (List.range (me_nf k)).map (me_fv ad M k j)
def me_ar (ad : Nat → Nat → Nat) (M : me_M) (k j : Nat) : (Nat → Int32) ⊕ (Nat → Int64) ⊕ (Nat → UInt32) ⊕ (Nat → UInt64) ⊕ (Nat → Option Nat) :=
  if k < 16 then .inl (mI M k j) else if k = 16 then .inr (.inl (mL M k j)) else .inr (.inr (.inr (.inr (fun i => (mR M k j i).map (ad (me_tk k i))))))
def me_E (ad : Nat → Nat → Nat) (ca : Nat → ClassId) (M : me_M) (k j : Nat) : va_E := if k < 13 then .inr (k, me_fl ad M k j) else .inl (ca k, mZ M k j, me_ar ad M k j)
def me_ids (N : Nat → Nat) : List (Nat × Nat) := (List.range 20).flatMap (fun k => (List.range (N k)).map (fun j => (k, j)))
def me_W (ad : Nat → Nat → Nat) (ca : Nat → ClassId) (M : me_M) : va_W := (me_ids (mN M)).map (fun q => (ad q.1 q.2, me_E ad ca M q.1 q.2))
def me_T (ca : Nat → ClassId) : fg_T := [(ca 13, .int), (ca 14, .byte), (ca 15, .boolean), (ca 16, .long), (ca 17, .object "FilterGuard$State"), (ca 18, .object "FilterGuard$Cell"), (ca 19, .object "FilterGuard$Store")]
/-- references go to things that are there, bytes are bytes, booleans 0 or 1 -/
def me_wf (N : Nat → Nat) (M : me_M) : Prop := mN M = N ∧ (∀ k j f t, mR M k j f = some t → k < 20 → j < N k → t < N (me_tk k f)) ∧ (∀ j i, fits .byte (.int (mI M 14 j i)) = true) ∧ ∀ k j f, me_bz k f = true → mI M k j f = 1 ∨ mI M k j f = 0
theorem me_mem {N : Nat → Nat} {k j : Nat} : (k, j) ∈ me_ids N ↔ k < 20 ∧ j < N k := by
  unfold me_ids
  rw [List.mem_flatMap]
  constructor
  · rintro ⟨a, ha, h⟩
    obtain ⟨b, hb, e⟩ := List.mem_map.mp h
    cases e
    exact ⟨List.mem_range.mp ha, List.mem_range.mp hb⟩
  · intro h
    exact ⟨k, List.mem_range.mpr h.1, List.mem_map.mpr ⟨j, List.mem_range.mpr h.2, rfl⟩⟩
theorem me_Ec {ad : Nat → Nat → Nat} {ca : Nat → ClassId} {M M1 : me_M} {k j : Nat} (h1 : mI M1 k j = mI M k j) (h2 : mL M1 k j = mL M k j) (h3 : mR M1 k j = mR M k j) (h4 : mZ M1 k j = mZ M k j) : me_E ad ca M1 k j = me_E ad ca M k j := by
  have e : me_fv ad M1 k j = me_fv ad M k j := by
    funext f
    unfold me_fv
    rw [h1, h2, h3]
  unfold me_E me_fl me_ar
  rw [e, h1, h2, h3, h4]
theorem me_ix {A : Nat → Prop} {ad : Nat → Nat → Nat} {ca : Nat → ClassId} {M : me_M} {k j : Nat} (hk : k < 20) (hj : j < mN M k) : ∃ q0, (me_W ad ca M)[q0]? = some (ad k j, me_E ad ca M k j) ∧ (va_D A (me_W ad ca M) → ∀ M1 : me_M, mN M1 = mN M → (∀ a b, a ≠ k ∨ b ≠ j → me_E ad ca M1 a b = me_E ad ca M a b) → (me_W ad ca M).set q0 (ad k j, me_E ad ca M1 k j) = me_W ad ca M1) := by
  obtain ⟨q0, hq⟩ := List.getElem?_of_mem (me_mem.mpr ⟨hk, hj⟩)
  have h0 : (me_W ad ca M)[q0]? = some (ad k j, me_E ad ca M k j) := by
    unfold me_W
    rw [List.getElem?_map, hq]
    rfl
  refine ⟨q0, h0, ?_⟩
  intro hD M1 hN hE
  apply List.ext_getElem?
  intro i
  rw [List.getElem?_set]
  by_cases h : q0 = i
  · subst h
    have hlt := (List.getElem?_eq_some_iff.mp h0).1
    rw [if_pos rfl, if_pos hlt]
    unfold me_W
    rw [List.getElem?_map, hN, hq]
    rfl
  · rw [if_neg h]
    cases hx : (me_ids (mN M))[i]? with
    | none =>
      unfold me_W
      rw [List.getElem?_map, List.getElem?_map, hN, hx]
      rfl
    | some q =>
      have h9 : (me_W ad ca M)[i]? = some (ad q.1 q.2, me_E ad ca M q.1 q.2) := by
        unfold me_W
        rw [List.getElem?_map, hx]
        rfl
      rw [h9]
      unfold me_W
      rw [List.getElem?_map, hN, hx]
      show _ = some (ad q.1 q.2, me_E ad ca M1 q.1 q.2)
      rw [hE q.1 q.2]
      rcases Nat.decEq q.1 k with z | z
      · exact Or.inl z
      · right
        intro z2
        rw [z, z2] at h9
        exact h (hD.1 _ _ _ _ h0 h9 rfl)
theorem me_Dw {A : Nat → Prop} {ad : Nat → Nat → Nat} {ca : Nat → ClassId} {M M1 : me_M} (h : va_D A (me_W ad ca M)) (hN : mN M1 = mN M) : va_D A (me_W ad ca M1) := by
  have key : ∀ i : Nat, ((me_W ad ca M1)[i]?).map (fun q => q.1) = ((me_W ad ca M)[i]?).map (fun q => q.1) := by
    intro i
    unfold me_W
    rw [List.getElem?_map, List.getElem?_map, hN]
    cases (me_ids (mN M))[i]? <;> rfl
  refine ⟨?_, ?_⟩
  · intro i j p q hp hq e
    have k1 := key i
    have k2 := key j
    rw [hp] at k1
    rw [hq] at k2
    cases h1 : (me_W ad ca M)[i]? with
    | none => rw [h1] at k1; cases k1
    | some p1 =>
      cases h2 : (me_W ad ca M)[j]? with
      | none => rw [h2] at k2; cases k2
      | some q1 =>
        rw [h1] at k1
        rw [h2] at k2
        have e1 : p.1 = p1.1 := Option.some.inj k1
        have e2 : q.1 = q1.1 := Option.some.inj k2
        exact h.1 i j p1 q1 h1 h2 (by rw [← e1, ← e2, e])
  · intro i q hq
    have k1 := key i
    rw [hq] at k1
    cases h1 : (me_W ad ca M)[i]? with
    | none => rw [h1] at k1; cases k1
    | some p1 =>
      rw [h1] at k1
      have e1 : q.1 = p1.1 := Option.some.inj k1
      rw [e1]
      exact h.2 i p1 h1
theorem me_wIE {ad : Nat → Nat → Nat} {ca : Nat → ClassId} {M : me_M} {k j f : Nat} {v : Int32} {a b : Nat} (h : a ≠ k ∨ b ≠ j) : me_E ad ca (wI M k j f v) a b = me_E ad ca M a b := by
  refine me_Ec ?_ rfl rfl rfl
  funext x
  show (if a = k ∧ b = j ∧ x = f then v else mI M a b x) = mI M a b x
  rw [if_neg (by rintro ⟨r1, r2, -⟩; rcases h with q | q <;> contradiction)]
theorem me_wLE {ad : Nat → Nat → Nat} {ca : Nat → ClassId} {M : me_M} {k j f : Nat} {v : Int64} {a b : Nat} (h : a ≠ k ∨ b ≠ j) : me_E ad ca (wL M k j f v) a b = me_E ad ca M a b := by
  refine me_Ec rfl ?_ rfl rfl
  funext x
  show (if a = k ∧ b = j ∧ x = f then v else mL M a b x) = mL M a b x
  rw [if_neg (by rintro ⟨r1, r2, -⟩; rcases h with q | q <;> contradiction)]
theorem me_wRE {ad : Nat → Nat → Nat} {ca : Nat → ClassId} {M : me_M} {k j f : Nat} {v : Option Nat} {a b : Nat} (h : a ≠ k ∨ b ≠ j) : me_E ad ca (wR M k j f v) a b = me_E ad ca M a b := by
  refine me_Ec rfl rfl ?_ rfl
  funext x
  show (if a = k ∧ b = j ∧ x = f then v else mR M a b x) = mR M a b x
  rw [if_neg (by rintro ⟨r1, r2, -⟩; rcases h with q | q <;> contradiction)]
theorem me_wAE {ad : Nat → Nat → Nat} {ca : Nat → ClassId} {M : me_M} {k j : Nat} {g : Nat → Int32} {a b : Nat} (h : a ≠ k ∨ b ≠ j) : me_E ad ca (wA M k j g) a b = me_E ad ca M a b := by
  refine me_Ec ?_ rfl rfl rfl
  show (if a = k ∧ b = j then g else mI M a b) = mI M a b
  rw [if_neg (by rintro ⟨r1, r2⟩; rcases h with q | q <;> contradiction)]
theorem me_wBE {ad : Nat → Nat → Nat} {ca : Nat → ClassId} {M : me_M} {k j : Nat} {g : Nat → Int64} {a b : Nat} (h : a ≠ k ∨ b ≠ j) : me_E ad ca (wB M k j g) a b = me_E ad ca M a b := by
  refine me_Ec rfl ?_ rfl rfl
  show (if a = k ∧ b = j then g else mL M a b) = mL M a b
  rw [if_neg (by rintro ⟨r1, r2⟩; rcases h with q | q <;> contradiction)]
/-- the fields behind a change of one -/
theorem me_fls {ad : Nat → Nat → Nat} {M M1 : me_M} {k j f : Nat} {v : Value} (hf : f < me_nf k) (h1 : ∀ i, i ≠ f → me_fv ad M1 k j i = me_fv ad M k j i) (h2 : me_fv ad M1 k j f = v) : (me_fl ad M k j).set f v = me_fl ad M1 k j := by
  apply List.ext_getElem?
  intro i
  unfold me_fl
  rw [List.getElem?_set, List.length_map, List.length_range, List.getElem?_map, List.getElem?_map]
  by_cases h : f = i
  · subst h
    rw [if_pos rfl, if_pos hf, List.getElem?_range hf]
    show some v = some (me_fv ad M1 k j f)
    rw [h2]
  · rw [if_neg h]
    cases hx : (List.range (me_nf k))[i]? with
    | none => rfl
    | some q =>
      have hq : q = i := by
        obtain ⟨h3, h4⟩ := List.getElem?_eq_some_iff.mp hx
        rw [← h4]
        simp
      subst hq
      show some (me_fv ad M k j q) = some (me_fv ad M1 k j q)
      rw [h1 q (fun z => h z.symm)]
theorem me_bIs {M : me_M} {k j f i : Nat} {v : Int32} (h : i ≠ f) : mI (wI M k j f v) k j i = mI M k j i := by
  show (if k = k ∧ j = j ∧ i = f then v else mI M k j i) = mI M k j i
  rw [if_neg (fun z => h z.2.2)]
theorem me_bIe {M : me_M} {k j f : Nat} {v : Int32} : mI (wI M k j f v) k j f = v := by
  show (if k = k ∧ j = j ∧ f = f then v else mI M k j f) = v
  rw [if_pos ⟨rfl, rfl, rfl⟩]
theorem me_bLs {M : me_M} {k j f i : Nat} {v : Int64} (h : i ≠ f) : mL (wL M k j f v) k j i = mL M k j i := by
  show (if k = k ∧ j = j ∧ i = f then v else mL M k j i) = mL M k j i
  rw [if_neg (fun z => h z.2.2)]
theorem me_bLe {M : me_M} {k j f : Nat} {v : Int64} : mL (wL M k j f v) k j f = v := by
  show (if k = k ∧ j = j ∧ f = f then v else mL M k j f) = v
  rw [if_pos ⟨rfl, rfl, rfl⟩]
theorem me_bRs {M : me_M} {k j f i : Nat} {v : Option Nat} (h : i ≠ f) : mR (wR M k j f v) k j i = mR M k j i := by
  show (if k = k ∧ j = j ∧ i = f then v else mR M k j i) = mR M k j i
  rw [if_neg (fun z => h z.2.2)]
theorem me_bRe {M : me_M} {k j f : Nat} {v : Option Nat} : mR (wR M k j f v) k j f = v := by
  show (if k = k ∧ j = j ∧ f = f then v else mR M k j f) = v
  rw [if_pos ⟨rfl, rfl, rfl⟩]
theorem me_fIw {ad : Nat → Nat → Nat} {M : me_M} {k j f : Nat} {v : Int32} (hf : f < me_nf k) (ht : me_ft k f = 0) : (me_fl ad M k j).set f (.int v) = me_fl ad (wI M k j f v) k j := by
  refine me_fls hf (fun i hi => ?_) ?_
  · unfold me_fv
    rw [me_bIs hi]
    rfl
  · unfold me_fv
    rw [ht, me_bIe]
theorem me_fLw {ad : Nat → Nat → Nat} {M : me_M} {k j f : Nat} {v : Int64} (hf : f < me_nf k) (ht : me_ft k f = 1) : (me_fl ad M k j).set f (.long v) = me_fl ad (wL M k j f v) k j := by
  refine me_fls hf (fun i hi => ?_) ?_
  · unfold me_fv
    rw [me_bLs hi]
    rfl
  · unfold me_fv
    rw [ht, me_bLe]
theorem me_fRw {ad : Nat → Nat → Nat} {M : me_M} {k j f t : Nat} {v : Option Nat} (hf : f < me_nf k) (ht : me_ft k f = t + 2) : (me_fl ad M k j).set f (va_rf (v.map (ad t))) = me_fl ad (wR M k j f v) k j := by
  refine me_fls hf (fun i hi => ?_) ?_
  · unfold me_fv
    rw [me_bRs hi]
    rfl
  · unfold me_fv
    rw [ht, me_bRe]
theorem me_wfI {N : Nat → Nat} {M : me_M} {k j f : Nat} {v : Int32} (h : me_wf N M) (h1 : k = 14 → fits .byte (.int v) = true) (h2 : me_bz k f = true → v = 1 ∨ v = 0) : me_wf N (wI M k j f v) := by
  refine ⟨h.1, h.2.1, ?_, ?_⟩
  · intro a i
    show fits .byte (.int (if 14 = k ∧ a = j ∧ i = f then v else mI M 14 a i)) = true
    by_cases q : 14 = k ∧ a = j ∧ i = f
    · rw [if_pos q]
      exact h1 q.1.symm
    · rw [if_neg q]
      exact h.2.2.1 a i
  · intro a b x hb
    show (if a = k ∧ b = j ∧ x = f then v else mI M a b x) = 1 ∨ (if a = k ∧ b = j ∧ x = f then v else mI M a b x) = 0
    by_cases q : a = k ∧ b = j ∧ x = f
    · rw [if_pos q]
      obtain ⟨q1, -, q3⟩ := q
      subst q1 q3
      exact h2 hb
    · rw [if_neg q]
      exact h.2.2.2 a b x hb
theorem me_wfL {N : Nat → Nat} {M : me_M} {k j f : Nat} {v : Int64} (h : me_wf N M) : me_wf N (wL M k j f v) := ⟨h.1, h.2.1, h.2.2.1, h.2.2.2⟩
theorem me_wfR {N : Nat → Nat} {M : me_M} {k j f : Nat} {v : Option Nat} (h : me_wf N M) (hv : ∀ t, v = some t → t < N (me_tk k f)) : me_wf N (wR M k j f v) := by
  refine ⟨h.1, ?_, h.2.2.1, h.2.2.2⟩
  intro a b x t ht ha hb
  have ht2 : (if a = k ∧ b = j ∧ x = f then v else mR M a b x) = some t := ht
  by_cases q : a = k ∧ b = j ∧ x = f
  · rw [if_pos q] at ht2
    obtain ⟨q1, -, q3⟩ := q
    rw [q1, q3]
    exact hv t ht2
  · rw [if_neg q] at ht2
    exact h.2.1 a b x t ht2 ha hb
theorem me_wfA {N : Nat → Nat} {M : me_M} {k j : Nat} {g : Nat → Int32} (h : me_wf N M) (h1 : k = 14 → ∀ i, fits .byte (.int (g i)) = true) (h2 : ∀ f, me_bz k f = true → g f = 1 ∨ g f = 0) : me_wf N (wA M k j g) := by
  refine ⟨h.1, h.2.1, ?_, ?_⟩
  · intro a i
    show fits .byte (.int ((if 14 = k ∧ a = j then g else mI M 14 a) i)) = true
    by_cases q : 14 = k ∧ a = j
    · rw [if_pos q]
      exact h1 q.1.symm i
    · rw [if_neg q]
      exact h.2.2.1 a i
  · intro a b x hb
    show (if a = k ∧ b = j then g else mI M a b) x = 1 ∨ (if a = k ∧ b = j then g else mI M a b) x = 0
    by_cases q : a = k ∧ b = j
    · rw [if_pos q]
      obtain ⟨q1, -⟩ := q
      subst q1
      exact h2 x hb
    · rw [if_neg q]
      exact h.2.2.2 a b x hb
theorem me_wfB {N : Nat → Nat} {M : me_M} {k j : Nat} {g : Nat → Int64} (h : me_wf N M) : me_wf N (wB M k j g) := ⟨h.1, h.2.1, h.2.2.1, h.2.2.2⟩
theorem me_nz {v : Int32} (h : v = 1 ∨ v = 0) : narrow FieldType.boolean (Value.int v) = Value.int v := by
  rcases h with rfl | rfl <;> rfl
theorem me_fz {v : Int32} (h : v = 1 ∨ v = 0) : fits FieldType.boolean (Value.int v) = true := by
  rcases h with rfl | rfl <;> rfl
theorem me_zb (x : Int32) : vp_nar .boolean x = 1 ∨ vp_nar .boolean x = 0 := by
  have h := fits_narrow_boolean x
  have h : (vp_nar .boolean x == 0 || vp_nar .boolean x == 1) = true := h
  simp only [Bool.or_eq_true, beq_iff_eq] at h
  rcases h with h | h
  · exact Or.inr h
  · exact Or.inl h
theorem me_za {x y : Int32} (hx : x = 1 ∨ x = 0) (hy : y = 1 ∨ y = 0) : x &&& y = 1 ∨ x &&& y = 0 := by
  rcases hx with rfl | rfl <;> rcases hy with rfl | rfl <;> decide
theorem me_zo {x y : Int32} (hx : x = 1 ∨ x = 0) (hy : y = 1 ∨ y = 0) : x ||| y = 1 ∨ x ||| y = 0 := by
  rcases hx with rfl | rfl <;> rcases hy with rfl | rfl <;> decide
/-! What the functions are made of, and how a proof takes them apart. -/
def st {α β : Type} (x : α) (f : α → β) : β := f x
theorem st_ob {α β : Type} {x : α} {f : α → β} {y : β} (h : st x f = y) : ∃ z, z = x ∧ f z = y := ⟨x, rfl, h⟩
def gd {β : Type} (c : Prop) [Decidable c] (x : Option β) : Option β := if c then x else none
theorem gd_ob {β : Type} {c : Prop} [Decidable c] {x : Option β} {y : β} (h : gd c x = some y) : c ∧ x = some y := by
  unfold gd at h
  by_cases hc : c
  · rw [if_pos hc] at h
    exact ⟨hc, h⟩
  · rw [if_neg hc] at h
    cases h
def bd {α β : Type} (o : Option α) (f : α → Option β) : Option β := match o with
  | none => none
  | some a => f a
theorem bd_ob {α β : Type} {o : Option α} {f : α → Option β} {y : β} (h : bd o f = some y) : ∃ z, o = some z ∧ f z = some y := by
  cases o with
  | none => cases h
  | some a => exact ⟨a, rfl, h⟩
def b2 {α γ β : Type} (o : Option (α × γ)) (f : α → γ → Option β) : Option β := match o with
  | none => none
  | some a => f a.1 a.2
theorem b2_ob {α γ β : Type} {o : Option (α × γ)} {f : α → γ → Option β} {y : β} (h : b2 o f = some y) : ∃ z r, o = some (z, r) ∧ f z r = some y := by
  cases o with
  | none => cases h
  | some a => exact ⟨a.1, a.2, rfl, h⟩
def oc {α β : Type} (o : Option α) (x : β) (f : α → β) : β := match o with
  | none => x
  | some a => f a
theorem if_t {α : Type} {c : Prop} [Decidable c] {a b y : α} (hc : c) (h : (if c then a else b) = y) : a = y := by
  rw [if_pos hc] at h
  exact h
theorem if_f {α : Type} {c : Prop} [Decidable c] {a b y : α} (hc : ¬ c) (h : (if c then a else b) = y) : b = y := by
  rw [if_neg hc] at h
  exact h
/-- more turns than any loop takes -/
def fuel : Nat := 4294967296
/-- no reference and no length has changed -/
def me_kp (M0 M : me_M) : Prop := mR M = mR M0 ∧ mZ M = mZ M0
/-- no length has changed -/
def me_kz (M0 M : me_M) : Prop := mZ M = mZ M0
theorem me_kp.rf {M : me_M} : me_kp M M := ⟨rfl, rfl⟩
theorem me_kz.rf {M : me_M} : me_kz M M := rfl
theorem me_kp.tr {M0 M M1 : me_M} (h : me_kp M0 M) (h1 : me_kp M M1) : me_kp M0 M1 := ⟨h1.1.trans h.1, h1.2.trans h.2⟩
theorem me_kz.tr {M0 M M1 : me_M} (h : me_kz M0 M) (h1 : me_kz M M1) : me_kz M0 M1 := Eq.trans (α := Nat → Nat → Nat) h1 h
theorem me_kp.z {M0 M : me_M} (h : me_kp M0 M) : me_kz M0 M := h.2
theorem kp_I {M0 M M1 : me_M} {k j f : Nat} {v : Int32} (e : M1 = wI M k j f v) (h : me_kp M0 M) : me_kp M0 M1 := by subst e; exact h
theorem kp_L {M0 M M1 : me_M} {k j f : Nat} {v : Int64} (e : M1 = wL M k j f v) (h : me_kp M0 M) : me_kp M0 M1 := by subst e; exact h
theorem kp_A {M0 M M1 : me_M} {k j : Nat} {g : Nat → Int32} (e : M1 = wA M k j g) (h : me_kp M0 M) : me_kp M0 M1 := by subst e; exact h
theorem kp_B {M0 M M1 : me_M} {k j : Nat} {g : Nat → Int64} (e : M1 = wB M k j g) (h : me_kp M0 M) : me_kp M0 M1 := by subst e; exact h
theorem kz_I {M0 M M1 : me_M} {k j f : Nat} {v : Int32} (e : M1 = wI M k j f v) (h : me_kz M0 M) : me_kz M0 M1 := by subst e; exact h
theorem kz_L {M0 M M1 : me_M} {k j f : Nat} {v : Int64} (e : M1 = wL M k j f v) (h : me_kz M0 M) : me_kz M0 M1 := by subst e; exact h
theorem kz_R {M0 M M1 : me_M} {k j f : Nat} {v : Option Nat} (e : M1 = wR M k j f v) (h : me_kz M0 M) : me_kz M0 M1 := by subst e; exact h
theorem kz_A {M0 M M1 : me_M} {k j : Nat} {g : Nat → Int32} (e : M1 = wA M k j g) (h : me_kz M0 M) : me_kz M0 M1 := by subst e; exact h
theorem kz_B {M0 M M1 : me_M} {k j : Nat} {g : Nat → Int64} (e : M1 = wB M k j g) (h : me_kz M0 M) : me_kz M0 M1 := by subst e; exact h
theorem kp_r {M0 M B : me_M} {k j f t : Nat} (hb : me_kp M0 B) (h : me_kp M0 M) (e : mR B k j f = some t) : mR M k j f = some t := by rw [h.1, ← hb.1]; exact e
theorem kp_z {M0 M B : me_M} {k j : Nat} {i : Int32} (hb : me_kz M0 B) (h : me_kz M0 M) (g : ¬ (i < 0 ∨ mZ B k j ≤ i.toNatClampNeg)) : ¬ (i < 0 ∨ mZ M k j ≤ i.toNatClampNeg) := by
  have e : mZ M = mZ B := Eq.trans h (Eq.symm hb)
  rw [e]
  exact g
theorem kp_c {M0 M B : me_M} {k j n : Nat} (hb : me_kz M0 B) (h : me_kz M0 M) (g : n < mZ B k j) : n < mZ M k j := by
  have e : mZ M = mZ B := Eq.trans h (Eq.symm hb)
  rw [e]
  exact g
