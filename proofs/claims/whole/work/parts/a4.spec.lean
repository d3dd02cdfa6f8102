/-! PURE: what an instruction does to a state (the document's section D), as a function. -/
abbrev sT : Type := Nat → sC
/-- a fault, or the state behind and how many identities there are -/
abbrev sR : Type := Except Int32 (sT × Int32)
def up (σ : sT) (i : Nat) (x : sC) : sT := fun j => if j = i then x else σ j
abbrev cK (a : sC) : Int32 := a.1
abbrev cPl (a : sC) : Int32 := a.2.1
abbrev cM (a : sC) : Int32 := a.2.2.1
abbrev cI (a : sC) : Int32 := a.2.2.2.1
abbrev cR (a : sC) : Int32 := a.2.2.2.2.1
abbrev cW (a : sC) : Int32 := a.2.2.2.2.2.1
abbrev cX (a : sC) : fn_N := a.2.2.2.2.2.2
abbrev c_ptr (a : sC) : Prop := cK a = 2 ∨ cK a = 3 ∨ cK a = 4 ∨ cK a = 7
abbrev c_ofp (a : sC) : Prop := cK a = 4 ∨ cK a = 5
def d_ti (c : Int64) : Nat := (d_to c).toNatClampNeg
def d_fi (c : Int64) : Nat := (d_from c).toNatClampNeg
/-- FIELD as a number -/
def d_fn (c : Int64) : Int64 := if d_opn c = 14 ∨ d_opn c = 13 then (d_field c / 8).toInt64 else (d_field c).toInt64
def s_by (c : Int64) (σ : sT) : sC := if d_rf c = 0 then s_num (fn_ex (d_fn c)) else σ (d_fi c)
/-- a pointer and a number: the pointer moved -/
def s_sh (sub : Int32) (p : sC) (x : fn_N) (ids : Int32) : Option (sC × Int32) :=
  if x.2.1 = 0 then (if x.1 < -65535 then none else if 65535 < x.1 then none else if cPl p + (if sub = 0 then x.1 else -x.1).toInt32 < -65535 then none else if cPl p + (if sub = 0 then x.1 else -x.1).toInt32 ≤ 65535 then some ((cK p, cPl p + (if sub = 0 then x.1 else -x.1).toInt32, cM p, cI p, cR p, cW p, cX p), ids) else none)
  else if sub = 0 then (if cK p = 2 ∨ cK p = 3 then none else if fn_lt 65535 x.2.2.2.1 then none else if fn_lt 65535 (fn_fin (fn_rawT (cX p) x 0)).2.2.2.1 then none else if cK p = 4 then some ((cK p, cPl p, cM p, ids + 1, 0, cW p, fn_fin (fn_rawT (cX p) x 0)), ids + 1) else some ((cK p, cPl p, cM p, cI p, cR p, cW p, fn_fin (fn_rawT (cX p) x 0)), ids))
  else none
def s_mv (σ : sT) (i : Nat) (o : Option (sC × Int32)) : sR := match o with
  | none => .error 11
  | some q => .ok (up σ i q.1, q.2)
def s_sub (c : Int64) : Int32 := if d_opn c = 1 then 1 else 0
def s_arith (c : Int64) (σ : sT) (ids : Int32) : sR :=
  if d_opn c = 12 ∧ d_nar c = 0 then .ok (up σ (d_ti c) (s_by c σ), ids)
  else if cK (s_by c σ) = 1 ∧ (cK (σ (d_ti c)) = 1 ∨ d_opn c = 12) then .ok (up σ (d_ti c) (s_num (fn_op (d_opn c) (d_nar c) (cX (σ (d_ti c))) (cX (s_by c σ)))), ids)
  else if ¬ d_nar c = 0 ∨ 1 < d_opn c then .error 11
  else if c_ptr (σ (d_ti c)) ∧ cK (s_by c σ) = 1 then s_mv σ (d_ti c) (s_sh (s_sub c) (σ (d_ti c)) (cX (s_by c σ)) ids)
  else if d_opn c = 0 ∧ cK (σ (d_ti c)) = 1 ∧ c_ptr (s_by c σ) then s_mv σ (d_ti c) (s_sh (s_sub c) (s_by c σ) (cX (σ (d_ti c))) ids)
  else if c_ofp (σ (d_ti c)) ∧ c_ofp (s_by c σ) ∧ d_opn c = 1 then .ok (up σ (d_ti c) (s_num fn_any), ids)
  else .error 11
/-! the class -/
/-- what a step may change -/
def tP (s k j : Nat) : Prop := sP s k j ∨ (k = 7 ∧ j = 0) ∨ (k = 10 ∧ j = 0) ∨ (k = 11 ∧ j < 11)
/-- the Steps at work on state s, with the Code at c -/
def stp (M : me_M) (s : Nat) (c : Int64) : Prop := lk M 0 c ∧ ss M ∧ ps_R M ∧ s < mN M 9 ∧ mR M 7 0 0 = some 0 ∧ mR M 7 0 1 = some 0 ∧ mR M 7 0 2 = some 0 ∧ mR M 7 0 3 = some 0 ∧ mR M 7 0 4 = some 6 ∧ mR M 7 0 5 = some s ∧ mR M 7 0 6 = some s ∧ d_ti c < 11 ∧ d_fi c < 11
def tk (s : Nat) (M M1 : me_M) : Prop := fr (tP s) M M1 ∧ (∃ u, us M1 s u) ∧ mI M1 9 s 2 = mI M 9 s 2 ∧ mI M1 9 s 3 = mI M 9 s 3 ∧ mI M1 9 s 4 = mI M 9 s 4
def rs (s : Nat) (M1 : me_M) (r : Int32) (o : sR) : Prop := match o with
  | .error f => r = f
  | .ok q => r = 0 ∧ (∀ i, i < 75 → sv M1 s i = q.1 i) ∧ mI M1 7 0 7 = q.2
section CA
variable {M M1 M2 : me_M} {s : Nat} {c : Int64}
theorem stp_fr (h : stp M s c) (g : fr (tP s) M M1) : stp M1 s c := by
  have e2 : mI M1 2 0 = mI M 2 0 := g.2.2.2.1 2 0 (by
    rintro (z | z | z | z)
    · rcases z with z | z
      · exact absurd z.1 (by decide)
      · rcases cS_k z with r | r <;> exact absurd r (by decide)
    · exact absurd z.1 (by decide)
    · exact absurd z.1 (by decide)
    · exact absurd z.1 (by decide))
  obtain ⟨h1, h2, h3, h4, h5⟩ := h
  refine ⟨?_, ss_of g.1 g.2.1 g.2.2.1 h2, ps_R_of g.1 h3, by rw [g.2.1]; exact h4, ?_⟩
  · unfold lk at h1 ⊢
    rw [e2]
    exact h1
  · rw [g.1]
    exact h5
theorem d_ti_n (h : d_ti c < 11) : ∃ k, k < 11 ∧ d_to c = nI k ∧ d_ti c = k := by
  obtain ⟨k, hk, e⟩ := and_15 (jlushr c 8).toInt32
  have e2 : d_to c = nI k := e
  have e3 : d_ti c = k := by unfold d_ti; rw [e2, nI_tn (by omega)]
  exact ⟨k, by omega, e2, e3⟩
theorem d_fi_n (h : d_fi c < 11) : ∃ k, k < 11 ∧ d_from c = nI k ∧ d_fi c = k := by
  obtain ⟨k, hk, e⟩ := and_15 (jlushr c 12).toInt32
  have e2 : d_from c = nI k := e
  have e3 : d_fi c = k := by unfold d_fi; rw [e2, nI_tn (by omega)]
  exact ⟨k, by omega, e2, e3⟩
theorem st_cell (h : stp M s c) {i : Nat} (hi : i < 75) : mR M 10 (75 * s + i + 1) 6 = some (nu (75 * s + i + 1)) := h.2.1.2.2 _ (by have := h.2.2.2.1; omega)
theorem st_fcell (h : stp M s c) : mR M 10 0 6 = some (nu 0) := h.2.1.2.2 0 (by omega)
theorem tP_cS {k j : Nat} (h : cS s k j) : tP s k j := Or.inl (Or.inr h)
theorem tP_c {i : Nat} (hi : i < 75) {k j : Nat} (h : cP (75 * s + i + 1) k j) : tP s k j := tP_cS ⟨i, hi, h⟩
theorem tP_0 {k j : Nat} (h : cP 0 k j) : tP s k j := by
  rcases h with z | z
  · exact Or.inr (Or.inr (Or.inl z))
  · refine Or.inr (Or.inr (Or.inr ⟨z.1, ?_⟩))
    rw [z.2]
    decide
theorem tP_n {j : Nat} (h : j < 11) : tP s 11 j := Or.inr (Or.inr (Or.inr ⟨rfl, h⟩))
/-- a register or slot that is used is written -/
theorem us_up {u i : Nat} {x : sC} (hu : us M s u) (hi : i < u) (g : fr (cP (75 * s + i + 1)) M M1) (hx : cv M1 (75 * s + i + 1) = x) : us M1 s u ∧ ∀ k, k < 75 → sv M1 s k = up (sv M s) i x k := by
  have v : ∀ k, k < 75 → sv M1 s k = up (sv M s) i x k := by
    intro k hk
    unfold up
    by_cases e : k = i
    · rw [if_pos e, e]; exact hx
    · rw [if_neg e]; exact cv_cP g (by omega)
  refine ⟨⟨hu.1, hu.2.1, ?_, ?_⟩, v⟩
  · rw [g.2.2.2.1 9 s (by rintro (z | z) <;> exact absurd z.1 (by decide))]
    exact hu.2.2.1
  · intro k h1 h2
    rw [v k h2]
    unfold up
    rw [if_neg (by omega)]
    exact hu.2.2.2 k h1 h2
theorem us_fr {u : Nat} {P : Nat → Nat → Prop} (hu : us M s u) (g : fr P M M1) (h9 : ¬ P 9 s) (hc : ∀ k j, P k j → ¬ cS s k j) : us M1 s u ∧ ∀ k, k < 75 → sv M1 s k = sv M s k := by
  have v : ∀ k, k < 75 → sv M1 s k = sv M s k := sv_fr g (fun i hi => ⟨fun z => hc _ _ z (cS_c.mpr (by omega)), fun z => hc _ _ z (cS_n.mpr (by omega))⟩)
  refine ⟨⟨hu.1, hu.2.1, ?_, ?_⟩, v⟩
  · rw [g.2.2.2.1 9 s h9]; exact hu.2.2.1
  · intro k h1 h2
    rw [v k h2]
    exact hu.2.2.2 k h1 h2
theorem n9_tk {P : Nat → Nat → Prop} (g : fr P M M1) (h9 : ¬ P 9 s) : mI M1 9 s 2 = mI M 9 s 2 ∧ mI M1 9 s 3 = mI M 9 s 3 ∧ mI M1 9 s 4 = mI M 9 s 4 := by
  rw [g.2.2.2.1 9 s h9]
  exact ⟨rfl, rfl, rfl⟩
theorem cP9 {x : Nat} : ¬ cP x 9 s := by rintro (z | z) <;> exact absurd z.1 (by decide)
theorem cP7 {x : Nat} : ¬ cP x 7 0 := by rintro (z | z) <;> exact absurd z.1 (by decide)
/-- the operand: FROM, or FIELD in a cell of its own -/
theorem st_by (h : stp M s c) {u : Nat} (hu : us M s u) : ∃ M1 x, f_Steps_operand M 0 = some (M1, x) ∧ cv M1 x = s_by c (sv M s) ∧ mR M1 10 x 6 = some (nu x) ∧ fr (cP 0) M M1 ∧ ((x = 0 ∧ d_rf c = 0) ∨ (x = 75 * s + d_fi c + 1 ∧ ¬ d_rf c = 0)) := by
  unfold f_Steps_operand s_by
  obtain ⟨k, hk, e1, e2⟩ := d_fi_n h.2.2.2.2.2.2.2.2.2.2.2.2
  obtain ⟨l1, l2, l3, l4, l5, l6, l7, l8, l9, l10, l11⟩ := h.1
  rw [h.2.2.2.2.1, bd_some, l11]
  by_cases g : d_rf c = 0
  · rw [if_pos g, if_pos g, h.2.2.2.2.2.2.2.1, bd_some]
    have ef : f_Code_fieldNumber M 0 = some (M, d_fn c) := by
      unfold f_Code_fieldNumber d_fn
      rw [l8, l5]
      by_cases g1 : d_opn c = 14
      · rw [if_pos g1, if_pos (Or.inl g1)]
      · rw [if_neg g1]
        by_cases g2 : d_opn c = 13
        · rw [if_pos g2, if_pos (Or.inr g2)]
        · rw [if_neg g2, if_neg (fun z => z.elim g1 g2)]
    rw [ef, b2_some]
    obtain ⟨M1, a1, a2, a3⟩ := ce_exact (M := M) (c := 0) (v := d_fn c) (st_fcell h)
    rw [a1, bd_some]
    refine ⟨M1, 0, rfl, a2, ?_, a3, Or.inl ⟨rfl, g⟩⟩
    rw [a3.1]
    exact st_fcell h
  · rw [if_neg g, if_neg g, h.2.2.2.2.2.2.2.2.2.1, bd_some, l3, e1, (h.2.1.1 s h.2.2.2.1).2, gd_pos (ix_ok (by omega) (by decide)), nI_tn (by omega), h.2.1.2.1 s k h.2.2.2.1 (by omega), bd_some]
    refine ⟨M, 75 * s + k + 1, rfl, ?_, st_cell h (by omega), fr_refl, Or.inr ⟨by rw [e2], g⟩⟩
    rw [e2]
    rfl
end CA
