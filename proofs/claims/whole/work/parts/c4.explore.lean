/-! PURE: exploring (the document's section E), as a function. -/
noncomputable def ic {α : Type} (P : Prop) (a b : α) : α := @ite α P (Classical.propDecidable P) a b
theorem ic_t {α : Type} {P : Prop} {a b : α} (h : P) : ic P a b = a := if_pos h
theorem ic_f {α : Type} {P : Prop} {a b : α} (h : ¬ P) : ic P a b = b := if_neg h
theorem ic_c {α : Type} {P Q : Prop} {a b : α} (h : P ↔ Q) : ic P a b = ic Q a b := by rw [propext h]
/-- a kept state: itself, where, whether open, how many waited then -/
abbrev xK : Type := sT × Nat × Prop × Nat
abbrev xW : Type := sT × Nat
/-- facts of the slots: visits, went, fell, exactness, number -/
abbrev xF : Type := (Nat → Int32) × (Nat → Prop) × (Nat → Prop) × (Nat → Int32) × (Nat → Int64)
/-- now, at, identities, kept, waiting, visits, most waiting, paths, facts -/
abbrev xT : Type := sT × Nat × Int32 × Nat × (Nat → xK) × Nat × (Nat → xW) × Nat × Nat × Nat × xF
abbrev xNow (X : xT) : sT := X.1
abbrev xAt (X : xT) : Nat := X.2.1
abbrev xIds (X : xT) : Int32 := X.2.2.1
abbrev xKn (X : xT) : Nat := X.2.2.2.1
abbrev xKp (X : xT) : Nat → xK := X.2.2.2.2.1
abbrev xWn (X : xT) : Nat := X.2.2.2.2.2.1
abbrev xWt (X : xT) : Nat → xW := X.2.2.2.2.2.2.1
abbrev xVi (X : xT) : Nat := X.2.2.2.2.2.2.2.1
abbrev xMw (X : xT) : Nat := X.2.2.2.2.2.2.2.2.1
abbrev xPa (X : xT) : Nat := X.2.2.2.2.2.2.2.2.2.1
abbrev xFa (X : xT) : xF := X.2.2.2.2.2.2.2.2.2.2
def fup {α : Type} (g : Nat → α) (i : Nat) (v : α) : Nat → α := fun j => if j = i then v else g j
theorem fup_s {α : Type} {g : Nat → α} {i : Nat} {v : α} : fup g i v i = v := if_pos rfl
theorem fup_o {α : Type} {g : Nat → α} {i j : Nat} {v : α} (h : ¬ j = i) : fup g i v j = g j := if_neg h
/-- the place that a jump leads to -/
def d_tg (c : Int64) (s : Nat) : Nat := (nI s + 1 + d_off c).toNatClampNeg
/-- what is good of a program: n slots p, second slots sec, nm maps -/
def pF (p : Nat → Int64) (n : Nat) (sec : Nat → Prop) (nm : Nat) : Prop := n ≤ 2000 ∧ 0 < n ∧ ¬ sec 0 ∧ ∀ s, s < n → ¬ sec s → ¬ d_fam (p s) = 0 ∧ d_ti (p s) < 11 ∧ d_fi (p s) < 11 ∧ (d_fam (p s) = 1 → s + 2 < n ∧ ¬ sec (s + 2) ∧ (d_from (p s) = 0 ∨ d_from (p s) = 1) ∧ (¬ d_from (p s) = 0 → ∃ m, m < nm ∧ d_field (p s) = nI m)) ∧ ((d_fam (p s) = 7 ∨ d_fam (p s) = 8) → d_tg (p s) s < n ∧ ¬ sec (d_tg (p s) s) ∧ nI s + 1 + d_off (p s) = nI (d_tg (p s) s)) ∧ (¬ d_fam (p s) = 1 → ¬ d_fam (p s) = 7 → ¬ d_fam (p s) = 10 → s + 1 < n ∧ ¬ sec (s + 1)) ∧ (d_fam (p s) = 9 → d_field (p s) = 1 ∨ d_field (p s) = 2 ∨ d_field (p s) = 3 ∨ d_field (p s) = 4 ∨ d_field (p s) = 5 ∨ d_field (p s) = 6)
/-- the first from y on, of n -/
noncomputable def x_fst (P : Nat → Prop) : Nat → Nat → Option Nat
  | 0, _ => none
  | n + 1, y => ic (P y) (some y) (x_fst P n (y + 1))
def x_isK (X : xT) (i : Nat) : Prop := (xKp X i).2.1 = xAt X ∧ s_in (xKp X i).1 (xNow X)
noncomputable def x_hit (X : xT) : Option Nat := x_fst (x_isK X) (xKn X) 0
/-- a path ends: states are closed, the latest that waits is taken -/
def x_shut (X : xT) (i : Nat) : xK := ((xKp X i).1, (xKp X i).2.1, ((xKp X i).2.2.1 ∧ (xKp X i).2.2.2 < xWn X), (xKp X i).2.2.2)
def x_end (X : xT) : Int32 × xT :=
  if xWn X = 0 then (-1, (xNow X, xAt X, xIds X, xKn X, x_shut X, xWn X, xWt X, xVi X, xMw X, xPa X + 1, xFa X))
  else (0, ((xWt X (xWn X - 1)).1, (xWt X (xWn X - 1)).2, xIds X, xKn X, x_shut X, xWn X - 1, xWt X, xVi X, xMw X, xPa X + 1, xFa X))
def x_keep (X : xT) : xT :=
  if xKn X < 200 then (xNow X, xAt X, xIds X, xKn X + 1, fup (xKp X) (xKn X) (xNow X, xAt X, True, xWn X), xWn X, xWt X, xVi X, xMw X, xPa X, xFa X) else X
/-- facts changed at a slot -/
def f_vis (F : xF) (s : Nat) : xF := (fup F.1 s (F.1 s + 1), F.2)
def f_way (F : xF) (s : Nat) (g l : Prop) : xF := (F.1, fup F.2.1 s (F.2.1 s ∨ g), fup F.2.2.1 s (F.2.2.1 s ∨ l), F.2.2.2)
noncomputable def f_rck (F : xF) (s : Nat) (x : sC) : xF := (F.1, F.2.1, F.2.2.1, fup F.2.2.2.1 s (ic (cK x = 1 ∧ (cX x).2.1 = 0 ∧ (F.2.2.2.1 s = 0 ∨ F.2.2.2.1 s = 1 ∧ F.2.2.2.2 s = (cX x).1)) 1 2), fup F.2.2.2.2 s (cX x).1)
def x_vis (X : xT) : xT := (xNow X, xAt X, xIds X, xKn X, xKp X, xWn X, xWt X, xVi X + 1, xMw X, xPa X, f_vis (xFa X) (xAt X))
def x_fac (X : xT) (F : xF) : xT := (xNow X, xAt X, xIds X, xKn X, xKp X, xWn X, xWt X, xVi X, xMw X, xPa X, F)
def x_mv (X : xT) (σ : sT) (a : Nat) (d : Int32) : xT := (σ, a, d, X.2.2.2)
def x_push (X : xT) (τ : sT) (t : Nat) : xT := (xNow X, xAt X, xIds X, xKn X, xKp X, xWn X + 1, fup (xWt X) (xWn X) (τ, t), xVi X, (if xWn X + 1 ≤ xMw X then xMw X else xWn X + 1), xPa X, xFa X)
/-- the ways of a jump -/
def x_part (X : xT) (c : Int64) (g l : Option sT) : Int32 × xT := match g, l with
  | some a, some b => if xWn X = 200 then (21, X) else (0, x_mv (x_push X a (d_tg c (xAt X))) b (xAt X + 1) (xIds X))
  | some a, none => (0, x_mv X a (d_tg c (xAt X)) (xIds X))
  | none, some b => (0, x_mv X b (xAt X + 1) (xIds X))
  | none, none => x_end X
/-- on from an instruction that is no relation -/
noncomputable def x_go (X : xT) (c : Int64) (σ : sT) (d : Int32) : Int32 × xT :=
  if d_fam c = 10 then x_end (x_mv X σ (xAt X) d)
  else if d_fam c = 7 then (0, x_mv X σ (d_tg c (xAt X)) d)
  else if d_fam c = 6 then (0, x_mv (x_fac X (f_rck (xFa X) (xAt X) (σ (d_ti c)))) σ (xAt X + 1) d)
  else if d_fam c = 1 then (0, x_mv X σ (xAt X + 2) d)
  else (0, x_mv X σ (xAt X + 1) d)
/-- an instruction is done -/
noncomputable def x_do (p : Nat → Int64) (kb vb : Int32 → Int32) (X : xT) : Int32 × xT :=
  ic (s_unr (p (xAt X)) (xNow X)) (10, X)
    (if d_fam (p (xAt X)) = 8 then (match s_rel (p (xAt X)) (xNow X) with
      | .error f => (f, X)
      | .ok q => x_part (x_fac X (f_way (xFa X) (xAt X) (q.1.isSome = true) (q.2.isSome = true))) (p (xAt X)) q.1 q.2)
    else (match s_do (p (xAt X)) (p (xAt X + 1)) kb vb (xNow X) (xIds X) with
      | .error f => (f, X)
      | .ok q => x_go X (p (xAt X)) q.1 q.2))
noncomputable def x_step (p : Nat → Int64) (kb vb : Int32 → Int32) (B : Nat) (X : xT) : Int32 × xT :=
  if B ≤ xVi X then (20, X) else x_do p kb vb (x_vis X)
noncomputable def x_turn (p : Nat → Int64) (mk : Nat → Prop) (kb vb : Int32 → Int32) (B : Nat) (X : xT) : Int32 × xT :=
  ic (mk (xAt X)) (match x_hit X with
    | some i => ic (xKp X i).2.2.1 (19, X) (x_end X)
    | none => x_step p kb vb B (x_keep X)) (x_step p kb vb B X)
noncomputable def x_run (p : Nat → Int64) (mk : Nat → Prop) (kb vb : Int32 → Int32) (B : Nat) : Nat → xT → Int32 × xT
  | 0, X => (20, X)
  | n + 1, X => if (x_turn p mk kb vb B X).1 = 0 then x_run p mk kb vb B n (x_turn p mk kb vb B X).2 else x_turn p mk kb vb B X
/-- what stays good -/
def x_ok (n : Nat) (sec : Nat → Prop) (nm B : Nat) (X : xT) : Prop := xAt X < n ∧ ¬ sec (xAt X) ∧ s_gd nm (xNow X) ∧ xKn X ≤ 200 ∧ xWn X ≤ 200 ∧ (∀ i, i < xWn X → s_gd nm (xWt X i).1 ∧ (xWt X i).2 < n ∧ ¬ sec (xWt X i).2) ∧ xVi X ≤ B ∧ xMw X ≤ 200 ∧ ∀ i, i < xKn X → (xKp X i).2.1 < n ∧ (xKp X i).2.2.2 ≤ 200
/-- turns left -/
def x_left (B : Nat) (X : xT) : Nat := 2 * (B - xVi X) + xWn X + 1
section XO
variable {p : Nat → Int64} {n nm B : Nat} {sec mk : Nat → Prop} {kb vb : Int32 → Int32} {X : xT} {c : Int64}
/-- a turn's answer: it is a fault, the end, or goes on well, with less left -/
def x_good (n : Nat) (sec : Nat → Prop) (nm B L : Nat) (r : Int32 × xT) : Prop := r.1 = 0 → x_ok n sec nm B r.2 ∧ x_left B r.2 < L
theorem end_good (h : x_ok n sec nm B X) {L : Nat} (hL : x_left B X ≤ L) : x_good n sec nm B L (x_end X) := by
  obtain ⟨h1, h2, h3, h4, h5, h6, h7, h8, h9⟩ := h
  unfold x_end
  by_cases g : xWn X = 0
  · rw [if_pos g]
    exact fun z => absurd (show (-1 : Int32) = 0 from z) (by decide)
  · rw [if_neg g]
    refine fun _ => ⟨⟨(h6 _ (by omega)).2.1, (h6 _ (by omega)).2.2, (h6 _ (by omega)).1, h4, by show xWn X - 1 ≤ 200; omega, fun i hi => h6 i (by have : i < xWn X - 1 := hi; omega), h7, h8, h9⟩, ?_⟩
    unfold x_left at hL ⊢
    show 2 * (B - xVi X) + (xWn X - 1) + 1 < L
    omega
theorem er_good {f : Int32} {L : Nat} (h : ¬ f = 0) : x_good n sec nm B L (f, X) := fun z => absurd z h
/-- faults are above 0 -/
def eP {α : Type} (o : Except Int32 α) : Prop := match o with
  | .error f => 0 < f
  | .ok _ => True
theorem frd_0p {σ : sT} {q : sC} {k : Int32} : 0 ≤ s_frd vb σ q k := by
  unfold s_frd
  repeat' split
  all_goals decide
theorem far_0p {σ : sT} : 0 ≤ s_far c kb vb σ := by
  have key : ∀ l k, 0 ≤ s_fa1 c kb vb σ l k := by
    intro l k
    unfold s_fa1
    repeat' split
    all_goals first | decide | exact frd_0p
  unfold s_far
  repeat' split
  all_goals first | decide | exact key _ _
theorem mv_eP {σ : sT} {i : Nat} {o : Option (sC × Int32)} : eP (s_mv σ i o) := by
  cases o with
  | none => exact (by decide : (0 : Int32) < 11)
  | some q => exact trivial
theorem er_eP {α : Type} {f : Int32} (h : 0 < f) : eP (.error f : Except Int32 α) := h
theorem ok_eP {α : Type} {a : α} : eP (.ok a : Except Int32 α) := trivial
theorem arith_eP {σ : sT} {d : Int32} : eP (s_arith c σ d) := by
  unfold s_arith
  repeat' split
  all_goals first | exact ok_eP | exact mv_eP | exact er_eP (by decide)
theorem mem_eP {σ : sT} {d : Int32} : eP (s_mem c vb σ d) := by
  unfold s_mem s_load s_put s_addTo s_rd
  generalize s_store c (cPl (σ (d_ti c)) + d_off c) (s_by c σ) σ = A
  generalize s_store c (cPl (σ (d_ti c)) + d_off c) (s_num fn_any) σ = A2
  repeat' split
  all_goals first | exact ok_eP | exact er_eP (by decide)
theorem i_pos {x : Int32} (h : 0 ≤ x) (g : ¬ x = 0) : 0 < x := by
  rw [Int32.le_iff_toInt_le] at h
  rw [Int32.lt_iff_toInt_lt]
  rw [show (0 : Int32).toInt = 0 from rfl] at h ⊢
  rcases Int.lt_or_eq_of_le h with z | z
  · exact z
  · exact absurd (Int32.toInt_inj.mp z.symm) g
theorem help_eP {σ : sT} {d : Int32} : eP (s_help c kb vb σ d) := by
  unfold s_help
  by_cases g : s_far c kb vb σ = 0
  · rw [if_pos g]
    unfold s_give
    repeat' split
    all_goals exact ok_eP
  · rw [if_neg g]
    exact i_pos far_0p g
theorem do_eP {w : Int64} {σ : sT} {d : Int32} : eP (s_do c w kb vb σ d) := by
  unfold s_do
  by_cases f1 : d_fam c = 1
  · rw [if_pos f1]; exact ok_eP
  rw [if_neg f1]
  by_cases f6 : d_fam c = 6
  · rw [if_pos f6]; exact arith_eP
  rw [if_neg f6]
  by_cases f7 : d_fam c = 7
  · rw [if_pos f7]; exact ok_eP
  rw [if_neg f7]
  by_cases f9 : d_fam c = 9
  · rw [if_pos f9]; exact help_eP
  rw [if_neg f9]
  by_cases f10 : d_fam c = 10
  · rw [if_pos f10]
    split
    · exact ok_eP
    · exact er_eP (by decide)
  rw [if_neg f10]
  exact mem_eP
theorem rel_eP {σ : sT} : eP (s_rel c σ) := by
  unfold s_rel s_end
  repeat' split
  all_goals first | exact ok_eP | exact er_eP (by decide)
theorem pos_n0 {f : Int32} (h : 0 < f) : ¬ f = 0 := by
  intro z
  rw [z] at h
  exact absurd h (by decide)
theorem x_lt {L : Nat} (h : xVi X < B) (hL : x_left B X ≤ L) : 2 * (B - (xVi X + 1)) + (xWn X + 1) + 1 < L := by
  unfold x_left at hL
  omega
/-- the state behind an instruction, X visited already -/
theorem part_good {Y : xT} {L : Nat} (hY : x_ok n sec nm B Y) (hL : 2 * (B - xVi Y) + (xWn Y + 1) + 1 < L) {g l : Option sT} (hg : gdO nm g) (hl : gdO nm l) (ht : d_tg c (xAt Y) < n ∧ ¬ sec (d_tg c (xAt Y))) (hn : xAt Y + 1 < n ∧ ¬ sec (xAt Y + 1)) : x_good n sec nm B L (x_part Y c g l) := by
  have hE := end_good (L := L) hY (by unfold x_left; omega)
  obtain ⟨h1, h2, h3, h4, h5, h6, h7, h8, h9⟩ := hY
  have mvg : ∀ {σ : sT} {a : Nat}, s_gd nm σ → a < n ∧ ¬ sec a → x_good n sec nm B L (0, x_mv Y σ a (xIds Y)) := by
    intro σ a q1 q2
    refine fun _ => ⟨⟨q2.1, q2.2, q1, h4, h5, h6, h7, h8, h9⟩, ?_⟩
    show 2 * (B - xVi Y) + xWn Y + 1 < L
    omega
  cases g with
  | none =>
    cases l with
    | none => exact hE
    | some b => exact mvg (hl b rfl) hn
  | some a =>
    cases l with
    | none => exact mvg (hg a rfl) ht
    | some b =>
      show x_good n sec nm B L (if xWn Y = 200 then (21, Y) else (0, x_mv (x_push Y a (d_tg c (xAt Y))) b (xAt Y + 1) (xIds Y)))
      by_cases w : xWn Y = 200
      · rw [if_pos w]
        exact er_good (by decide)
      · rw [if_neg w]
        refine fun _ => ⟨⟨hn.1, hn.2, hl b rfl, h4, ?_, ?_, h7, ?_, h9⟩, ?_⟩
        · show xWn Y + 1 ≤ 200
          omega
        · intro i hi
          show s_gd nm (fup (xWt Y) (xWn Y) (a, d_tg c (xAt Y)) i).1 ∧ (fup (xWt Y) (xWn Y) (a, d_tg c (xAt Y)) i).2 < n ∧ ¬ sec (fup (xWt Y) (xWn Y) (a, d_tg c (xAt Y)) i).2
          have hi2 : i < xWn Y + 1 := hi
          by_cases e : i = xWn Y
          · rw [e, fup_s]
            exact ⟨hg a rfl, ht⟩
          · rw [fup_o e]
            exact h6 i (by omega)
        · show (if xWn Y + 1 ≤ xMw Y then xMw Y else xWn Y + 1) ≤ 200
          split <;> omega
        · show 2 * (B - xVi Y) + (xWn Y + 1) + 1 < L
          omega
theorem go_good {Y : xT} {L : Nat} (hY : x_ok n sec nm B Y) (hL : 2 * (B - xVi Y) + (xWn Y + 1) + 1 < L) {σ : sT} {d : Int32} (hg : s_gd nm σ) (ht : d_fam c = 7 → d_tg c (xAt Y) < n ∧ ¬ sec (d_tg c (xAt Y))) (h1 : d_fam c = 1 → xAt Y + 2 < n ∧ ¬ sec (xAt Y + 2)) (hn : ¬ d_fam c = 1 → ¬ d_fam c = 7 → ¬ d_fam c = 10 → xAt Y + 1 < n ∧ ¬ sec (xAt Y + 1)) : x_good n sec nm B L (x_go Y c σ d) := by
  obtain ⟨q1, q2, q3, q4, q5, q6, q7, q8, q9⟩ := hY
  have mvg : ∀ {F : xF} {a : Nat}, a < n ∧ ¬ sec a → x_good n sec nm B L (0, x_mv (x_fac Y F) σ a d) := by
    intro F a q
    refine fun _ => ⟨⟨q.1, q.2, hg, q4, q5, q6, q7, q8, q9⟩, ?_⟩
    show 2 * (B - xVi Y) + xWn Y + 1 < L
    omega
  unfold x_go
  by_cases f10 : d_fam c = 10
  · rw [if_pos f10]
    refine end_good (X := x_mv Y σ (xAt Y) d) (show x_ok n sec nm B (x_mv Y σ (xAt Y) d) from ⟨q1, q2, hg, q4, q5, q6, q7, q8, q9⟩) ?_
    show 2 * (B - xVi Y) + xWn Y + 1 ≤ L
    omega
  rw [if_neg f10]
  by_cases f7 : d_fam c = 7
  · rw [if_pos f7]; exact mvg (F := xFa Y) (ht f7)
  rw [if_neg f7]
  by_cases f6 : d_fam c = 6
  · rw [if_pos f6]; exact mvg (hn (by rw [f6]; decide) f7 f10)
  rw [if_neg f6]
  by_cases f1 : d_fam c = 1
  · rw [if_pos f1]; exact mvg (F := xFa Y) (h1 f1)
  · rw [if_neg f1]; exact mvg (F := xFa Y) (hn f1 f7 f10)
theorem step_good (hp : pF p n sec nm) (h : x_ok n sec nm B X) {L : Nat} (hL : x_left B X ≤ L) : x_good n sec nm B L (x_step p kb vb B X) := by
  unfold x_step
  by_cases g : B ≤ xVi X
  · rw [if_pos g]; exact er_good (by decide)
  rw [if_neg g]
  obtain ⟨Y, hY⟩ : ∃ Y, Y = x_vis X := ⟨_, rfl⟩
  have hl : 2 * (B - xVi Y) + (xWn Y + 1) + 1 < L := by rw [hY]; exact x_lt (by omega) hL
  have hy : x_ok n sec nm B Y := by
    rw [hY]
    exact ⟨h.1, h.2.1, h.2.2.1, h.2.2.2.1, h.2.2.2.2.1, h.2.2.2.2.2.1, by show xVi X + 1 ≤ B; omega, h.2.2.2.2.2.2.2⟩
  rw [← hY]
  clear hY hL
  obtain ⟨k0, k1, k2, k3, k4, k5, k6⟩ := hp.2.2.2 (xAt Y) hy.1 hy.2.1
  unfold x_do
  by_cases u : s_unr (p (xAt Y)) (xNow Y)
  · rw [ic_t u]; exact er_good (by decide)
  rw [ic_f u]
  by_cases f8 : d_fam (p (xAt Y)) = 8
  · rw [if_pos f8]
    have e := rel_eP (c := p (xAt Y)) (σ := xNow Y)
    have gd := rel_gd (nm := nm) (c := p (xAt Y)) hy.2.2.1
    cases o : s_rel (p (xAt Y)) (xNow Y) with
    | error f =>
      rw [o] at e
      exact er_good (pos_n0 e)
    | ok q =>
      rw [o] at gd
      exact part_good (Y := x_fac Y (f_way (xFa Y) (xAt Y) (q.1.isSome = true) (q.2.isSome = true))) hy hl gd.1 gd.2 ⟨(k4 (Or.inr f8)).1, (k4 (Or.inr f8)).2.1⟩ (k5 (by rw [f8]; decide) (by rw [f8]; decide) (by rw [f8]; decide))
  · rw [if_neg f8]
    have e := do_eP (c := p (xAt Y)) (w := p (xAt Y + 1)) (kb := kb) (vb := vb) (σ := xNow Y) (d := xIds Y)
    have gd := do_gd (nm := nm) (c := p (xAt Y)) (w := p (xAt Y + 1)) (kb := kb) (vb := vb) (ids := xIds Y) hy.2.2.1 k1 k2 (fun a b => (k3 a).2.2.2 b)
    cases o : s_do (p (xAt Y)) (p (xAt Y + 1)) kb vb (xNow Y) (xIds Y) with
    | error f =>
      rw [o] at e
      exact er_good (pos_n0 e)
    | ok q =>
      rw [o] at gd
      exact go_good hy hl gd (fun z => ⟨(k4 (Or.inl z)).1, (k4 (Or.inl z)).2.1⟩) (fun z => ⟨(k3 z).1, (k3 z).2.1⟩) k5
theorem keep_ok (h : x_ok n sec nm B X) : x_ok n sec nm B (x_keep X) ∧ x_left B (x_keep X) = x_left B X := by
  unfold x_keep
  by_cases g : xKn X < 200
  · rw [if_pos g]
    obtain ⟨q1, q2, q3, q4, q5, q6, q7, q8, q9⟩ := h
    refine ⟨⟨q1, q2, q3, by show xKn X + 1 ≤ 200; omega, q5, q6, q7, q8, ?_⟩, rfl⟩
    intro i hi
    have hi2 : i < xKn X + 1 := hi
    show (fup (xKp X) (xKn X) (xNow X, xAt X, True, xWn X) i).2.1 < n ∧ (fup (xKp X) (xKn X) (xNow X, xAt X, True, xWn X) i).2.2.2 ≤ 200
    by_cases e : i = xKn X
    · rw [e, fup_s]; exact ⟨q1, q5⟩
    · rw [fup_o e]; exact q9 i (by omega)
  · rw [if_neg g]
    exact ⟨h, rfl⟩
theorem turn_good (hp : pF p n sec nm) (h : x_ok n sec nm B X) : x_good n sec nm B (x_left B X) (x_turn p mk kb vb B X) := by
  unfold x_turn
  by_cases g : mk (xAt X)
  · rw [ic_t g]
    cases o : x_hit X with
    | none =>
      have hk := keep_ok h
      exact step_good hp hk.1 (Nat.le_of_eq hk.2)
    | some i =>
      show x_good n sec nm B (x_left B X) (ic (xKp X i).2.2.1 (19, X) (x_end X))
      by_cases w : (xKp X i).2.2.1
      · rw [ic_t w]; exact er_good (by decide)
      · rw [ic_f w]; exact end_good h (Nat.le_refl _)
  · rw [ic_f g]; exact step_good hp h (Nat.le_refl _)
theorem run_ends (hp : pF p n sec nm) : ∀ (m : Nat) (X : xT), x_ok n sec nm B X → x_left B X ≤ m → ¬ (x_run p mk kb vb B m X).1 = 0 := by
  intro m
  induction m with
  | zero => intro X _ h; unfold x_left at h; omega
  | succ m ih =>
    intro X h hl
    have t := turn_good (mk := mk) (kb := kb) (vb := vb) hp h
    rw [x_run]
    by_cases g : (x_turn p mk kb vb B X).1 = 0
    · rw [if_pos g]
      obtain ⟨t1, t2⟩ := t g
      exact ih _ t1 (by omega)
    · rw [if_neg g]
      exact g
end XO
