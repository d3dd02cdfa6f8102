/-! PURE: a state within another; identities go together. -/
abbrev hid (x : sC) : Prop := cK x = 4 ∨ cK x = 8
/-- as far as the cells of D show it -/
def s_inD (D : Nat → Prop) (k σ : sT) : Prop := (∀ i, D i → c_ar (k i) (σ i)) ∧ (∀ i j, D i → D j → hid (k i) → hid (k j) → (cI (k i) = cI (k j) ↔ cI (σ i) = cI (σ j))) ∧ ∀ i, D i → hid (k i) → (cI (k i) = 0 ↔ cI (σ i) = 0)
def s_in (k σ : sT) : Prop := s_inD (fun i => i < 75) k σ
theorem in_mono {D E : Nat → Prop} {k σ : sT} (h : s_inD E k σ) (g : ∀ i, D i → E i) : s_inD D k σ := ⟨fun i hi => h.1 i (g i hi), fun i j hi hj => h.2.1 i j (g i hi) (g j hj), fun i hi => h.2.2 i (g i hi)⟩
theorem in_e {k l σ τ : sT} (h : e75 k l) (g : e75 σ τ) : s_in k σ ↔ s_in l τ := by
  have key : ∀ {k l σ τ : sT}, e75 k l → e75 σ τ → s_in k σ → s_in l τ := by
    intro k l σ τ h g z
    refine ⟨fun i hi => ?_, fun i j hi hj => ?_, fun i hi => ?_⟩
    · rw [← h i hi, ← g i hi]; exact z.1 i hi
    · rw [← h i hi, ← g i hi, ← h j hj, ← g j hj]; exact z.2.1 i j hi hj
    · rw [← h i hi, ← g i hi]; exact z.2.2 i hi
  exact ⟨key h g, key (e75_symm h) (e75_symm g)⟩
/-- a table of p pairs: what was found of the cells of D -/
def pT (k σ : sT) (D : Nat → Prop) (p : Nat) (a b : Nat → Int32) : Prop := 1 ≤ p ∧ a 0 = 0 ∧ b 0 = 0 ∧ (∀ x y, x < p → y < p → (a x = a y ↔ b x = b y)) ∧ (∀ x, x < p → x = 0 ∨ ∃ i, D i ∧ hid (k i) ∧ a x = cI (k i) ∧ b x = cI (σ i)) ∧ ∀ i, D i → hid (k i) → ∃ x, x < p ∧ a x = cI (k i) ∧ b x = cI (σ i)
section PT
variable {k σ : sT} {D : Nat → Prop} {p i : Nat} {a b : Nat → Int32}
theorem pT_0 (ha : a 0 = 0) (hb : b 0 = 0) (hD : ∀ i, D i → ¬ hid (k i)) : pT k σ D 1 a b := by
  refine ⟨by decide, ha, hb, ?_, fun x hx => Or.inl (by omega), fun i hi z => absurd z (hD i hi)⟩
  intro x y hx hy
  have e1 : x = 0 := by omega
  have e2 : y = 0 := by omega
  rw [e1, e2]
  exact ⟨fun _ => rfl, fun _ => rfl⟩
theorem pT_in (h : pT k σ D p a b) (c : ∀ i, D i → c_ar (k i) (σ i)) : s_inD D k σ := by
  obtain ⟨h1, h2, h3, h4, h5, h6⟩ := h
  refine ⟨c, ?_, ?_⟩
  · intro i j hi hj zi zj
    obtain ⟨x, x1, x2, x3⟩ := h6 i hi zi
    obtain ⟨y, y1, y2, y3⟩ := h6 j hj zj
    rw [← x2, ← x3, ← y2, ← y3]
    exact h4 x y x1 y1
  · intro i hi zi
    obtain ⟨x, x1, x2, x3⟩ := h6 i hi zi
    rw [← x2, ← x3]
    have := h4 x 0 x1 (by omega)
    rw [h2, h3] at this
    exact this
/-- a cell without identity -/
theorem pT_skip (h : pT k σ D p a b) (hi : ¬ hid (k i)) : pT k σ (fun j => D j ∨ j = i) p a b := by
  obtain ⟨h1, h2, h3, h4, h5, h6⟩ := h
  refine ⟨h1, h2, h3, h4, ?_, ?_⟩
  · intro x hx
    rcases h5 x hx with z | ⟨j, z1, z2⟩
    · exact Or.inl z
    · exact Or.inr ⟨j, Or.inl z1, z2⟩
  · intro j hj zj
    rcases hj with z | z
    · exact h6 j z zj
    · rw [z] at zj; exact absurd zj hi
/-- a pair that is there -/
theorem pT_found (h : pT k σ D p a b) {x : Nat} (hx : x < p) (e1 : a x = cI (k i)) (e2 : b x = cI (σ i)) : pT k σ (fun j => D j ∨ j = i) p a b := by
  obtain ⟨h1, h2, h3, h4, h5, h6⟩ := h
  refine ⟨h1, h2, h3, h4, ?_, ?_⟩
  · intro y hy
    rcases h5 y hy with z | ⟨j, z1, z2⟩
    · exact Or.inl z
    · exact Or.inr ⟨j, Or.inl z1, z2⟩
  · intro j hj zj
    rcases hj with z | z
    · exact h6 j z zj
    · rw [z]; exact ⟨x, hx, e1, e2⟩
/-- a new pair -/
theorem pT_new (h : pT k σ D p a b) (hi : hid (k i)) (n1 : ∀ x, x < p → ¬ a x = cI (k i)) (n2 : ∀ x, x < p → ¬ b x = cI (σ i)) {a2 b2 : Nat → Int32} (ha : ∀ x, a2 x = if x = p then cI (k i) else a x) (hb : ∀ x, b2 x = if x = p then cI (σ i) else b x) : pT k σ (fun j => D j ∨ j = i) (p + 1) a2 b2 := by
  obtain ⟨h1, h2, h3, h4, h5, h6⟩ := h
  refine ⟨by omega, ?_, ?_, ?_, ?_, ?_⟩
  · rw [ha, if_neg (by omega)]; exact h2
  · rw [hb, if_neg (by omega)]; exact h3
  · intro x y hx hy
    rw [ha, ha, hb, hb]
    by_cases ex : x = p
    · by_cases ey : y = p
      · simp only [if_pos ex, if_pos ey]
      · simp only [if_pos ex, if_neg ey]
        exact ⟨fun z => absurd z.symm (n1 y (by omega)), fun z => absurd z.symm (n2 y (by omega))⟩
    · by_cases ey : y = p
      · simp only [if_neg ex, if_pos ey]
        exact ⟨fun z => absurd z (n1 x (by omega)), fun z => absurd z (n2 x (by omega))⟩
      · simp only [if_neg ex, if_neg ey]
        exact h4 x y (by omega) (by omega)
  · intro x hx
    by_cases ex : x = p
    · refine Or.inr ⟨i, Or.inr rfl, hi, ?_, ?_⟩
      · rw [ha, if_pos ex]
      · rw [hb, if_pos ex]
    · rcases h5 x (by omega) with z | ⟨j, z1, z2, z3, z4⟩
      · exact Or.inl z
      · refine Or.inr ⟨j, Or.inl z1, z2, ?_, ?_⟩
        · rw [ha, if_neg ex]; exact z3
        · rw [hb, if_neg ex]; exact z4
  · intro j hj zj
    rcases hj with z | z
    · obtain ⟨x, x1, x2, x3⟩ := h6 j z zj
      refine ⟨x, by omega, ?_, ?_⟩
      · rw [ha, if_neg (by omega)]; exact x2
      · rw [hb, if_neg (by omega)]; exact x3
    · refine ⟨p, by omega, ?_, ?_⟩
      · rw [ha, if_pos rfl, z]
      · rw [hb, if_pos rfl, z]
/-- a pair that does not go together -/
theorem pT_bad (h : pT k σ D p a b) (hi : hid (k i)) {x : Nat} (hx : x < p) (e : ¬ (a x = cI (k i) ↔ b x = cI (σ i))) : ¬ s_inD (fun j => D j ∨ j = i) k σ := by
  obtain ⟨h1, h2, h3, h4, h5, h6⟩ := h
  rintro ⟨_, z2, z3⟩
  rcases h5 x hx with y | ⟨j, y1, y2, y3, y4⟩
  · have := z3 i (Or.inr rfl) hi
    rw [y, h2, h3] at e
    exact e ⟨fun q => (this.mp q.symm).symm, fun q => (this.mpr q.symm).symm⟩
  · have := z2 j i (Or.inl y1) (Or.inr rfl) y2 hi
    rw [y3, y4] at e
    exact e this
end PT
/-! the class -/
/-- the Explorer's shape -/
def xsh (M : me_M) : Prop := mR M 4 0 0 = some 0 ∧ mR M 4 0 1 = some 0 ∧ mR M 4 0 2 = some 0 ∧ mR M 4 0 3 = some 0 ∧ mR M 4 0 4 = some 1 ∧ mR M 4 0 5 = some 3 ∧ mR M 4 0 6 = some 4 ∧ mZ M 17 0 = 200 ∧ mZ M 17 1 = 200 ∧ mZ M 13 3 = 76 ∧ mZ M 13 4 = 76
/-- what comparing may change: the pairs -/
def pP (k j : Nat) : Prop := (k = 4 ∧ j = 0) ∨ (k = 13 ∧ (j = 3 ∨ j = 4))
def pf7 (M M1 : me_M) : Prop := fr pP M M1 ∧ (∀ f, ¬ f = 7 → mI M1 4 0 f = mI M 4 0 f) ∧ mI M1 13 3 0 = mI M 13 3 0 ∧ mI M1 13 4 0 = mI M 13 4 0
theorem ix_t {a n : Nat} (h : a < n) (hn : n ≤ 2147483648) : ¬ (nI a < 0 ∨ n ≤ a) := by
  rintro (z | z)
  · exact nI_ps (by omega) z
  · omega
section CW
variable {M M1 M2 : me_M} {k σ : sT} {D : Nat → Prop} {p i : Nat}
theorem pf7_refl : pf7 M M := ⟨fr_refl, fun _ _ => rfl, rfl, rfl⟩
theorem pf7_trans (h : pf7 M M1) (g : pf7 M1 M2) : pf7 M M2 := ⟨fr_trans h.1 g.1, fun f z => (g.2.1 f z).trans (h.2.1 f z), g.2.2.1.trans h.2.2.1, g.2.2.2.trans h.2.2.2⟩
theorem cp_l (hx : xsh M) (hp : mI M 4 0 7 = nI p) (hp2 : p < 76) (hT : pT k σ D p (mI M 13 3) (mI M 13 4)) (hi : hid (k i)) : ∀ (n y fu : Nat), y + n = p → n < fu → (∀ x, x < y → ¬ mI M 13 3 x = cI (k i) ∧ ¬ mI M 13 4 x = cI (σ i)) → ∃ M1 r, f_Explorer_isPaired_l2 0 (cI (k i)) (cI (σ i)) fu M (nI y) = some (M1, r) ∧ pf7 M M1 ∧ ((r = 0 ∧ ¬ s_inD (fun j => D j ∨ j = i) k σ) ∨ (r = 1 ∧ ∃ q, mI M1 4 0 7 = nI q ∧ q ≤ p + 1 ∧ pT k σ (fun j => D j ∨ j = i) q (mI M1 13 3) (mI M1 13 4))) := by
  obtain ⟨x0, x1, x2, x3, x4, x5, x6, z1, z2, z3, z4⟩ := hx
  intro n
  induction n with
  | zero =>
    intro y fu e hf hn
    obtain ⟨fu, rfl⟩ : ∃ f, fu = f + 1 := ⟨fu - 1, by omega⟩
    have ey : y = p := by omega
    subst ey
    rw [f_Explorer_isPaired_l2, hp, if_pos ((nI_lei (by omega) (by omega)).mpr (by omega)), x5, bd_some, z3, gd_pos (ix_ok (by omega) (by decide)), nI_tn (by omega), st_eq, x6, bd_some, z4]
    obtain ⟨A, hA⟩ : ∃ A, A = wI M 13 3 y (cI (k i)) := ⟨_, rfl⟩
    rw [← hA]
    have A7 : mI A 4 0 7 = nI y := by rw [hA, pI_I, if_neg (fun z => absurd z.1 (by decide))]; exact hp
    rw [A7, gd_pos (ix_ok (by omega) (by decide)), nI_tn (by omega), st_eq, st_eq]
    obtain ⟨B, hB⟩ : ∃ B, B = wI A 13 4 y (cI (σ i)) := ⟨_, rfl⟩
    rw [← hB]
    have B7 : mI B 4 0 7 = nI y := by rw [hB, pI_I, if_neg (fun z => absurd z.1 (by decide))]; exact A7
    rw [B7, nI_s]
    have fB : pf7 M B := by
      rw [hB, hA]
      have y0 : ¬ 0 = y := by have := hT.1; omega
      refine ⟨fr_trans (fr_I (Or.inr ⟨rfl, Or.inl rfl⟩)) (fr_I (Or.inr ⟨rfl, Or.inr rfl⟩)), fun f _ => ?_, ?_, ?_⟩
      · rw [pI_I, if_neg (fun z => absurd z.1 (by decide)), pI_I, if_neg (fun z => absurd z.1 (by decide))]
      · rw [pI_place y0, pI_place y0]
      · rw [pI_place y0, pI_place y0]
    refine ⟨_, 1, rfl, ⟨fr_trans fB.1 (fr_I (Or.inl ⟨rfl, rfl⟩)), fun f hf2 => ?_, fB.2.2⟩, Or.inr ⟨rfl, y + 1, pI_same, by omega, ?_⟩⟩
    · rw [pI_place hf2]; exact fB.2.1 f hf2
    · refine pT_new hT hi (fun x hx => (hn x hx).1) (fun x hx => (hn x hx).2) ?_ ?_
      · intro x
        rw [pI_I, if_neg (fun z => absurd z.1 (by decide)), hB, pI_I, if_neg (fun z => absurd z.2.1 (by decide)), hA, pI_I]
        by_cases g : x = y
        · rw [if_pos ⟨rfl, rfl, g⟩, if_pos g]
        · rw [if_neg (fun z => g z.2.2), if_neg g]
      · intro x
        rw [pI_I, if_neg (fun z => absurd z.1 (by decide)), hB, pI_I]
        by_cases g : x = y
        · rw [if_pos ⟨rfl, rfl, g⟩, if_pos g]
        · rw [if_neg (fun z => g z.2.2), if_neg g, hA, pI_I, if_neg (fun z => absurd z.2.1 (by decide))]
  | succ n ih =>
    intro y fu e hf hn
    obtain ⟨fu, rfl⟩ : ∃ f, fu = f + 1 := ⟨fu - 1, by omega⟩
    have hy : y < p := by omega
    rw [f_Explorer_isPaired_l2, hp, if_neg (fun z => by have := (nI_lei (by omega) (by omega)).mp z; omega), x5, bd_some, z3, gd_pos (ix_ok (by omega) (by decide)), nI_tn (by omega), x6, bd_some, z4, gd_pos (ix_t (by omega) (by decide)), nI_s]
    have b30 : (mI M 13 3 y = cI (k i) ∨ mI M 13 4 y = cI (σ i)) → ∃ M1 r, f_Explorer_isPaired_b30 0 (cI (k i)) (cI (σ i)) M (nI y) = some (M1, r) ∧ pf7 M M1 ∧ ((r = 0 ∧ ¬ s_inD (fun j => D j ∨ j = i) k σ) ∨ (r = 1 ∧ ∃ q, mI M1 4 0 7 = nI q ∧ q ≤ p + 1 ∧ pT k σ (fun j => D j ∨ j = i) q (mI M1 13 3) (mI M1 13 4))) := by
      intro ho
      unfold f_Explorer_isPaired_b30
      rw [x5, bd_some, z3, gd_pos (ix_ok (by omega) (by decide)), nI_tn (by omega), x6, bd_some, z4, gd_pos (ix_t (by omega) (by decide))]
      by_cases g1 : mI M 13 3 y = cI (k i)
      · rw [if_pos g1]
        by_cases g2 : mI M 13 4 y = cI (σ i)
        · rw [if_pos g2]
          exact ⟨M, 1, rfl, pf7_refl, Or.inr ⟨rfl, p, hp, by omega, pT_found hT hy g1 g2⟩⟩
        · rw [if_neg g2]
          exact ⟨M, 0, rfl, pf7_refl, Or.inl ⟨rfl, pT_bad hT hi hy (fun z => g2 (z.mp g1))⟩⟩
      · rw [if_neg g1]
        have g2 := ho.elim (fun z => absurd z g1) id
        exact ⟨M, 0, rfl, pf7_refl, Or.inl ⟨rfl, pT_bad hT hi hy (fun z => g1 (z.mpr g2))⟩⟩
    by_cases g1 : mI M 13 3 y = cI (k i)
    · rw [if_pos g1]; exact b30 (Or.inl g1)
    rw [if_neg g1]
    by_cases g2 : mI M 13 4 y = cI (σ i)
    · rw [if_pos g2]; exact b30 (Or.inr g2)
    rw [if_neg g2]
    refine ih (y + 1) fu (by omega) (by omega) ?_
    intro x hx
    by_cases g : x = y
    · rw [g]; exact ⟨g1, g2⟩
    · exact hn x (by omega)
theorem cv_pf7 (h : pf7 M M1) {c : Nat} : cv M1 c = cv M c := cv_fr h.1 (by rintro (z | z) <;> exact absurd z.1 (by decide)) (by rintro (z | z) <;> exact absurd z.1 (by decide))
theorem xsh_of (h1 : mR M1 = mR M) (h2 : mZ M1 = mZ M) (h : xsh M) : xsh M1 := by unfold xsh at h ⊢; rw [h1, h2]; exact h
theorem c_hid {c : Nat} : f_Cell_hasIdentity M c = some (M, if hid (cv M c) then 1 else 0) := by
  unfold f_Cell_hasIdentity
  show (if mI M 10 c 0 = 4 then _ else _) = some (M, if mI M 10 c 0 = 4 ∨ mI M 10 c 0 = 8 then 1 else 0)
  by_cases g4 : mI M 10 c 0 = 4
  · rw [if_pos g4, if_pos (Or.inl g4)]
  · rw [if_neg g4]
    by_cases g8 : mI M 10 c 0 = 8
    · rw [if_pos g8, if_pos (Or.inr g8)]
    · rw [if_neg g8, if_neg (fun z => z.elim g4 g8)]
theorem cI_m {c : Nat} (h : hid (cv M c)) : mI M 10 c 3 = cI (cv M c) := by
  have h2 : mI M 10 c 0 = 4 ∨ mI M 10 c 0 = 8 := h
  unfold cv cn
  exact (if_pos h2).symm
theorem ar_hid {x y : sC} (h : c_ar x y) (g : hid x) : hid y := by
  rcases h with z | z
  · exfalso
    have z1 : cK x = 0 := z.1
    rcases g with g | g <;> rw [z1] at g <;> exact absurd g (by decide)
  · have z1 : cK x = cK y := z.2.1
    show cK y = 4 ∨ cK y = 8
    rw [← z1]
    exact g
/-- the class: the state n within state s -/
theorem cwithin_l (hx : xsh M) (hs : ss M) {s n u : Nat} (hsN : s < mN M 9) (hnN : n < mN M 9) (h8 : mR M 4 0 8 = some n) (hu : us M s u) : ∀ (m y fu : Nat) (N : me_M), y + m = u → m < fu → pf7 M N → (∃ p, mI N 4 0 7 = nI p ∧ p ≤ y + 1 ∧ pT (sv M s) (sv M n) (fun i => i < y) p (mI N 13 3) (mI N 13 4)) → (∀ i, i < y → c_ar (sv M s i) (sv M n i)) → ∃ M1, f_Explorer_isWithin_l7 0 s fu N (nI y) = some (M1, b1 (s_in (sv M s) (sv M n))) ∧ pf7 M M1 := by
  have u75 : u ≤ 75 := hu.2.1
  intro m
  induction m with
  | zero =>
    intro y fu N e hf gN hp hc
    obtain ⟨fu, rfl⟩ : ∃ f, fu = f + 1 := ⟨fu - 1, by omega⟩
    have ey : y = u := by omega
    subst ey
    obtain ⟨p, p1, p2, p3⟩ := hp
    have e1 : mI N 9 s 1 = nI y := by rw [gN.1.2.2.2.1 9 s (by rintro (z | z) <;> exact absurd z.1 (by decide))]; exact hu.2.2.1
    rw [f_Explorer_isWithin_l7, e1, if_pos ((nI_lei (by omega) (by omega)).mpr (by omega))]
    refine ⟨N, congrArg (fun z => some (N, z)) (b1_t ?_).symm, gN⟩
    have inD := pT_in p3 hc
    have bare : ∀ i, ¬ i < y → i < 75 → sv M s i = s_bare 0 := fun i h1 h2 => hu.2.2.2 i (by omega) h2
    have nh : ∀ i, ¬ i < y → i < 75 → ¬ hid (sv M s i) := by
      intro i h1 h2 z
      rw [bare i h1 h2] at z
      rcases z with z | z <;> exact absurd (show (0 : Int32) = _ from z) (by decide)
    refine ⟨?_, ?_, ?_⟩
    · intro i hi
      by_cases g : i < y
      · exact hc i g
      · rw [bare i g hi]
        exact Or.inl ⟨rfl, Or.inl rfl⟩
    · intro i j hi hj zi zj
      have gi : i < y := by
        by_cases g : i < y
        · exact g
        · exact absurd zi (nh i g hi)
      have gj : j < y := by
        by_cases g : j < y
        · exact g
        · exact absurd zj (nh j g hj)
      exact inD.2.1 i j gi gj zi zj
    · intro i hi zi
      have gi : i < y := by
        by_cases g : i < y
        · exact g
        · exact absurd zi (nh i g hi)
      exact inD.2.2 i gi zi
  | succ m ih =>
    intro y fu N e hf gN hp hc
    obtain ⟨fu, rfl⟩ : ∃ f, fu = f + 1 := ⟨fu - 1, by omega⟩
    obtain ⟨p, p1, p2, p3⟩ := hp
    have RN : mR N = mR M := gN.1.1
    have ZN : mZ N = mZ M := gN.1.2.2.1
    have e1 : mI N 9 s 1 = nI u := by rw [gN.1.2.2.2.1 9 s (by rintro (z | z) <;> exact absurd z.1 (by decide))]; exact hu.2.2.1
    have nu1 : mR N 10 (75 * s + y + 1) 6 = some (nu (75 * s + y + 1)) := by rw [RN]; exact hs.2.2 _ (by omega)
    have nu2 : mR N 10 (75 * n + y + 1) 6 = some (nu (75 * n + y + 1)) := by rw [RN]; exact hs.2.2 _ (by omega)
    have v1 : cv N (75 * s + y + 1) = sv M s y := cv_pf7 gN
    have v2 : cv N (75 * n + y + 1) = sv M n y := cv_pf7 gN
    rw [f_Explorer_isWithin_l7, e1, if_neg (fun z => by have := (nI_lei (by omega) (by omega)).mp z; omega), RN, ZN, (hs.1 s hsN).1, bd_some, (hs.1 s hsN).2, gd_pos (ix_ok (by omega) (by decide)), nI_tn (by omega), hs.2.1 s y hsN (by omega), bd_some, h8, bd_some, (hs.1 n hnN).1, bd_some, (hs.1 n hnN).2, gd_pos (ix_t (by omega) (by decide)), hs.2.1 n y hnN (by omega), bd_some, ce_around nu1 nu2, b2_some, v1, v2, nI_s]
    by_cases g : c_ar (sv M s y) (sv M n y)
    · rw [if_neg (b1_n0 g), c_hid, b2_some, v1]
      have hc2 : ∀ i, i < y + 1 → c_ar (sv M s i) (sv M n i) := by
        intro i hi
        by_cases q : i = y
        · rw [q]; exact g
        · exact hc i (by omega)
      have Deq : (fun j => j < y ∨ j = y) = (fun j => j < y + 1) := by
        funext j
        exact propext ⟨fun z => by omega, fun z => by omega⟩
      by_cases gh : hid (sv M s y)
      · rw [if_pos gh, if_neg (by decide)]
        have m1 : mI N 10 (75 * s + y + 1) 3 = cI (sv M s y) := by rw [← v1]; exact cI_m (by rw [v1]; exact gh)
        have m2 : mI N 10 (75 * n + y + 1) 3 = cI (sv M n y) := by rw [← v2]; exact cI_m (by rw [v2]; exact ar_hid g gh)
        rw [m1, m2]
        unfold f_Explorer_isPaired
        obtain ⟨A, r, a1, a2, a3⟩ := cp_l (i := y) (xsh_of RN ZN hx) p1 (by omega) p3 gh p 0 fuel (by omega) (by unfold fuel; omega) (fun x hx2 => by omega)
        rw [show f_Explorer_isPaired_l2 0 (cI (sv M s y)) (cI (sv M n y)) fuel N 0 = some (A, r) from a1, b2_some]
        rcases a3 with z | z
        · rw [if_pos z.1]
          refine ⟨A, congrArg (fun q => some (A, q)) (b1_f ?_).symm, pf7_trans gN a2⟩
          intro q
          exact z.2 (in_mono q (fun i hi => by rcases hi with hi | hi <;> omega))
        · rw [if_neg (by rw [z.1]; decide)]
          obtain ⟨q, q1, q2, q3⟩ := z.2
          refine ih (y + 1) fu A (by omega) (by omega) (pf7_trans gN a2) ⟨q, q1, by omega, ?_⟩ hc2
          rw [Deq] at q3
          exact q3
      · rw [if_neg gh, if_pos rfl]
        refine ih (y + 1) fu N (by omega) (by omega) gN ⟨p, p1, by omega, ?_⟩ hc2
        have := pT_skip (i := y) p3 gh
        rw [Deq] at this
        exact this
    · rw [if_pos (b1_f g)]
      refine ⟨N, congrArg (fun q => some (N, q)) (b1_f ?_).symm, gN⟩
      intro z
      exact g (z.1 y (by omega))
theorem cwithin (hx : xsh M) (hs : ss M) {s n u : Nat} (hsN : s < mN M 9) (hnN : n < mN M 9) (h8 : mR M 4 0 8 = some n) (hu : us M s u) (h0 : mI M 13 3 0 = 0 ∧ mI M 13 4 0 = 0) : ∃ M1, f_Explorer_isWithin M 0 s = some (M1, b1 (s_in (sv M s) (sv M n))) ∧ pf7 M M1 ∧ mI M1 13 3 0 = 0 ∧ mI M1 13 4 0 = 0 := by
  unfold f_Explorer_isWithin
  rw [st_eq]
  have g : pf7 M (wI M 4 0 7 1) := by
    refine ⟨fr_I (Or.inl ⟨rfl, rfl⟩), fun f hf => pI_place hf, ?_, ?_⟩
    · rw [pI_I, if_neg (fun z => absurd z.1 (by decide))]
    · rw [pI_I, if_neg (fun z => absurd z.1 (by decide))]
  obtain ⟨M1, a1, a2⟩ := cwithin_l hx hs hsN hnN h8 hu u 0 fuel (wI M 4 0 7 1) (by omega) (by have := hu.2.1; unfold fuel; omega) g ⟨1, pI_same, by omega, pT_0 (by rw [g.2.2.1]; exact h0.1) (by rw [g.2.2.2]; exact h0.2) (fun i hi => by omega)⟩ (fun i hi => by omega)
  exact ⟨M1, a1, a2, by rw [a2.2.2.1]; exact h0.1, by rw [a2.2.2.2]; exact h0.2⟩
end CW
