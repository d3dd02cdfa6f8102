/-! PURE: states of the class. -/
theorem nI_int {n : Nat} (h : n < 2147483648) : (nI n).toInt = n := by
  unfold nI
  exact Int32.toInt_ofNat_of_lt h
theorem nI_tn {n : Nat} (h : n < 2147483648) : (nI n).toNatClampNeg = n := by
  show (nI n).toInt.toNat = n
  rw [nI_int h]
  rfl
theorem nI_lei {a b : Nat} (ha : a < 2147483648) (hb : b < 2147483648) : nI a ≤ nI b ↔ a ≤ b := by
  rw [Int32.le_iff_toInt_le, nI_int ha, nI_int hb]
  omega
theorem nI_lti {a b : Nat} (ha : a < 2147483648) (hb : b < 2147483648) : nI a < nI b ↔ a < b := by
  rw [Int32.lt_iff_toInt_lt, nI_int ha, nI_int hb]
  omega
theorem nI_ps {a : Nat} (ha : a < 2147483648) : ¬ nI a < 0 := by
  rw [show (0 : Int32) = nI 0 from rfl, nI_lti ha (by decide)]
  omega
theorem ix_ok {a n : Nat} (ha : a < n) (hn : n ≤ 2147483648) : ¬ (nI a < 0 ∨ n ≤ (nI a).toNatClampNeg) := by
  rw [nI_tn (by omega)]
  rintro (z | z)
  · exact nI_ps (by omega) z
  · omega
/-- the states' shape -/
def ss (M : me_M) : Prop := (∀ s, s < mN M 9 → mR M 9 s 0 = some s ∧ mZ M 18 s = 75) ∧ (∀ s i, s < mN M 9 → i < 75 → mR M 18 s i = some (75 * s + i + 1)) ∧ ∀ c, c < 75 * mN M 9 + 1 → mR M 10 c 6 = some (nu c)
theorem ss_of {M M1 : me_M} (h : mR M1 = mR M) (g : mN M1 = mN M) (e : mZ M1 = mZ M) (f : ss M) : ss M1 := by unfold ss at f ⊢; rw [h, g, e]; exact f
def sv (M : me_M) (s i : Nat) : sC := cv M (75 * s + i + 1)
/-- the cells of a state, and the state -/
def cS (s k j : Nat) : Prop := ∃ i, i < 75 ∧ cP (75 * s + i + 1) k j
def sP (s k j : Nat) : Prop := (k = 9 ∧ j = s) ∨ cS s k j
theorem cS_c {s c : Nat} : cS s 10 c ↔ 75 * s + 1 ≤ c ∧ c < 75 * s + 76 := by
  constructor
  · rintro ⟨i, hi, z | z⟩
    · omega
    · exact absurd z.1 (by decide)
  · intro h
    exact ⟨c - (75 * s + 1), by omega, Or.inl ⟨rfl, by omega⟩⟩
theorem cS_n {s c : Nat} : cS s 11 (nu c) ↔ 75 * s + 1 ≤ c ∧ c < 75 * s + 76 := by
  constructor
  · rintro ⟨i, hi, z | z⟩
    · exact absurd z.1 (by decide)
    · have := nu_inj z.2
      omega
  · intro h
    exact ⟨c - (75 * s + 1), by omega, Or.inr ⟨rfl, by congr 1; omega⟩⟩
theorem cS_k {s k j : Nat} (h : cS s k j) : k = 10 ∨ k = 11 := by
  obtain ⟨i, _, z | z⟩ := h
  · exact Or.inl z.1
  · exact Or.inr z.1
section SV
variable {M M1 : me_M} {s t : Nat} {P : Nat → Nat → Prop}
theorem sv_fr (h : fr P M M1) (g : ∀ i, i < 75 → ¬ P 10 (75 * t + i + 1) ∧ ¬ P 11 (nu (75 * t + i + 1))) : ∀ i, i < 75 → sv M1 t i = sv M t i := fun i hi => cv_fr h (g i hi).1 (g i hi).2
theorem sv_sP (h : fr (sP s) M M1) (g : ¬ t = s) : ∀ i, i < 75 → sv M1 t i = sv M t i := by
  refine sv_fr h ?_
  intro i hi
  constructor
  · rintro (z | z)
    · exact absurd z.1 (by decide)
    · have := cS_c.mp z; omega
  · rintro (z | z)
    · exact absurd z.1 (by decide)
    · have := cS_n.mp z; omega
theorem fr_cS {i : Nat} (hi : i < 75) (h : fr (cP (75 * s + i + 1)) M M1) : fr (cS s) M M1 := fr_mono h (fun k j z => ⟨i, hi, z⟩)
theorem fr_sP (h : fr (cS s) M M1) : fr (sP s) M M1 := fr_mono h (fun _ _ z => Or.inr z)
/-- how many cells are used: the others are clear -/
def us (M : me_M) (s u : Nat) : Prop := 11 ≤ u ∧ u ≤ 75 ∧ mI M 9 s 1 = nI u ∧ ∀ i, u ≤ i → i < 75 → sv M s i = s_bare 0
theorem st_clear_l (hs : ss M) (hS : s < mN M 9) {u : Nat} (hu : u ≤ 75) (hU : mI M 9 s 1 = nI u) : ∀ (k a fu : Nat) (N : me_M), fr (cS s) M N → a + k = u → k < fu → ∃ M1, f_State_clearFrom_l2 s fu N (nI a) = some M1 ∧ (∀ i, i < 75 → sv M1 s i = if a ≤ i ∧ i < u then s_bare 0 else sv N s i) ∧ fr (cS s) M M1 := by
  intro k
  induction k with
  | zero =>
    intro a fu N hN ha hf
    obtain ⟨f2, rfl⟩ : ∃ f2, fu = f2 + 1 := ⟨fu - 1, by omega⟩
    have e : mI N 9 s 1 = nI u := by rw [hN.2.2.2.1 9 s (fun z => by rcases cS_k z with r | r <;> exact absurd r (by decide))]; exact hU
    rw [f_State_clearFrom_l2, e, if_pos ((nI_lei (by omega) (by omega)).mpr (by omega))]
    refine ⟨N, rfl, ?_, hN⟩
    intro i hi
    rw [if_neg (by omega)]
  | succ k ih =>
    intro a fu N hN ha hf
    obtain ⟨f2, rfl⟩ : ∃ f2, fu = f2 + 1 := ⟨fu - 1, by omega⟩
    have e : mI N 9 s 1 = nI u := by rw [hN.2.2.2.1 9 s (fun z => by rcases cS_k z with r | r <;> exact absurd r (by decide))]; exact hU
    have hsN : ss N := ss_of hN.1 hN.2.1 hN.2.2.1 hs
    have hSN : s < mN N 9 := by rw [hN.2.1]; exact hS
    rw [f_State_clearFrom_l2, e, if_neg (fun z => by have := (nI_lei (by omega) (by omega)).mp z; omega), (hsN.1 s hSN).1, bd_some, (hsN.1 s hSN).2, gd_pos (ix_ok (by omega) (by decide)), nI_tn (by omega), hsN.2.1 s a hSN (by omega), bd_some]
    obtain ⟨M1, b1', b2', b3'⟩ := ce_clear (M := N) (c := 75 * s + a + 1)
    rw [b1', bd_some, nI_s]
    obtain ⟨M2, c1, c2, c3⟩ := ih (a + 1) f2 M1 (fr_trans hN (fr_cS (by omega) b3')) (by omega) (by omega)
    refine ⟨M2, c1, ?_, c3⟩
    intro i hi
    rw [c2 i hi]
    by_cases g : a + 1 ≤ i ∧ i < u
    · rw [if_pos g, if_pos (by omega)]
    · rw [if_neg g]
      by_cases g2 : i = a
      · subst g2
        rw [if_pos (by omega)]
        exact b2'
      · rw [if_neg (by omega)]
        exact cv_cP b3' (by omega)
theorem st_clear (hs : ss M) (hS : s < mN M 9) {u a : Nat} (hu : us M s u) (ha : a ≤ 75) : ∃ M1, f_State_clearFrom M s (nI a) = some M1 ∧ (∀ i, i < 75 → sv M1 s i = if a ≤ i then s_bare 0 else sv M s i) ∧ fr (cS s) M M1 := by
  unfold f_State_clearFrom
  by_cases g : a ≤ u
  · obtain ⟨M1, b1', b2', b3'⟩ := st_clear_l hs hS hu.2.1 hu.2.2.1 (u - a) a fuel M fr_refl (by omega) (by have := hu.2.1; unfold fuel; omega)
    refine ⟨M1, b1', ?_, b3'⟩
    intro i hi
    rw [b2' i hi]
    by_cases g1 : a ≤ i
    · rw [if_pos g1]
      by_cases g2 : i < u
      · rw [if_pos ⟨g1, g2⟩]
      · rw [if_neg (by omega)]
        exact hu.2.2.2 i (by omega) hi
    · rw [if_neg g1, if_neg (by omega)]
  · rw [show fuel = 4294967295 + 1 from rfl, f_State_clearFrom_l2, hu.2.2.1, if_pos ((nI_lei (by have := hu.2.1; omega) (by omega)).mpr (by omega))]
    refine ⟨M, rfl, ?_, fr_refl⟩
    intro i hi
    by_cases g1 : a ≤ i
    · rw [if_pos g1]
      exact hu.2.2.2 i (by omega) hi
    · rw [if_neg g1]
/-- what a program's first state is -/
def s_first : Nat → sC := fun i => if i = 1 then (2, 0, 0, 0, 0, 0, fn_ex 0) else if i = 10 then (3, 0, 0, 0, 0, 0, fn_ex 0) else s_bare 0
theorem st_first (hs : ss M) (hS : s < mN M 9) {u : Nat} (hu : us M s u) : ∃ M1, f_State_atFirst M s = some M1 ∧ (∀ i, i < 75 → sv M1 s i = s_first i) ∧ us M1 s 11 ∧ mI M1 9 s 2 = 0 ∧ mI M1 9 s 3 = mI M 9 s 3 ∧ mI M1 9 s 4 = mI M 9 s 4 ∧ fr (sP s) M M1 := by
  unfold f_State_atFirst
  obtain ⟨A, a1, a2, a3⟩ := st_clear (a := 0) hs hS hu (by decide)
  rw [show (0 : Int32) = nI 0 from rfl, a1, bd_some, (hs.1 s hS).1, bd_some, (hs.1 s hS).2, gd_pos (by decide), hs.2.1 s 1 hS (by decide), bd_some]
  have hsA : ss A := ss_of a3.1 a3.2.1 a3.2.2.1 hs
  obtain ⟨B, b1', b2', b3'⟩ := ce_become (M := A) (c := 75 * s + 1 + 1) (k := 2) (p := nI 0) (hsA.2.2 _ (by rw [a3.2.1]; omega))
  rw [b1', bd_some, gd_pos (by decide), hs.2.1 s 10 hS (by decide), bd_some]
  have hsB : ss B := ss_of b3'.1 b3'.2.1 b3'.2.2.1 hsA
  obtain ⟨C, c1, c2, c3⟩ := ce_become (M := B) (c := 75 * s + 10 + 1) (k := 3) (p := nI 0) (hsB.2.2 _ (by rw [b3'.2.1, a3.2.1]; omega))
  rw [c1, bd_some, st_eq, st_eq]
  have fC : fr (cS s) M C := fr_trans (fr_trans a3 (fr_cS (i := 1) (by decide) b3')) (fr_cS (i := 10) (by decide) c3)
  have n9 : ¬ cS s 9 s := fun z => by rcases cS_k z with r | r <;> exact absurd r (by decide)
  have e9 : mI C 9 s = mI M 9 s := fC.2.2.2.1 9 s n9
  have view : ∀ i, i < 75 → sv (wI (wI C 9 s 1 11) 9 s 2 (nI 0)) s i = s_first i := by
    intro i hi
    show sv C s i = s_first i
    unfold s_first
    by_cases i1 : i = 1
    · subst i1
      rw [if_pos rfl]
      unfold sv
      rw [cv_cP c3 (by omega), b2']
      rfl
    · rw [if_neg i1]
      by_cases i2 : i = 10
      · subst i2
        rw [if_pos rfl]
        unfold sv
        rw [c2]
        rfl
      · rw [if_neg i2]
        unfold sv
        rw [cv_cP c3 (by omega), cv_cP b3' (by omega)]
        exact (a2 i hi).trans (if_pos (Nat.zero_le _))
  refine ⟨_, rfl, view, ⟨by decide, by decide, ?_, ?_⟩, ?_, ?_, ?_, ?_⟩
  · simp [pI_I]
    rfl
  · intro i h1 h2
    rw [view i h2]
    unfold s_first
    rw [if_neg (by omega), if_neg (by omega)]
  · simp [pI_I]
  · simp [pI_I, e9]
  · simp [pI_I, e9]
  · exact fr_trans (fr_trans (fr_sP fC) (fr_I (Or.inl ⟨rfl, rfl⟩))) (fr_I (Or.inl ⟨rfl, rfl⟩))
theorem st_copy_l (hs : ss M) (hS : s < mN M 9) (hT : t < mN M 9) (hst : ¬ t = s) {u : Nat} (hu : u ≤ 75) (hU : mI M 9 t 1 = nI u) : ∀ (k a fu : Nat) (N : me_M), fr (cS s) M N → a + k = u → k < fu → ∃ M1, f_State_copy_l10 s t fu N (nI a) = some M1 ∧ (∀ i, i < 75 → sv M1 s i = if a ≤ i ∧ i < u then sv M t i else sv N s i) ∧ mI M1 9 s 1 = mI M 9 t 1 ∧ mI M1 9 s 2 = mI M 9 t 2 ∧ mI M1 9 s 3 = mI M 9 s 3 ∧ mI M1 9 s 4 = mI M 9 s 4 ∧ fr (sP s) M M1 := by
  have n9 : ∀ t, ¬ cS s 9 t := fun t z => by rcases cS_k z with r | r <;> exact absurd r (by decide)
  intro k
  induction k with
  | zero =>
    intro a fu N hN ha hf
    obtain ⟨f2, rfl⟩ : ∃ f2, fu = f2 + 1 := ⟨fu - 1, by omega⟩
    have e : mI N 9 t 1 = nI u := by rw [hN.2.2.2.1 9 t (n9 t)]; exact hU
    rw [f_State_copy_l10, e, if_pos ((nI_lei (by omega) (by omega)).mpr (by omega)), st_eq, st_eq]
    refine ⟨_, rfl, ?_, ?_, ?_, ?_, ?_, fr_trans (fr_trans (fr_sP hN) (fr_I (Or.inl ⟨rfl, rfl⟩))) (fr_I (Or.inl ⟨rfl, rfl⟩))⟩
    · intro i hi
      rw [if_neg (by omega)]
      rfl
    · simp [pI_I, hU]
    · simp [pI_I, hst, hN.2.2.2.1 9 t (n9 t)]
    · simp [pI_I, hN.2.2.2.1 9 s (n9 s)]
    · simp [pI_I, hN.2.2.2.1 9 s (n9 s)]
  | succ k ih =>
    intro a fu N hN ha hf
    obtain ⟨f2, rfl⟩ : ∃ f2, fu = f2 + 1 := ⟨fu - 1, by omega⟩
    have e : mI N 9 t 1 = nI u := by rw [hN.2.2.2.1 9 t (n9 t)]; exact hU
    have hsN : ss N := ss_of hN.1 hN.2.1 hN.2.2.1 hs
    have hSN : s < mN N 9 := by rw [hN.2.1]; exact hS
    have hTN : t < mN N 9 := by rw [hN.2.1]; exact hT
    rw [f_State_copy_l10, e, if_neg (fun z => by have := (nI_lei (by omega) (by omega)).mp z; omega), (hsN.1 s hSN).1, bd_some, (hsN.1 s hSN).2, gd_pos (ix_ok (by omega) (by decide)), nI_tn (by omega), hsN.2.1 s a hSN (by omega), bd_some, (hsN.1 t hTN).1, bd_some, (hsN.1 t hTN).2, gd_pos (by rw [show a = (nI a).toNatClampNeg from (nI_tn (by omega)).symm]; exact fun z => ix_ok (show a < 75 by omega) (by decide) (by rw [nI_tn (by omega)] at z ⊢; exact z)), hsN.2.1 t a hTN (by omega), bd_some]
    obtain ⟨M1, b1', b2', b3'⟩ := ce_copy (M := N) (c := 75 * s + a + 1) (d := 75 * t + a + 1) (hsN.2.2 _ (by omega)) (hsN.2.2 _ (by omega))
    rw [b1', bd_some, nI_s]
    obtain ⟨M2, c1, c2, c3⟩ := ih (a + 1) f2 M1 (fr_trans hN (fr_cS (by omega) b3')) (by omega) (by omega)
    refine ⟨M2, c1, ?_, c3⟩
    intro i hi
    rw [c2 i hi]
    by_cases g : a + 1 ≤ i ∧ i < u
    · rw [if_pos g, if_pos (by omega)]
    · rw [if_neg g]
      by_cases g2 : i = a
      · subst g2
        rw [if_pos (by omega)]
        have z : cv N (75 * t + i + 1) = cv M (75 * t + i + 1) := sv_sP (fr_sP hN) hst i hi
        exact b2'.trans z
      · rw [if_neg (by omega)]
        exact cv_cP b3' (by omega)
theorem st_copy (hs : ss M) (hS : s < mN M 9) (hT : t < mN M 9) (hst : ¬ t = s) {u w : Nat} (hw : us M s w) (hu : us M t u) : ∃ M1, f_State_copy M s t = some M1 ∧ (∀ i, i < 75 → sv M1 s i = sv M t i) ∧ us M1 s u ∧ mI M1 9 s 2 = mI M 9 t 2 ∧ mI M1 9 s 3 = mI M 9 s 3 ∧ mI M1 9 s 4 = mI M 9 s 4 ∧ fr (sP s) M M1 := by
  unfold f_State_copy
  obtain ⟨A, a1, a2, a3⟩ := st_clear (a := u) hs hS hw hu.2.1
  rw [hu.2.2.1, a1, bd_some]
  obtain ⟨M1, c1, c2, c3, c4, c5, c6, c7⟩ := st_copy_l hs hS hT hst hu.2.1 hu.2.2.1 u 0 fuel A a3 (by omega) (by have := hu.2.1; unfold fuel; omega)
  have view : ∀ i, i < 75 → sv M1 s i = sv M t i := by
    intro i hi
    rw [c2 i hi]
    by_cases g : i < u
    · rw [if_pos ⟨Nat.zero_le _, g⟩]
    · rw [if_neg (by omega), a2 i hi, if_pos (by omega), hu.2.2.2 i (by omega) hi]
  refine ⟨M1, c1, view, ⟨hu.1, hu.2.1, c3.trans hu.2.2.1, ?_⟩, c4, c5, c6, c7⟩
  intro i h1 h2
  rw [view i h2]
  exact hu.2.2.2 i h1 h2
end SV
