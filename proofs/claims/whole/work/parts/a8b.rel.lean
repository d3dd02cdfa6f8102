/-! PURE: the class's relation. -/
section CK
variable {M M1 M2 : me_M} {s : Nat} {c : Int64}
theorem cv_t {N : me_M} {y : Nat} {Z : fn_N} (h : cK (cv N y) = 1) : cv (pn_t N (nu y) Z) y = s_num Z := by
  have h2 : mI N 10 y 0 = 1 := h
  unfold cv
  rw [pg_t, pt_I, h2]
  simp [cn]
/-- a register that is a number is told -/
theorem tw_num {N : me_M} {w u t : Nat} {Z : fn_N} (ht : t < 11) (hu : us N w u) (h1 : cK (sv N w t) = 1) : us (pn_t N (nu (75 * w + t + 1)) Z) w u ∧ (∀ i, i < 75 → sv (pn_t N (nu (75 * w + t + 1)) Z) w i = up (sv N w) t (s_num Z) i) ∧ fr (cS w) N (pn_t N (nu (75 * w + t + 1)) Z) := by
  have f : fr (cP (75 * w + t + 1)) N (pn_t N (nu (75 * w + t + 1)) Z) := fr_t cP1
  obtain ⟨q1, q2⟩ := us_up hu (by have := hu.1; omega) f (cv_t h1)
  exact ⟨q1, q2, fr_cS (by omega) f⟩
theorem tld_1 {σ : sT} (h10 : mI M 7 0 10 = 1) (ht : d_ti c < 11) (hf : d_fi c < 11) (k1 : cK (σ (d_ti c)) = 1) (k2 : ¬ d_rf c = 0 → cK (σ (d_fi c)) = 1) (hne : ¬ d_rf c = 0 → ¬ d_ti c = d_fi c) {go fall : Option (fn_N × fn_N)} (hg : ∀ q, go = some q → pg M 7 = q.1 ∧ pg M 8 = q.2) (hl : ∀ q, fall = some q → pg M 9 = q.1 ∧ pg M 10 = q.2) : tld M c σ (go.map (s_tn c σ)) (fall.map (s_tn c σ)) := by
  intro N w τ g e7 h4 hn hlk hs hW hu hv hgt
  obtain ⟨u, hu⟩ := hu
  obtain ⟨t, ht1, e1, e2⟩ := d_ti_n ht
  obtain ⟨f, hf1, e3, e4⟩ := d_fi_n hf
  obtain ⟨l1, l2, l3, l4, l5, l6, l7, l8, l9, l10, l11⟩ := hlk
  have e10 : mI N 7 0 10 = 1 := by rw [e7]; exact h10
  have kt : cK (sv N w t) = 1 := by rw [hv t (by omega), ← e2]; exact k1
  have key : ∀ (j1 j2 : Nat) (q : fn_N × fn_N) (x2 : Int32), (x2 = 0 → j2 = 10) → (¬ x2 = 0 → j2 = 8) → pg N j1 = q.1 → pg N j2 = q.2 → j2 < 11 → τ = s_tn c σ q → ∃ N1, f_Steps_tellWay_b38 0 w x2 N j1 (nu (75 * w + t + 1)) = some N1 ∧ (∀ i, i < 75 → sv N1 w i = τ i) ∧ (∃ u, us N1 w u) ∧ fr (cS w) N N1 := by
    intro j1 j2 q x2 hj1 hj2 p1 p2 pl hτ
    unfold f_Steps_tellWay_b38
    rw [pt_cp, bd_some, p1, h4.1, bd_some, show mI (pn_t N (nu (75 * w + t + 1)) q.1) 2 0 15 = d_rf c from l11]
    obtain ⟨q1, q2, q3⟩ := tw_num (Z := q.1) ht1 hu kt
    unfold s_tn at hτ
    by_cases g0 : d_rf c = 0
    · rw [if_pos g0]
      rw [if_pos g0] at hτ
      refine ⟨_, rfl, ?_, ⟨u, q1⟩, q3⟩
      intro i hi
      rw [q2 i hi, hτ, e2]
      unfold up
      by_cases e : i = t
      · rw [if_pos e, if_pos e]
      · rw [if_neg e, if_neg e, hv i hi]
    · rw [if_neg g0]
      rw [if_neg g0] at hτ
      have tf : ¬ t = f := by rw [← e2, ← e4]; exact hne g0
      rw [(hs.1 w hW).1, bd_some, show mI (pn_t N (nu (75 * w + t + 1)) q.1) 2 0 7 = d_from c from l3, e3, (hs.1 w hW).2, gd_pos (ix_ok (by omega) (by decide)), nI_tn (by omega), hs.2.1 w f hW (by omega), bd_some, hs.2.2 _ (by omega), bd_some, h4.2.2.2.2, bd_some, h4.2.2.1, bd_some]
      have kf : cK (sv (pn_t N (nu (75 * w + t + 1)) q.1) w f) = 1 := by
        rw [q2 f (by omega)]
        unfold up
        rw [if_neg (fun z => tf z.symm), hv f (by omega), ← e4]
        exact k2 g0
      have pj : pg (pn_t N (nu (75 * w + t + 1)) q.1) j2 = q.2 := by
        rw [pg_L (by rw [nu_g (by omega)]; omega)]; exact p2
      obtain ⟨r1, r2, r3⟩ := tw_num (N := pn_t N (nu (75 * w + t + 1)) q.1) (Z := q.2) hf1 q1 kf
      have vv : ∀ i, i < 75 → sv (pn_t (pn_t N (nu (75 * w + t + 1)) q.1) (nu (75 * w + f + 1)) q.2) w i = τ i := by
        intro i hi
        rw [r2 i hi, hτ, e2, e4]
        unfold up
        by_cases e : i = f
        · rw [if_pos e, if_pos e]
        · rw [if_neg e, if_neg e, q2 i hi]
          unfold up
          by_cases e5 : i = t
          · rw [if_pos e5, if_pos e5]
          · rw [if_neg e5, if_neg e5, hv i hi]
      by_cases g2 : x2 = 0
      · have ej := hj1 g2
        subst ej
        rw [if_pos g2, pt_cp, bd_some, pj]
        exact ⟨_, rfl, vv, ⟨u, r1⟩, fr_trans q3 r3⟩
      · have ej := hj2 g2
        subst ej
        rw [if_neg g2, pt_cp, bd_some, pj]
        exact ⟨_, rfl, vv, ⟨u, r1⟩, fr_trans q3 r3⟩
  unfold f_Steps_tellWay
  rw [e10, if_pos rfl, (hs.1 w hW).1, bd_some, h4.1, bd_some, l2, e1, (hs.1 w hW).2, gd_pos (ix_ok (by omega) (by decide)), nI_tn (by omega), hs.2.1 w t hW (by omega), bd_some, hs.2.2 _ (by omega), bd_some, h4.2.2.2.1, bd_some, h4.2.1, bd_some]
  rcases hgt with ⟨g1, t1⟩ | ⟨g1, t1⟩
  · subst g1
    obtain ⟨q, hq, hq2⟩ := Option.map_eq_some_iff.mp t1
    obtain ⟨p1, p2⟩ := hg q hq
    rw [if_neg (by decide)]
    exact key 7 8 q 1 (fun z => absurd z (by decide)) (fun _ => rfl) (by rw [hn 7 (by decide) (by decide)]; exact p1) (by rw [hn 8 (by decide) (by decide)]; exact p2) (by decide) hq2.symm
  · subst g1
    obtain ⟨q, hq, hq2⟩ := Option.map_eq_some_iff.mp t1
    obtain ⟨p1, p2⟩ := hl q hq
    rw [if_pos rfl]
    exact key 9 10 q 0 (fun _ => rfl) (fun z => absurd rfl z) (by rw [hn 9 (by decide) (by decide)]; exact p1) (by rw [hn 10 (by decide) (by decide)]; exact p2) (by decide) hq2.symm
/-- the ints and numbers that a relation writes -/
def wP (k j : Nat) : Prop := (k = 7 ∧ j = 0) ∨ (k = 10 ∧ j = 0) ∨ (k = 11 ∧ j < 11)
theorem wP_0 {k j : Nat} (h : cP 0 k j) : wP k j := by
  rcases h with z | z
  · exact Or.inr (Or.inl z)
  · exact Or.inr (Or.inr ⟨z.1, by rw [z.2]; decide⟩)
theorem wP_fin {u : Nat} (hu : us M s u) (g : fr wP M M1) : tk s M M1 ∧ us M1 s u ∧ ∀ i, i < 75 → sv M1 s i = sv M s i := by
  have n9 : ¬ wP 9 s := by rintro (z | z | z) <;> exact absurd z.1 (by decide)
  obtain ⟨q1, q2⟩ := us_fr hu g n9 (by
    intro k j z y
    obtain ⟨i, hi, w⟩ := y
    rcases z with z | z | z <;> rcases w with w | w
    · rw [z.1] at w; exact absurd w.1 (by decide)
    · rw [z.1] at w; exact absurd w.1 (by decide)
    · omega
    · rw [z.1] at w; exact absurd w.1 (by decide)
    · rw [z.1] at w; exact absurd w.1 (by decide)
    · rw [nu_g (by omega)] at w; omega)
  exact ⟨⟨fr_mono g (fun k j z => Or.inr z), ⟨u, q1⟩, n9_tk g n9⟩, q1, q2⟩
/-- what a relation's answer is -/
def rl (M1 : me_M) (r : Int32) (c : Int64) (σ : sT) (ids : Int32) (o : sG) : Prop := match o with
  | .error f => r = f
  | .ok q => r = 0 ∧ mI M1 7 0 8 = (if q.1.isSome then 1 else 0) ∧ mI M1 7 0 9 = (if q.2.isSome then 1 else 0) ∧ mI M1 7 0 7 = ids ∧ tld M1 c σ q.1 q.2
theorem st_end {y : Nat} (p : sC) (hp : cv M y = p) (k4 : cK p = 4) {rel : Int32} {σ : sT} (h8 : mI M 7 0 8 = 1) (h9 : mI M 7 0 9 = 1) : ∃ M1 r, f_Steps_relateToEnd M 0 y rel = some (M1, r) ∧ fr wP M M1 ∧ rl M1 r c σ (mI M 7 0 7) (s_end p rel σ) := by
  have ei : mI M 10 y 3 = cI p := by
    rw [← hp]
    have k4' : mI M 10 y 0 = 4 := by rw [← hp] at k4; exact k4
    unfold cv cn
    exact (if_pos (Or.inl k4')).symm
  have ep : mI M 10 y 1 = cPl p := by rw [← hp]; exact (cv_ptr (by rw [hp]; exact Or.inr (Or.inr (Or.inl k4)))).symm
  have w7 : wP 7 0 := Or.inl ⟨rfl, rfl⟩
  unfold f_Steps_relateToEnd s_end
  rw [st_eq, st_eq, st_eq, st_eq]
  obtain ⟨A, hA⟩ : ∃ A, A = wI (wI (wI (wI M 7 0 10 3) 7 0 11 (mI (wI M 7 0 10 3) 10 y 3)) 7 0 12 0) 7 0 13 0 := ⟨_, rfl⟩
  rw [← hA]
  have fA : fr wP M A := by rw [hA]; exact fr_trans (fr_trans (fr_trans (fr_I w7) (fr_I w7)) (fr_I w7)) (fr_I w7)
  have A1 : mI A 10 y 1 = cPl p := by rw [hA, ← ep]; rfl
  have A7 : mI A 7 0 7 = mI M 7 0 7 := by rw [hA]; simp [pI_I]
  have A8 : mI A 7 0 8 = 1 := by rw [hA]; simp [pI_I, h8]
  have A9 : mI A 7 0 9 = 1 := by rw [hA]; simp [pI_I, h9]
  have A10 : mI A 7 0 10 = 3 := by rw [hA]; simp [pI_I]
  have A11 : mI A 7 0 11 = cI p := by rw [hA, ← ei]; simp [pI_I]
  have A12 : mI A 7 0 12 = 0 := by rw [hA]; simp [pI_I]
  have A13 : mI A 7 0 13 = 0 := by rw [hA]; simp [pI_I]
  rw [A1]
  have w13 : ∀ v, ∃ M1 r, st (wI A 7 0 13 v) (fun M7 => some (M7, (0 : Int32))) = some (M1, r) ∧ fr wP M M1 ∧ rl M1 r c σ (mI M 7 0 7) (.ok (some (s_room (cI p) 0 σ), some (s_room (cI p) v σ))) := by
    intro v
    refine ⟨_, 0, rfl, fr_trans fA (fr_I w7), rfl, ?_, ?_, ?_, tld_3 ?_ ?_ ?_ ?_⟩
    · exact (pI_place (by decide)).trans A8
    · exact (pI_place (by decide)).trans A9
    · exact (pI_place (by decide)).trans A7
    · exact (pI_place (by decide)).trans A10
    · exact (pI_place (by decide)).trans A11
    · exact (pI_place (by decide)).trans A12
    · exact pI_same
  have w12 : ∀ v, ∃ M1 r, st (wI A 7 0 12 v) (fun M7 => some (M7, (0 : Int32))) = some (M1, r) ∧ fr wP M M1 ∧ rl M1 r c σ (mI M 7 0 7) (.ok (some (s_room (cI p) v σ), some (s_room (cI p) 0 σ))) := by
    intro v
    refine ⟨_, 0, rfl, fr_trans fA (fr_I w7), rfl, ?_, ?_, ?_, tld_3 ?_ ?_ ?_ ?_⟩
    · exact (pI_place (by decide)).trans A8
    · exact (pI_place (by decide)).trans A9
    · exact (pI_place (by decide)).trans A7
    · exact (pI_place (by decide)).trans A10
    · exact (pI_place (by decide)).trans A11
    · exact pI_same
    · exact (pI_place (by decide)).trans A13
  have bad : ∃ M1 r, (some (A, (12 : Int32)) : Option (me_M × Int32)) = some (M1, r) ∧ fr wP M M1 ∧ rl M1 r c σ (mI M 7 0 7) (.error 12) := ⟨A, 12, rfl, fA, rfl⟩
  by_cases g1 : rel = 1
  · rw [if_pos g1, if_pos g1]; exact w13 _
  rw [if_neg g1, if_neg g1]
  by_cases g2 : rel = 2
  · rw [if_pos g2, if_pos g2]; exact w13 _
  rw [if_neg g2, if_neg g2]
  by_cases g7 : rel = 7
  · rw [if_pos g7, if_neg (by rw [g7]; decide), if_neg (by rw [g7]; decide), if_neg (by rw [g7]; decide), if_neg (by rw [g7]; decide), if_pos g7]; exact w12 _
  rw [if_neg g7, if_neg g7]
  by_cases g8 : rel = 8
  · rw [if_pos g8, if_pos g8, if_neg (by rw [g8]; decide), if_neg (by rw [g8]; decide), if_neg (by rw [g8]; decide), if_neg (by rw [g8]; decide)]; exact w12 _
  rw [if_neg g8, if_neg g8, ite_self, ite_self, ite_self, ite_self]
  exact bad
end CK
