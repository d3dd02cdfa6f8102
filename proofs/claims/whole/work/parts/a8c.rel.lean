/-! PURE: the class's relation, whole. -/
section CL
variable {M M1 M2 : me_M} {s : Nat} {c : Int64}
theorem st_rel (h : stp M s c) (h4 : st4 M) {u : Nat} (hu : us M s u) (hop : ∃ k, k < 12 ∧ d_opn c = nI k) : ∃ M1 r, f_Steps_relation M 0 = some (M1, r) ∧ fr wP M M1 ∧ rl M1 r c (sv M s) (mI M 7 0 7) (s_rel c (sv M s)) := by
  obtain ⟨t, ht, e1, e2⟩ := d_ti_n h.2.2.2.2.2.2.2.2.2.2.2.1
  obtain ⟨f, hf, e3, e4⟩ := d_fi_n h.2.2.2.2.2.2.2.2.2.2.2.2
  obtain ⟨N, x, a1, a2, a3, a4, a5⟩ := st_by h hu
  have w7 : wP 7 0 := Or.inl ⟨rfl, rfl⟩
  obtain ⟨A, hA⟩ : ∃ A, A = wI (wI (wI N 7 0 8 1) 7 0 9 1) 7 0 10 0 := ⟨_, rfl⟩
  have fA : fr wP M A := by rw [hA]; exact fr_trans (fr_trans (fr_trans (fr_mono a4 (fun k j z => wP_0 z)) (fr_I w7)) (fr_I w7)) (fr_I w7)
  have tA : tk s M A := (wP_fin hu fA).1
  have hsA : stp A s c := stp_fr h tA.1
  have cvA : ∀ z, cv A z = cv N z := by intro z; rw [hA]; rfl
  have pgA : ∀ z, pg A z = pg N z := by intro z; rw [hA]; rfl
  have RA : mR A = mR N := by rw [hA]; rfl
  obtain ⟨y, hy⟩ : ∃ y, y = 75 * s + t + 1 := ⟨_, rfl⟩
  have cy : cv A y = sv M s t := by rw [cvA, hy]; exact cv_cP a4 (by omega)
  have cx : cv A x = s_by c (sv M s) := by rw [cvA]; exact a2
  have eky : mI A 10 y 0 = cK (sv M s t) := by rw [← cy]; rfl
  have ekx : mI A 10 x 0 = cK (s_by c (sv M s)) := by rw [← cx]; rfl
  have yR : mR A 10 y 6 = some (nu y) := by rw [hy]; exact st_cell hsA (by omega)
  have xR : mR A 10 x 6 = some (nu x) := by rw [RA]; exact a3
  have A7 : mI A 7 0 7 = mI M 7 0 7 := by rw [hA]; simp [pI_I, a4.2.2.2.1 7 0 cP7]
  have A8 : mI A 7 0 8 = 1 := by rw [hA]; simp [pI_I]
  have A9 : mI A 7 0 9 = 1 := by rw [hA]; simp [pI_I]
  have A10 : mI A 7 0 10 = 0 := by rw [hA]; simp [pI_I]
  have h4A : st4 A := by unfold st4; rw [RA, a4.1]; exact h4
  obtain ⟨l1, l2, l3, l4, l5, l6, l7, l8, l9, l10, l11⟩ := hsA.1
  have l2M : mI M 2 0 6 = d_to c := h.1.2.1
  unfold f_Steps_relation s_rel
  rw [h.2.2.2.2.2.2.2.2.2.1, bd_some, h.2.2.2.2.1, bd_some, l2M, e1, (h.2.1.1 s h.2.2.2.1).2, gd_pos (ix_ok (by omega) (by decide)), nI_tn (by omega), h.2.1.2.1 s t h.2.2.2.1 (by omega), bd_some, a1, b2_some, st_eq, st_eq, st_eq, ← hA, ← hy, eky, ekx, l11, l2, l3, e1, e3, e2, e4]
  -- numbers
  have b78 : cK (sv M s t) = 1 → cK (s_by c (sv M s)) = 1 → (¬ d_rf c = 0 → ¬ t = f) → ∃ M1 r, f_Steps_relation_b78 0 A y x = some (M1, r) ∧ fr wP M M1 ∧ rl M1 r c (sv M s) (mI M 7 0 7) (.ok ((fn_tell (d_opn c) (d_nar c) (cX (sv M s t)) (cX (s_by c (sv M s)))).map (s_tn c (sv M s)), (fn_tell (fz_k (d_opn c).toNatClampNeg) (d_nar c) (cX (sv M s t)) (cX (s_by c (sv M s)))).map (s_tn c (sv M s)))) := by
    intro k1 k2 tf
    obtain ⟨k, hk, ek⟩ := hop
    have Xy : pg A (nu y) = cX (sv M s t) := by rw [← cy]; exact (cv_n (Or.inl (by rw [cy]; exact k1))).symm
    have Xx : pg A (nu x) = cX (s_by c (sv M s)) := by rw [← cx]; exact (cv_n (Or.inl (by rw [cx]; exact k2))).symm
    have ny : 10 < nu y := by rw [nu_g (by omega)]; omega
    have nx : 10 < nu x ∨ nu x = 5 := by
      unfold nu
      split
      · exact Or.inr rfl
      · exact Or.inl (by omega)
    unfold f_Steps_relation_b78
    rw [st_eq, h4A.2.1, bd_some, yR, bd_some, pt_cp, bd_some, h4A.2.2.1, bd_some, xR, bd_some, pt_cp, bd_some, hsA.2.2.2.2.2.2.1, bd_some, hsA.2.2.2.2.1, bd_some]
    have p1 : pg (wI A 7 0 10 1) (nu y) = cX (sv M s t) := Xy
    rw [p1]
    have p2 : pg (pn_t (wI A 7 0 10 1) 7 (cX (sv M s t))) (nu x) = cX (s_by c (sv M s)) := by
      rw [pg_L (by omega)]; exact Xx
    rw [p2]
    obtain ⟨B, hB⟩ : ∃ B, B = pn_t (pn_t (wI A 7 0 10 1) 7 (cX (sv M s t))) 8 (cX (s_by c (sv M s))) := ⟨_, rfl⟩
    rw [← hB]
    have fB : fr wP A B := by rw [hB]; exact fr_trans (fr_trans (fr_I w7) (fr_t (Or.inr (Or.inr ⟨rfl, by decide⟩)))) (fr_t (Or.inr (Or.inr ⟨rfl, by decide⟩)))
    have hsB : ps_R B := ps_R_of fB.1 hsA.2.2.1
    have b2c : ¬ wP 2 0 := by rintro (z | z | z) <;> exact absurd z.1 (by decide)
    have l8B : mI B 2 0 12 = d_opn c := by rw [fB.2.2.2.1 2 0 b2c]; exact l8
    have l9B : mI B 2 0 13 = d_nar c := by rw [fB.2.2.2.1 2 0 b2c]; exact l9
    have B7 : pg B 7 = cX (sv M s t) := by rw [hB, pg_L (by decide), pg_t]
    have B8 : pg B 8 = cX (s_by c (sv M s)) := by rw [hB, pg_t]
    rw [l8B, l9B]
    obtain ⟨C, z, c1, c2, c3⟩ := pr_tell (M := B) (op := d_opn c) (nar := d_nar c) (x := 7) (y := 8) hsB (by decide) (by decide) (by decide)
    rw [B7, B8] at c3
    rw [c1, b2_some, st_eq, h4A.2.2.2.1, bd_some, pt_cp, bd_some, h4A.2.2.2.2, bd_some, pt_cp, bd_some]
    have fC : fr wP B C := fr_pq c2 (by
      intro i hi
      rcases hi with r | r | r | r <;> exact Or.inr (Or.inr ⟨rfl, by omega⟩))
    have q1 : pg (wI C 7 0 8 z) (nu y) = cX (sv M s t) := by
      rw [pg_I, pq_g c2 (by omega), hB, pg_L (by omega), pg_L (by omega)]; exact Xy
    rw [q1]
    have q2 : pg (pn_t (wI C 7 0 8 z) 9 (cX (sv M s t))) (nu x) = cX (s_by c (sv M s)) := by
      rw [pg_L (by omega), pg_I, pq_g c2 (by omega), hB, pg_L (by omega), pg_L (by omega)]; exact Xx
    rw [q2]
    obtain ⟨D, hD⟩ : ∃ D, D = pn_t (pn_t (wI C 7 0 8 z) 9 (cX (sv M s t))) 10 (cX (s_by c (sv M s))) := ⟨_, rfl⟩
    rw [← hD]
    have fD : fr wP C D := by rw [hD]; exact fr_trans (fr_trans (fr_I w7) (fr_t (Or.inr (Or.inr ⟨rfl, by decide⟩)))) (fr_t (Or.inr (Or.inr ⟨rfl, by decide⟩)))
    have hsD : ps_R D := ps_R_of fD.1 (ps_R_of fC.1 hsB)
    have l8D : mI D 2 0 12 = d_opn c := by rw [fD.2.2.2.1 2 0 b2c, fC.2.2.2.1 2 0 b2c]; exact l8B
    have l9D : mI D 2 0 13 = d_nar c := by rw [fD.2.2.2.1 2 0 b2c, fC.2.2.2.1 2 0 b2c]; exact l9B
    have D9 : pg D 9 = cX (sv M s t) := by rw [hD, pg_L (by decide), pg_t]
    have D10 : pg D 10 = cX (s_by c (sv M s)) := by rw [hD, pg_t]
    have D7 : pg D 7 = pg C 7 := by rw [hD, pg_L (by decide), pg_L (by decide), pg_I]
    have D8 : pg D 8 = pg C 8 := by rw [hD, pg_L (by decide), pg_L (by decide), pg_I]
    rw [l8D, l9D, ek, gd_pos (ix_ok (by omega) (by decide)), ← ek]
    obtain ⟨E, z2, d1, d2, d3⟩ := pr_tell (M := D) (op := fz_k (d_opn c).toNatClampNeg) (nar := d_nar c) (x := 9) (y := 10) hsD (by decide) (by decide) (by decide)
    rw [D9, D10] at d3
    rw [d1, b2_some, st_eq]
    have fE : fr wP D E := fr_pq d2 (by
      intro i hi
      rcases hi with r | r | r | r <;> exact Or.inr (Or.inr ⟨rfl, by omega⟩))
    have IE : mI E = mI D := d2.1
    have IC : mI C = mI B := c2.1
    have E7 : pg E 7 = pg C 7 := by rw [pq_g d2 (by decide)]; exact D7
    have E8 : pg E 8 = pg C 8 := by rw [pq_g d2 (by decide)]; exact D8
    have D8i : mI D 7 0 8 = z := by
      rw [hD]
      show mI (wI C 7 0 8 z) 7 0 8 = z
      exact pI_same
    have Dk : ∀ g, ¬ g = 8 → mI D 7 0 g = mI B 7 0 g := by
      intro g hg
      rw [hD, ← IC]
      show mI (wI C 7 0 8 z) 7 0 g = mI C 7 0 g
      exact pI_place hg
    have Bk : ∀ g, ¬ g = 10 → mI B 7 0 g = mI A 7 0 g := by
      intro g hg
      rw [hB]
      show mI (wI A 7 0 10 1) 7 0 g = mI A 7 0 g
      exact pI_place hg
    have B10 : mI B 7 0 10 = 1 := by
      rw [hB]
      show mI (wI A 7 0 10 1) 7 0 10 = 1
      exact pI_same
    refine ⟨_, 0, rfl, fr_trans (fr_trans (fr_trans (fr_trans (fr_trans fA fB) fC) fD) fE) (fr_I w7), rfl, ?_, ?_, ?_, ?_⟩
    · rw [show mI (wI E 7 0 9 z2) 7 0 8 = mI E 7 0 8 from pI_place (by decide), IE, D8i]
      revert c3
      cases fn_tell (d_opn c) (d_nar c) (cX (sv M s t)) (cX (s_by c (sv M s))) with
      | none => exact fun w => w
      | some q => exact fun w => w.1
    · rw [show mI (wI E 7 0 9 z2) 7 0 9 = z2 from pI_same]
      revert d3
      cases fn_tell (fz_k (d_opn c).toNatClampNeg) (d_nar c) (cX (sv M s t)) (cX (s_by c (sv M s))) with
      | none => exact fun w => w
      | some q => exact fun w => w.1
    · rw [show mI (wI E 7 0 9 z2) 7 0 7 = mI E 7 0 7 from pI_place (by decide), IE, Dk 7 (by decide), Bk 7 (by decide), A7]
    · refine tld_1 ?_ h.2.2.2.2.2.2.2.2.2.2.2.1 h.2.2.2.2.2.2.2.2.2.2.2.2 (by rw [e2]; exact k1) ?_ ?_ ?_ ?_
      · rw [show mI (wI E 7 0 9 z2) 7 0 10 = mI E 7 0 10 from pI_place (by decide), IE, Dk 10 (by decide), B10]
      · intro g0
        unfold s_by at k2
        rw [if_neg g0] at k2
        exact k2
      · intro g0
        rw [e2, e4]
        exact tf g0
      · intro q hq
        rw [hq] at c3
        rw [pg_I, pg_I, E7, E8]
        exact c3.2
      · intro q hq
        rw [hq] at d3
        rw [pg_I, pg_I]
        exact d3.2
  -- the end of the packet
  have b325 : ∃ M1 r, f_Steps_relation_b325 0 A y x = some (M1, r) ∧ fr wP M M1 ∧ rl M1 r c (sv M s) (mI M 7 0 7) (if cK (sv M s t) = 4 ∧ cK (s_by c (sv M s)) = 5 then s_end (sv M s t) (d_opn c) (sv M s) else if cK (sv M s t) = 5 ∧ cK (s_by c (sv M s)) = 4 then s_end (s_by c (sv M s)) (s_turn (d_opn c)) (sv M s) else .error 12) := by
    have bad : ∃ M1 r, (some (A, (12 : Int32)) : Option (me_M × Int32)) = some (M1, r) ∧ fr wP M M1 ∧ rl M1 r c (sv M s) (mI M 7 0 7) (.error 12) := ⟨A, 12, rfl, fA, rfl⟩
    have b354 : ¬ (cK (sv M s t) = 4 ∧ cK (s_by c (sv M s)) = 5) → ∃ M1 r, f_Steps_relation_b354 0 A y x = some (M1, r) ∧ fr wP M M1 ∧ rl M1 r c (sv M s) (mI M 7 0 7) (if cK (sv M s t) = 4 ∧ cK (s_by c (sv M s)) = 5 then s_end (sv M s t) (d_opn c) (sv M s) else if cK (sv M s t) = 5 ∧ cK (s_by c (sv M s)) = 4 then s_end (s_by c (sv M s)) (s_turn (d_opn c)) (sv M s) else .error 12) := by
      intro n45
      unfold f_Steps_relation_b354
      rw [eky, ekx, if_neg n45]
      by_cases k5 : cK (sv M s t) = 5
      · rw [if_pos k5]
        by_cases k4 : cK (s_by c (sv M s)) = 4
        · rw [if_pos k4, if_pos ⟨k5, k4⟩, hsA.2.2.2.2.1, bd_some, l8]
          have et : f_Steps_turned A 0 (d_opn c) = some (A, s_turn (d_opn c)) := by
            obtain ⟨k, hk, ek⟩ := hop
            rw [ek]
            have : ∀ k, k < 12 → f_Steps_turned A 0 (nI k) = some (A, s_turn (nI k)) := by
              intro k hk
              unfold f_Steps_turned s_turn
              by_cases g1 : nI k = 1
              · rw [if_pos g1, if_pos g1]
              rw [if_neg g1, if_neg g1]
              by_cases g2 : nI k = 2
              · rw [if_pos g2, if_pos g2]
              rw [if_neg g2, if_neg g2]
              by_cases g7 : nI k = 7
              · rw [if_neg (by rw [g7]; decide), if_neg (by rw [g7]; decide), if_neg (by rw [g7]; decide), if_neg (by rw [g7]; decide), if_pos g7, if_pos g7]
              rw [if_neg g7, if_neg g7]
              by_cases g8 : nI k = 8
              · rw [if_neg (by rw [g8]; decide), if_neg (by rw [g8]; decide), if_neg (by rw [g8]; decide), if_neg (by rw [g8]; decide), if_pos g8, if_pos g8]
              rw [if_neg g8, if_neg g8, ite_self, ite_self, ite_self, ite_self]
            exact this k hk
          rw [et, b2_some]
          obtain ⟨M1, r, b1', b2', b3'⟩ := st_end (c := c) (rel := s_turn (d_opn c)) (σ := sv M s) _ cx k4 A8 A9
          rw [A7] at b3'
          rw [b1', b2_some]
          exact ⟨M1, r, rfl, fr_trans fA b2', b3'⟩
        · rw [if_neg k4, if_neg (fun z => k4 z.2)]; exact bad
      · rw [if_neg k5, if_neg (fun z => k5 z.1)]; exact bad
    unfold f_Steps_relation_b325
    rw [eky, ekx]
    by_cases k4 : cK (sv M s t) = 4
    · rw [if_pos k4]
      by_cases k5 : cK (s_by c (sv M s)) = 5
      · rw [if_pos k5, if_pos ⟨k4, k5⟩, hsA.2.2.2.2.1, bd_some, l8]
        obtain ⟨M1, r, b1', b2', b3'⟩ := st_end (c := c) (rel := d_opn c) (σ := sv M s) _ cy k4 A8 A9
        rw [A7] at b3'
        rw [b1', b2_some]
        exact ⟨M1, r, rfl, fr_trans fA b2', b3'⟩
      · rw [if_neg k5]; exact b354 (fun z => k5 z.2)
    · rw [if_neg k4]; exact b354 (fun z => k4 z.1)
  -- a value or 0
  have b275 : (d_opn c = 0 ∨ d_opn c = 4) → (cK (sv M s t) = 8 ∨ cK (s_by c (sv M s)) = 8) → ∃ M1 r, f_Steps_relation_b275 0 A y x = some (M1, r) ∧ fr wP M M1 ∧ rl M1 r c (sv M s) (mI M 7 0 7) (.ok (some (s_dec (if cK (sv M s t) = 8 then cI (sv M s t) else cI (s_by c (sv M s))) (if d_opn c = 0 then 1 else 7) (sv M s)), some (s_dec (if cK (sv M s t) = 8 then cI (sv M s t) else cI (s_by c (sv M s))) (if d_opn c = 0 then 7 else 1) (sv M s)))) := by
    intro ho k8
    have b301 : ∀ id : Int32, ∃ M1 r, f_Steps_relation_b301 0 (wI A 7 0 10 2) id 0 = some (M1, r) ∧ fr wP M M1 ∧ rl M1 r c (sv M s) (mI M 7 0 7) (.ok (some (s_dec id (if d_opn c = 0 then 1 else 7) (sv M s)), some (s_dec id (if d_opn c = 0 then 7 else 1) (sv M s)))) := by
      intro id
      unfold f_Steps_relation_b301
      rw [st_eq, show mR (wI A 7 0 10 2) 7 0 0 = some 0 from h4A.1, bd_some, show mI (wI (wI A 7 0 10 2) 7 0 11 id) 2 0 12 = d_opn c from l8]
      have z14 : ∀ z : Int32, (z = 0 ∨ z = 1) → ∃ M1 r, st (wI (wI (wI A 7 0 10 2) 7 0 11 id) 7 0 14 z) (fun M20 => some (M20, (0 : Int32))) = some (M1, r) ∧ fr wP M M1 ∧ rl M1 r c (sv M s) (mI M 7 0 7) (.ok (some (s_dec id (if z = 1 then 1 else 7) (sv M s)), some (s_dec id (if z = 1 then 7 else 1) (sv M s)))) := by
        intro z hz
        refine ⟨_, 0, rfl, fr_trans (fr_trans (fr_trans fA (fr_I w7)) (fr_I w7)) (fr_I w7), rfl, ?_, ?_, ?_, tld_2 ?_ ?_ ?_ hz⟩
        · simp [pI_I, A8]
        · simp [pI_I, A9]
        · simp [pI_I, A7]
        · simp [pI_I]
        · simp [pI_I]
        · simp [pI_I]
      by_cases g0 : d_opn c = 0
      · rw [if_pos g0, if_pos g0, if_pos g0]
        exact z14 1 (Or.inr rfl)
      · rw [if_neg g0, if_neg g0, if_neg g0]
        exact z14 0 (Or.inl rfl)
    unfold f_Steps_relation_b275
    rw [st_eq, show mI (wI A 7 0 10 2) 10 y 0 = cK (sv M s t) from eky]
    by_cases k8t : cK (sv M s t) = 8
    · have ei : mI (wI A 7 0 10 2) 10 y 3 = cI (sv M s t) := by
        rw [← cy]
        have k8' : mI A 10 y 0 = 8 := by rw [eky]; exact k8t
        show mI A 10 y 3 = _
        unfold cv cn
        exact (if_pos (Or.inr k8')).symm
      rw [if_pos k8t, ei, if_pos k8t]
      exact b301 _
    · have k8x : cK (s_by c (sv M s)) = 8 := k8.elim (fun z => absurd z k8t) id
      have ei : mI (wI A 7 0 10 2) 10 x 3 = cI (s_by c (sv M s)) := by
        rw [← cx]
        have k8' : mI A 10 x 0 = 8 := by rw [ekx]; exact k8x
        show mI A 10 x 3 = _
        unfold cv cn
        exact (if_pos (Or.inr k8')).symm
      rw [if_neg k8t, ei, if_neg k8t]
      exact b301 _
  have b199 : ∃ M1 r, f_Steps_relation_b199 0 A y x = some (M1, r) ∧ fr wP M M1 ∧ rl M1 r c (sv M s) (mI M 7 0 7) (if ¬ d_nar c = 0 then .error 12 else if (d_opn c = 0 ∨ d_opn c = 4) ∧ ((cK (sv M s t) = 8 ∧ c_zero (s_by c (sv M s))) ∨ (c_zero (sv M s t) ∧ cK (s_by c (sv M s)) = 8)) then .ok (some (s_dec (if cK (sv M s t) = 8 then cI (sv M s t) else cI (s_by c (sv M s))) (if d_opn c = 0 then 1 else 7) (sv M s)), some (s_dec (if cK (sv M s t) = 8 then cI (sv M s t) else cI (s_by c (sv M s))) (if d_opn c = 0 then 7 else 1) (sv M s))) else if cK (sv M s t) = 4 ∧ cK (s_by c (sv M s)) = 5 then s_end (sv M s t) (d_opn c) (sv M s) else if cK (sv M s t) = 5 ∧ cK (s_by c (sv M s)) = 4 then s_end (s_by c (sv M s)) (s_turn (d_opn c)) (sv M s) else .error 12) := by
    unfold f_Steps_relation_b199 f_Steps_relation_b233
    rw [hsA.2.2.2.2.1, bd_some, l9, l8]
    by_cases gn : d_nar c = 0
    · rw [if_pos gn, if_neg (show ¬ ¬ d_nar c = 0 from fun z => z gn)]
      have b259 : (d_opn c = 0 ∨ d_opn c = 4) → ¬ (cK (sv M s t) = 8 ∧ c_zero (s_by c (sv M s))) → ∃ M1 r, f_Steps_relation_b259 0 A y x = some (M1, r) ∧ fr wP M M1 ∧ rl M1 r c (sv M s) (mI M 7 0 7) (if (d_opn c = 0 ∨ d_opn c = 4) ∧ ((cK (sv M s t) = 8 ∧ c_zero (s_by c (sv M s))) ∨ (c_zero (sv M s t) ∧ cK (s_by c (sv M s)) = 8)) then .ok (some (s_dec (if cK (sv M s t) = 8 then cI (sv M s t) else cI (s_by c (sv M s))) (if d_opn c = 0 then 1 else 7) (sv M s)), some (s_dec (if cK (sv M s t) = 8 then cI (sv M s t) else cI (s_by c (sv M s))) (if d_opn c = 0 then 7 else 1) (sv M s))) else if cK (sv M s t) = 4 ∧ cK (s_by c (sv M s)) = 5 then s_end (sv M s t) (d_opn c) (sv M s) else if cK (sv M s t) = 5 ∧ cK (s_by c (sv M s)) = 4 then s_end (s_by c (sv M s)) (s_turn (d_opn c)) (sv M s) else .error 12) := by
        intro ho n1
        unfold f_Steps_relation_b259
        rw [ce_zero yR, b2_some, cy, ekx]
        by_cases gz : c_zero (sv M s t)
        · rw [if_pos gz, if_neg (by decide)]
          by_cases k8 : cK (s_by c (sv M s)) = 8
          · rw [if_pos k8, if_pos ⟨ho, Or.inr ⟨gz, k8⟩⟩]; exact b275 ho (Or.inr k8)
          · rw [if_neg k8, if_neg (fun z => z.2.elim n1 (fun q => k8 q.2))]; exact b325
        · rw [if_neg gz, if_pos rfl, if_neg (fun z => z.2.elim n1 (fun q => gz q.1))]; exact b325
      have b238 : (d_opn c = 0 ∨ d_opn c = 4) → ∃ M1 r, f_Steps_relation_b238 0 A y x 1 = some (M1, r) ∧ fr wP M M1 ∧ rl M1 r c (sv M s) (mI M 7 0 7) (if (d_opn c = 0 ∨ d_opn c = 4) ∧ ((cK (sv M s t) = 8 ∧ c_zero (s_by c (sv M s))) ∨ (c_zero (sv M s t) ∧ cK (s_by c (sv M s)) = 8)) then .ok (some (s_dec (if cK (sv M s t) = 8 then cI (sv M s t) else cI (s_by c (sv M s))) (if d_opn c = 0 then 1 else 7) (sv M s)), some (s_dec (if cK (sv M s t) = 8 then cI (sv M s t) else cI (s_by c (sv M s))) (if d_opn c = 0 then 7 else 1) (sv M s))) else if cK (sv M s t) = 4 ∧ cK (s_by c (sv M s)) = 5 then s_end (sv M s t) (d_opn c) (sv M s) else if cK (sv M s t) = 5 ∧ cK (s_by c (sv M s)) = 4 then s_end (s_by c (sv M s)) (s_turn (d_opn c)) (sv M s) else .error 12) := by
        intro ho
        unfold f_Steps_relation_b238
        rw [if_neg (by decide), eky]
        by_cases k8 : cK (sv M s t) = 8
        · rw [if_pos k8, ce_zero xR, b2_some, cx]
          by_cases gz : c_zero (s_by c (sv M s))
          · rw [if_pos gz, if_neg (by decide)]
            have q := b275 ho (Or.inl k8)
            rw [if_pos (show (d_opn c = 0 ∨ d_opn c = 4) ∧ ((cK (sv M s t) = 8 ∧ c_zero (s_by c (sv M s))) ∨ (c_zero (sv M s t) ∧ cK (s_by c (sv M s)) = 8)) from ⟨ho, Or.inl ⟨k8, gz⟩⟩)]
            exact q
          · rw [if_neg gz, if_pos rfl]; exact b259 ho (fun z => gz z.2)
        · rw [if_neg k8]; exact b259 ho (fun z => k8 z.1)
      by_cases g0 : d_opn c = 0
      · have q := b238 (Or.inl g0)
        simp only [if_pos g0] at q ⊢
        exact q
      by_cases g4 : d_opn c = 4
      · have q := b238 (Or.inr g4)
        simp only [if_neg g0, if_pos g4] at q ⊢
        exact q
      simp only [if_neg g0, if_neg g4]
      rw [if_neg (show ¬ ((d_opn c = 0 ∨ d_opn c = 4) ∧ ((cK (sv M s t) = 8 ∧ c_zero (s_by c (sv M s))) ∨ (c_zero (sv M s t) ∧ cK (s_by c (sv M s)) = 8))) from fun z => z.1.elim g0 g4)]
      unfold f_Steps_relation_b238
      rw [if_pos rfl]
      exact b325
    · rw [if_neg gn, if_pos gn]
      exact ⟨A, 12, rfl, fA, rfl⟩
  by_cases k1 : cK (sv M s t) = 1
  · rw [if_pos k1]
    by_cases k2 : cK (s_by c (sv M s)) = 1
    · rw [if_pos k2, if_pos (show cK (sv M s t) = 1 ∧ cK (s_by c (sv M s)) = 1 from ⟨k1, k2⟩)]
      by_cases g0 : d_rf c = 0
      · rw [if_pos g0, if_neg (show ¬ (¬ d_rf c = 0 ∧ t = f) from fun z => z.1 g0)]
        exact b78 k1 k2 (fun z => absurd g0 z)
      · rw [if_neg g0]
        by_cases tf : t = f
        · rw [if_pos (by rw [tf]), if_pos ⟨g0, tf⟩]
          exact ⟨A, 0, rfl, fA, rfl, A8, A9, A7, tld_0 A10⟩
        · rw [if_neg (show ¬ nI t = nI f from fun z => tf (by
            have := congrArg Int32.toNatClampNeg z
            rw [nI_tn (by omega), nI_tn (by omega)] at this
            exact this)), if_neg (show ¬ (¬ d_rf c = 0 ∧ t = f) from fun z => tf z.2)]
          exact b78 k1 k2 (fun _ => tf)
    · rw [if_neg k2, if_neg (show ¬ (cK (sv M s t) = 1 ∧ cK (s_by c (sv M s)) = 1) from fun z => k2 z.2)]
      exact b199
  · rw [if_neg k1, if_neg (show ¬ (cK (sv M s t) = 1 ∧ cK (s_by c (sv M s)) = 1) from fun z => k1 z.1)]
    exact b199
end CL
