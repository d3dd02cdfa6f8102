/-! PURE: jumps by a relation: what they find out, and how a state is told. -/
def s_tn (c : Int64) (σ : sT) (q : fn_N × fn_N) : sT := if d_rf c = 0 then up σ (d_ti c) (s_num q.1) else up (up σ (d_ti c) (s_num q.1)) (d_fi c) (s_num q.2)
def s_dec1 (id k : Int32) (x : sC) : sC := if cK x = 8 ∧ cI x = id then cn k 0 (cM x) 0 0 0 (fn_ex 0) else x
def s_room1 (id r : Int32) (x : sC) : sC := if cK x = 4 ∧ cI x = id then (cK x, cPl x, cM x, cI x, jimax (cR x) r, cW x, cX x) else x
abbrev sG : Type := Except Int32 (Option sT × Option sT)
def s_dec (id k : Int32) (σ : sT) : sT := fun i => s_dec1 id k (σ i)
def s_room (id r : Int32) (σ : sT) : sT := fun i => s_room1 id r (σ i)
def s_end (p : sC) (rel : Int32) (σ : sT) : sG :=
  if rel = 1 then .ok (some (s_room (cI p) 0 σ), some (s_room (cI p) (cPl p) σ)) else if rel = 2 then .ok (some (s_room (cI p) 0 σ), some (s_room (cI p) (cPl p + 1) σ)) else if rel = 7 then .ok (some (s_room (cI p) (cPl p + 1) σ), some (s_room (cI p) 0 σ)) else if rel = 8 then .ok (some (s_room (cI p) (cPl p) σ), some (s_room (cI p) 0 σ)) else .error 12
def s_turn (rel : Int32) : Int32 := if rel = 1 then 7 else if rel = 2 then 8 else if rel = 7 then 1 else if rel = 8 then 2 else rel
abbrev c_zero (a : sC) : Prop := cK a = 1 ∧ (cX a).2.1 = 0 ∧ (cX a).1 = 0
def s_rel (c : Int64) (σ : sT) : sG :=
  if cK (σ (d_ti c)) = 1 ∧ cK (s_by c σ) = 1 then (if ¬ d_rf c = 0 ∧ d_ti c = d_fi c then .ok (some σ, some σ) else .ok ((fn_tell (d_opn c) (d_nar c) (cX (σ (d_ti c))) (cX (s_by c σ))).map (s_tn c σ), (fn_tell (fz_k (d_opn c).toNatClampNeg) (d_nar c) (cX (σ (d_ti c))) (cX (s_by c σ))).map (s_tn c σ)))
  else if ¬ d_nar c = 0 then .error 12
  else if (d_opn c = 0 ∨ d_opn c = 4) ∧ ((cK (σ (d_ti c)) = 8 ∧ c_zero (s_by c σ)) ∨ (c_zero (σ (d_ti c)) ∧ cK (s_by c σ) = 8)) then .ok (some (s_dec (if cK (σ (d_ti c)) = 8 then cI (σ (d_ti c)) else cI (s_by c σ)) (if d_opn c = 0 then 1 else 7) σ), some (s_dec (if cK (σ (d_ti c)) = 8 then cI (σ (d_ti c)) else cI (s_by c σ)) (if d_opn c = 0 then 7 else 1) σ))
  else if cK (σ (d_ti c)) = 4 ∧ cK (s_by c σ) = 5 then s_end (σ (d_ti c)) (d_opn c) σ
  else if cK (σ (d_ti c)) = 5 ∧ cK (s_by c σ) = 4 then s_end (s_by c σ) (s_turn (d_opn c)) σ
  else .error 12
def st4 (M : me_M) : Prop := mR M 7 0 0 = some 0 ∧ mR M 7 0 15 = some 7 ∧ mR M 7 0 16 = some 8 ∧ mR M 7 0 17 = some 9 ∧ mR M 7 0 18 = some 10
/-- the Steps have it in them to tell a state its way -/
def tld (M : me_M) (c : Int64) (σ : sT) (go fall : Option sT) : Prop := ∀ (N : me_M) (w : Nat) (τ : sT) (g : Int32), mI N 7 0 = mI M 7 0 → st4 N → (∀ j, 7 ≤ j → j < 11 → pg N j = pg M j) → lk N 0 c → ss N → w < mN N 9 → (∃ u, us N w u) → (∀ i, i < 75 → sv N w i = σ i) → ((g = 1 ∧ go = some τ) ∨ (g = 0 ∧ fall = some τ)) → ∃ N1, f_Steps_tellWay N 0 w g = some N1 ∧ (∀ i, i < 75 → sv N1 w i = τ i) ∧ (∃ u, us N1 w u) ∧ fr (cS w) N N1
section CJ
variable {M M1 M2 : me_M} {s : Nat} {c : Int64}
theorem cs9 {w j : Nat} : ¬ cS w 9 j := fun z => by rcases cS_k z with r | r <;> exact absurd r (by decide)
theorem cs7 {w j : Nat} : ¬ cS w 7 j := fun z => by rcases cS_k z with r | r <;> exact absurd r (by decide)
theorem cs2 {w j : Nat} : ¬ cS w 2 j := fun z => by rcases cS_k z with r | r <;> exact absurd r (by decide)
/-- what is told of one cell -/
def tw_f (kd id nk r : Int32) (x : sC) : sC := if kd = 2 then s_dec1 id nk x else if kd = 3 then s_room1 id r x else x
theorem tw_bare {kd id nk r : Int32} : tw_f kd id nk r (s_bare 0) = s_bare 0 := by
  unfold tw_f s_dec1 s_room1
  split
  · rfl
  · split <;> rfl
theorem cv_room {N : me_M} {y : Nat} {v : Int32} (h : cK (cv N y) = 4) : cv (wI N 10 y 4 v) y = (cK (cv N y), cPl (cv N y), cM (cv N y), cI (cv N y), v, cW (cv N y), cX (cv N y)) := by
  have h2 : mI N 10 y 0 = 4 := h
  unfold cv cn
  simp [pI_I, pg_I, h2]
theorem tw_cell {N : me_M} {y w : Nat} (hy : mR N 10 y 6 = some (nu y)) {kd id nk r : Int32} (hk : (kd = 2 ∧ (nk = 1 ∨ nk = 7)) ∨ kd = 3) (h10 : mI N 7 0 10 = kd) (h11 : mI N 7 0 11 = id) {K : me_M → Int32 → Int32 → Int32 → Option me_M} {y5 : Int32} : ∃ N1, b2 (f_Cell_hasIdentity N y) (fun (M10 : me_M) (r11 : Int32) => (if r11 = 0 then K M10 nk r (y5 + 1) else (if (mI M10 10 y 3) = (mI M10 7 0 11) then (if (mI M10 7 0 10) = 2 then (if (mI M10 10 y 0) = 8 then st (mI M10 10 y 2) (fun (v16 : Int32) => bd (f_Cell_become M10 y nk (0 : Int32)) (fun (M17 : me_M) => st (wI M17 10 y 2 v16) (fun (M18 : me_M) => K M18 nk r (y5 + 1)))) else f_Steps_tellWay_b211 K 0 w M10 nk r y5 y) else f_Steps_tellWay_b211 K 0 w M10 nk r y5 y) else K M10 nk r (y5 + 1)))) = K N1 nk r (y5 + 1) ∧ cv N1 y = tw_f kd id nk r (cv N y) ∧ fr (cP y) N N1 := by
  have ek : mI N 10 y 0 = cK (cv N y) := rfl
  rw [ce_ident, b2_some]
  unfold f_Steps_tellWay_b211
  rw [h10, h11, ek]
  unfold tw_f s_dec1 s_room1
  have n48 : ∀ a : Int32, a = 4 → ¬ a = 8 := by intro a z; rw [z]; decide
  by_cases g : cK (cv N y) = 4 ∨ cK (cv N y) = 8
  · rw [if_pos g, if_neg (by decide)]
    have ei : mI N 10 y 3 = cI (cv N y) := by
      have g' : mI N 10 y 0 = 4 ∨ mI N 10 y 0 = 8 := g
      unfold cv cn
      exact (if_pos g').symm
    rw [ei]
    by_cases gi : cI (cv N y) = id
    · rw [if_pos gi]
      rcases hk with ⟨k2, hnk⟩ | k3
      · have k3 : ¬ kd = 3 := by rw [k2]; decide
        rw [if_pos k2, if_pos k2, if_neg k3]
        by_cases g8 : cK (cv N y) = 8
        · rw [if_pos g8, if_pos ⟨g8, gi⟩, st_eq]
          obtain ⟨A, a1, a2, a3⟩ := ce_become (M := N) (c := y) (k := nk) (p := 0) hy
          rw [a1, bd_some, st_eq]
          have em : mI N 10 y 2 = cM (cv N y) := by
            have g8' : mI N 10 y 0 = 8 := g8
            unfold cv cn
            exact (if_pos (Or.inr (Or.inr g8'))).symm
          refine ⟨_, rfl, ?_, fr_trans a3 (fr_I cP0)⟩
          rw [em]
          generalize cM (cv N y) = m
          have b0 : mI A 10 y 0 = nk := congrArg (fun z : sC => z.1) a2
          have q : cv A y = cn nk 0 0 0 0 (mI N 10 y 5) (fn_ex 0) := a2
          unfold cv at q ⊢
          rw [b0] at q
          rcases hnk with r1 | r1
          · subst r1
            simp only [pI_I, b0, pg_I]
            unfold cn at q ⊢
            simp at q ⊢
            exact q
          · subst r1
            simp only [pI_I, b0, pg_I]
            unfold cn at q ⊢
            simp at q ⊢
            exact ⟨q.1, q.2.2⟩
        · rw [if_neg g8, if_neg (fun z => g8 z.1)]
          exact ⟨N, rfl, rfl, fr_refl⟩
      · have k2 : ¬ kd = 2 := by rw [k3]; decide
        rw [if_neg k2, if_neg k2, if_pos k3, if_pos k3]
        by_cases g4 : cK (cv N y) = 4
        · have er : mI N 10 y 4 = cR (cv N y) := by
            have g4' : mI N 10 y 0 = 4 := g4
            unfold cv cn
            exact (if_pos g4').symm
          rw [if_pos g4, if_pos ⟨g4, gi⟩, st_eq, er]
          exact ⟨_, rfl, cv_room g4, fr_I cP0⟩
        · rw [if_neg g4, if_neg (fun z => g4 z.1)]
          exact ⟨N, rfl, rfl, fr_refl⟩
    · rw [if_neg gi, if_neg (show ¬ (cK (cv N y) = 8 ∧ cI (cv N y) = id) from fun z => gi z.2), if_neg (show ¬ (cK (cv N y) = 4 ∧ cI (cv N y) = id) from fun z => gi z.2), ite_self, ite_self]
      exact ⟨N, rfl, rfl, fr_refl⟩
  · rw [if_neg g, if_pos rfl, if_neg (show ¬ (cK (cv N y) = 8 ∧ cI (cv N y) = id) from fun z => g (Or.inr z.1)), if_neg (show ¬ (cK (cv N y) = 4 ∧ cI (cv N y) = id) from fun z => g (Or.inl z.1)), ite_self, ite_self]
    exact ⟨N, rfl, rfl, fr_refl⟩
theorem tw_loop {w u : Nat} {kd id nk r : Int32} (hk : (kd = 2 ∧ (nk = 1 ∨ nk = 7)) ∨ kd = 3) (hs : ss M) (hW : w < mN M 9) (hu : us M w u) (h10 : mI M 7 0 10 = kd) (h11 : mI M 7 0 11 = id) : ∀ (k a fu : Nat) (N : me_M), fr (cS w) M N → a + k = u → k < fu → (∀ i, i < 75 → sv N w i = if i < a then tw_f kd id nk r (sv M w i) else sv M w i) → ∃ N1, f_Steps_tellWay_l128 0 w fu N nk r (nI a) = some N1 ∧ (∀ i, i < 75 → sv N1 w i = tw_f kd id nk r (sv M w i)) ∧ us N1 w u ∧ fr (cS w) M N1 := by
  have hu2 := hu.2.1
  intro k
  induction k with
  | zero =>
    intro a fu N hN ha hf hv
    obtain ⟨f2, rfl⟩ : ∃ f2, fu = f2 + 1 := ⟨fu - 1, by omega⟩
    have e : mI N 9 w 1 = nI u := by rw [hN.2.2.2.1 9 w cs9]; exact hu.2.2.1
    rw [f_Steps_tellWay_l128, e, if_pos ((nI_lei (by omega) (by omega)).mpr (by omega))]
    have v : ∀ i, i < 75 → sv N w i = tw_f kd id nk r (sv M w i) := by
      intro i hi
      rw [hv i hi]
      by_cases g : i < a
      · rw [if_pos g]
      · rw [if_neg g, hu.2.2.2 i (by omega) hi, tw_bare]
    refine ⟨N, rfl, v, ⟨hu.1, hu.2.1, e, ?_⟩, hN⟩
    intro i h1 h2
    rw [v i h2, hu.2.2.2 i h1 h2, tw_bare]
  | succ k ih =>
    intro a fu N hN ha hf hv
    obtain ⟨f2, rfl⟩ : ∃ f2, fu = f2 + 1 := ⟨fu - 1, by omega⟩
    have e : mI N 9 w 1 = nI u := by rw [hN.2.2.2.1 9 w cs9]; exact hu.2.2.1
    have hsN : ss N := ss_of hN.1 hN.2.1 hN.2.2.1 hs
    have hWN : w < mN N 9 := by rw [hN.2.1]; exact hW
    have h10N : mI N 7 0 10 = kd := by rw [hN.2.2.2.1 7 0 cs7]; exact h10
    have h11N : mI N 7 0 11 = id := by rw [hN.2.2.2.1 7 0 cs7]; exact h11
    rw [f_Steps_tellWay_l128, e, if_neg (fun z => by have := (nI_lei (by omega) (by omega)).mp z; omega), (hsN.1 w hWN).1, bd_some, (hsN.1 w hWN).2, gd_pos (ix_ok (by omega) (by decide)), nI_tn (by omega), hsN.2.1 w a hWN (by omega), bd_some]
    obtain ⟨N1, a1, a2, a3⟩ := tw_cell (N := N) (y := 75 * w + a + 1) (w := w) (K := f_Steps_tellWay_l128 0 w f2) (y5 := nI a) (nk := nk) (r := r) (hsN.2.2 _ (by omega)) hk h10N h11N
    rw [a1, nI_s]
    refine ih (a + 1) f2 N1 (fr_trans hN (fr_cS (by omega) a3)) (by omega) (by omega) ?_
    intro i hi
    by_cases g : i = a
    · subst g
      rw [if_pos (by omega)]
      have z := hv i hi
      rw [if_neg (by omega)] at z
      rw [← z]
      exact a2
    · have z : sv N1 w i = sv N w i := cv_cP a3 (by omega)
      rw [z, hv i hi]
      by_cases g2 : i < a
      · rw [if_pos g2, if_pos (by omega)]
      · rw [if_neg g2, if_neg (by omega)]
theorem tw_23 {N : me_M} {w u : Nat} {kd id nk r : Int32} (hk : (kd = 2 ∧ (nk = 1 ∨ nk = 7)) ∨ kd = 3) (hs : ss N) (hW : w < mN N 9) (hu : us N w u) (h10 : mI N 7 0 10 = kd) (h11 : mI N 7 0 11 = id) : ∃ N1, f_Steps_tellWay_l128 0 w fuel N nk r 0 = some N1 ∧ (∀ i, i < 75 → sv N1 w i = tw_f kd id nk r (sv N w i)) ∧ (∃ u, us N1 w u) ∧ fr (cS w) N N1 := by
  obtain ⟨N1, a1, a2, a3, a4⟩ := tw_loop (r := r) hk hs hW hu h10 h11 u 0 fuel N fr_refl (by omega) (by have := hu.2.1; unfold fuel; omega) (fun i _ => by rw [if_neg (by omega)])
  exact ⟨N1, a1, a2, ⟨u, a3⟩, a4⟩
/-- told: nothing -/
theorem tld_0 {σ : sT} (h : mI M 7 0 10 = 0) : tld M c σ (some σ) (some σ) := by
  intro N w τ g e7 _ _ _ _ _ hu hv hg
  have e10 : mI N 7 0 10 = 0 := by rw [e7]; exact h
  have ht : τ = σ := by
    rcases hg with z | z
    · exact (Option.some.inj z.2).symm
    · exact (Option.some.inj z.2).symm
  unfold f_Steps_tellWay
  rw [e10, if_neg (by decide), if_pos rfl]
  exact ⟨N, rfl, fun i hi => by rw [ht]; exact hv i hi, hu, fr_refl⟩
theorem tld_2 {σ : sT} {id z : Int32} (h : mI M 7 0 10 = 2) (h11 : mI M 7 0 11 = id) (h14 : mI M 7 0 14 = z) (hz : z = 0 ∨ z = 1) : tld M c σ (some (s_dec id (if z = 1 then 1 else 7) σ)) (some (s_dec id (if z = 1 then 7 else 1) σ)) := by
  intro N w τ g e7 _ _ _ hs hW hu hv hg
  obtain ⟨u, hu⟩ := hu
  have e10 : mI N 7 0 10 = 2 := by rw [e7]; exact h
  have e11 : mI N 7 0 11 = id := by rw [e7]; exact h11
  have e14 : mI N 7 0 14 = z := by rw [e7]; exact h14
  unfold f_Steps_tellWay f_Steps_tellWay_b107
  rw [e10, if_neg (by decide), if_neg (by decide), e14, st_eq, st_eq, st_eq, st_eq]
  have go : ∀ nk r : Int32, (nk = 1 ∨ nk = 7) → τ = s_dec id nk σ → ∃ N1, f_Steps_tellWay_l128 0 w fuel N nk r 0 = some N1 ∧ (∀ i, i < 75 → sv N1 w i = τ i) ∧ (∃ u, us N1 w u) ∧ fr (cS w) N N1 := by
    intro nk r hn ht
    obtain ⟨N1, a1, a2, a3, a4⟩ := tw_23 (N := N) (nk := nk) (r := r) (Or.inl ⟨rfl, hn⟩) hs hW hu e10 e11
    refine ⟨N1, a1, ?_, a3, a4⟩
    intro i hi
    rw [a2 i hi, hv i hi, ht]
    rfl
  rcases hg with ⟨g1, t1⟩ | ⟨g1, t1⟩
  · have ht := (Option.some.inj t1).symm
    subst g1
    rcases hz with z0 | z1
    · subst z0
      rw [if_neg (by decide), if_neg (by decide)]
      exact go 7 _ (Or.inr rfl) (by rw [ht, if_neg (by decide)])
    · subst z1
      rw [if_pos rfl, if_neg (by decide)]
      exact go 1 _ (Or.inl rfl) (by rw [ht, if_pos rfl])
  · have ht := (Option.some.inj t1).symm
    subst g1
    rcases hz with z0 | z1
    · subst z0
      rw [if_pos rfl, if_pos rfl]
      exact go 1 _ (Or.inl rfl) (by rw [ht, if_neg (by decide)])
    · subst z1
      rw [if_neg (by decide), if_pos rfl]
      exact go 7 _ (Or.inr rfl) (by rw [ht, if_pos rfl])
theorem tld_3 {σ : sT} {id rg2 rf2 : Int32} (h : mI M 7 0 10 = 3) (h11 : mI M 7 0 11 = id) (h12 : mI M 7 0 12 = rg2) (h13 : mI M 7 0 13 = rf2) : tld M c σ (some (s_room id rg2 σ)) (some (s_room id rf2 σ)) := by
  intro N w τ g e7 _ _ _ hs hW hu hv hg
  obtain ⟨u, hu⟩ := hu
  have e10 : mI N 7 0 10 = 3 := by rw [e7]; exact h
  have e11 : mI N 7 0 11 = id := by rw [e7]; exact h11
  have e12 : mI N 7 0 12 = rg2 := by rw [e7]; exact h12
  have e13 : mI N 7 0 13 = rf2 := by rw [e7]; exact h13
  have go : ∀ nk r : Int32, τ = s_room id r σ → ∃ N1, f_Steps_tellWay_l128 0 w fuel N nk r 0 = some N1 ∧ (∀ i, i < 75 → sv N1 w i = τ i) ∧ (∃ u, us N1 w u) ∧ fr (cS w) N N1 := by
    intro nk r ht
    obtain ⟨N1, a1, a2, a3, a4⟩ := tw_23 (N := N) (nk := nk) (r := r) (Or.inr rfl) hs hW hu e10 e11
    refine ⟨N1, a1, ?_, a3, a4⟩
    intro i hi
    rw [a2 i hi, hv i hi, ht]
    rfl
  have b107 : ∀ nk, ∃ N1, f_Steps_tellWay_b107 0 w g N nk = some N1 ∧ (∀ i, i < 75 → sv N1 w i = τ i) ∧ (∃ u, us N1 w u) ∧ fr (cS w) N N1 := by
    intro nk
    unfold f_Steps_tellWay_b107
    rw [st_eq, st_eq, e12, e13]
    rcases hg with ⟨g1, t1⟩ | ⟨g1, t1⟩
    · rw [if_neg (by rw [g1]; decide)]
      exact go nk _ (Option.some.inj t1).symm
    · rw [if_pos g1]
      exact go nk _ (Option.some.inj t1).symm
  unfold f_Steps_tellWay
  rw [e10, if_neg (by decide), if_neg (by decide)]
  split
  · exact b107 1
  · exact b107 7
end CJ
