/-! PURE: a run of the reference, from its beginning. -/
section IRX
variable {nm : Nat} {tb : Nat → Prop} {kb vb : Int32 → Int32} {en : Nat → Nat} {T U T1 : tyT} {W : tyU} {M N O : me_M} {c v w a b x y : Int64} {i n m s A r jp k : Nat} {t : tyV} {op nar mode : Int32} {p : Nat → Int64}
theorem rgo (hm : mpz nm kb vb en) (h1 : mp1 nm kb vb) (hj : jp = if mode = 2 then 2 else 1) : ∀ (k : Nat) (T : tyT) (s : Nat) (T1 : tyT) (N' fu : Nat) (M : me_M), gRun p n nm tb kb vb en k T s T1 N' → (tyC T1 0).1 = 1 → k + 1 < fu → rRl nm tb kb vb en T M → tyI nm en T → tBy T → uD nm tb kb en (tyW T) → (∀ t, t < n → mL M 16 jp t = p t) → ∃ M1, f_M_run_l125 0 mode fu M (nI s) = some (M1, (tyC T1 0).2.1) ∧ rRl nm tb kb vb en T1 M1 ∧ tBy T1 ∧ uD nm tb kb en (tyW T1) ∧ rrp nm en M M1 ∧ mI M1 1 0 42 = mI M 1 0 42 + nI N' ∧ mI M1 1 0 74 = mI M 1 0 34 ∧ ∀ f, f = 0 ∨ f = 40 ∨ f = 41 → mI M1 1 0 f = mI M 1 0 f := by
  intro k
  induction k with
  | zero => intro T s T1 N' fu M h; exact h.elim
  | succ k ih =>
    intro T s T1 N' fu M hg hT1 hf hR hI hB hD hc
    obtain ⟨fu, rfl⟩ : ∃ f, fu = f + 1 := ⟨fu - 1, by omega⟩
    obtain ⟨hsl, hg⟩ := hg
    have g1 := hsl.1
    have g2 := hsl.2.1
    obtain ⟨U, o, hstep⟩ : ∃ U o, ty_step p nm tb kb vb en T s = some (U, o) := by
      rcases hg with ⟨z, _⟩ | ⟨U, s1, N1, z, _⟩
      · exact ⟨_, _, z⟩
      · exact ⟨_, _, z⟩
    obtain ⟨hB2, hD2⟩ := step_B hB hD hstep
    obtain ⟨M2, eM2⟩ : ∃ M2, M2 = wI M 1 0 42 (mI M 1 0 42 + 1) := ⟨_, rfl⟩
    have hR2 : rRl nm tb kb vb en T M2 := by rw [eM2]; exact rRl_I hR (Or.inr (Or.inr (Or.inr (Or.inl rfl))))
    have hL2 : mL M2 = mL M := by rw [eM2]; rfl
    obtain ⟨w, hw, hbw⟩ : ∃ w, (d_fam (p s) = 1 → w = p (s + 1)) ∧ f_M_run_l125 0 mode (fu + 1) M (nI s) = b2 (f_M_runSlot M2 0 (nI s) (p s) w) (fun (M3 : me_M) (r : Int32) => f_M_run_l125 0 mode fu M3 r) := by
      have hS := hR.1
      have hS2 := hR2.1
      obtain ⟨⟨r5, r6, r7, r8, r9, r10, r11, r16, r17, r35, r36, r39, r43, r44, r45, r46⟩, ⟨y0, y1, y2', y3, y4', y5, y6, y7, y8, y9, y10, y11, y12, y13, y14, y15⟩, hm4, hmm⟩ := hS
      obtain ⟨⟨_, _, _, _, _, _, _, r16', r17', _, _, _, _, _, _, _⟩, ⟨_, _, _, _, _, _, _, _, _, _, _, _, y12', y13', _, _⟩, _, _⟩ := hS2
      have gs : ¬ (nI s < 0 ∨ 2000 ≤ s) := fun z => z.elim (nI_ps (by omega)) (fun q => by omega)
      have start : f_M_run_l125 0 mode (fu + 1) M (nI s) = f_M_run_b159 (f_M_run_l125 0 mode fu) 0 mode M2 (nI s) (p s) := by
        rw [f_M_run_l125, if_neg (nI_ps (by omega)), st_eq, ← eM2, nI_tn (by omega), hL2]
        by_cases e : mode = 2
        · rw [if_pos e] at hj
          rw [if_pos e, r17, bd_some, y13, gd_pos gs, ← hj, hc s g1]
        · rw [if_neg e] at hj
          rw [if_neg e, r16, bd_some, y12, gd_pos gs, ← hj, hc s g1]
      rw [start]
      unfold f_M_run_b159
      rw [nI_s]
      by_cases g : 2000 ≤ s + 1
      · refine ⟨0, fun z => ?_, ?_⟩
        · have := (hsl.2.2.2.2.2.1 z).1
          omega
        · rw [if_pos (show (2000 : Int32) ≤ nI (s + 1) from (nI_lei (a := 2000) (by decide) (by omega)).mpr g)]
      · have gs1 : ¬ (nI (s + 1) < 0 ∨ 2000 ≤ s + 1) := fun z => z.elim (nI_ps (by omega)) (fun q => by omega)
        refine ⟨mL M 16 jp (s + 1), fun z => hc _ (hsl.2.2.2.2.2.1 z).1, ?_⟩
        rw [if_neg (show ¬ (2000 : Int32) ≤ nI (s + 1) from fun z => g ((nI_lei (a := 2000) (by decide) (by omega)).mp z)), nI_tn (by omega), hL2]
        by_cases e : mode = 2
        · rw [if_pos e] at hj
          rw [if_pos e, r17', bd_some, y13', gd_pos gs1, hj]
        · rw [if_neg e] at hj
          rw [if_neg e, r16', bd_some, y12', gd_pos gs1, hj]
    obtain ⟨N, n1, n2, n3, n4⟩ := rslot hR2 hI hm h1 hB hD hsl hw hstep
    rw [hbw, n1, b2_some]
    have gN : rrp nm en M N := by
      have : rrp nm en M M2 := by rw [eM2]; exact rrp_I (by omega)
      exact rrp_trans this (rrp_g n3)
    have n42 : mI N 1 0 42 = mI M 1 0 42 + 1 := by rw [n3.2.2.2.2.1 42 (by decide), eM2, pI_same]
    have nf : ∀ f, f = 0 ∨ f = 40 ∨ f = 41 ∨ f = 34 → mI N 1 0 f = mI M 1 0 f := fun f hf => by rw [n3.2.2.2.2.1 f (by omega), eM2, pI_place (by omega)]
    rcases hg with ⟨z, hN⟩ | ⟨U2, s1, N1, z, hrun, hN⟩
    · rw [z] at hstep
      have eo := Option.some.inj hstep
      have eU : U = T1 := (congrArg Prod.fst eo).symm
      have eo2 : o = none := (congrArg Prod.snd eo).symm
      subst eU
      rw [eo2]
      obtain ⟨fu, rfl⟩ : ∃ f, fu = f + 1 := ⟨fu - 1, by omega⟩
      have hSN := n2.1
      have r43 : mR N 1 0 43 = some 5 := hSN.1.2.2.2.2.2.2.2.2.2.2.2.2.1
      have y15 : mZ N 16 5 = 11 := hSN.2.1.2.2.2.2.2.2.2.2.2.2.2.2.2.2.2
      have hr0 : mL N 16 5 0 = (tyC U 0).2.1 := by rw [n2.2.1.1 0 (by decide) (by rw [hT1]; decide), rr_1 _ hT1]
      rw [f_M_run_l125, if_pos (show nx_ none < 0 by decide), st_eq, r43, bd_some, y15, gd_pos (show 0 < 11 by decide), pL_I, hr0]
      refine ⟨_, rfl, rRl_I n2 (by omega), hB2, hD2, rrp_trans gN (rrp_I (by omega)), ?_, ?_, fun f hf => ?_⟩
      · rw [pI_place (by decide), n42, hN]; rfl
      · rw [pI_same, nf 34 (by omega)]
      · rw [pI_place (by omega), nf f (by omega)]
    · rw [z] at hstep
      have eo := Option.some.inj hstep
      have eU : U = U2 := (congrArg Prod.fst eo).symm
      have eo2 : o = some s1 := (congrArg Prod.snd eo).symm
      subst eU
      rw [eo2]
      obtain ⟨M7, x1, x2, x3, x4, x5, x6, x7, x8⟩ := ih U s1 T1 N1 fu N hrun hT1 (by omega) n2 n4 hB2 hD2 (fun t ht => by
        have jp12 : jp = 1 ∨ jp = 2 := by rw [hj]; split <;> omega
        rw [gN.2.2.2.2.2.1 16 jp (fun z => absurd z.1 (by decide)) (fun z => by omega) (by decide) (by decide)]
        exact hc t ht)
      refine ⟨M7, x1, x2, x3, x4, rrp_trans gN x5, ?_, x7.trans (nf 34 (by omega)), fun f hf => (x8 f hf).trans (nf f (by omega))⟩
      rw [x6, n42, hN, Int32.add_assoc, show (1 : Int32) = nI 1 from rfl, nI_add, Nat.add_comm 1 N1]
theorem rTb_L (h : rRl nm tb kb vb en (Tb W) M) : rRl nm tb kb vb en (Tb W) (wL M 16 5 i v) := by
  obtain ⟨h1, h2, h3, h4⟩ := h
  refine ⟨rSh_of (rgp_L (Or.inr ⟨rfl, Or.inr rfl⟩)) h1, ?_, h3, h4⟩
  rw [wL_o (c := 16) (d := 4) (fun z => absurd z.2 (by decide)), wL_o (c := 1) (fun z => absurd z.1 (by decide))]
  exact mo_Tb (T := Tb W) h2
theorem rTb_S {x : Int32} (h : rRl nm tb kb vb en (Tb W) M) : rRl nm tb kb vb en (Tb W) (wI M 14 5 i x) ∧ rgp nm en M (wI M 14 5 i x) := by
  have g : rgp nm en M (wI M 14 5 i x) := rgp_fr (j := 5) (fr_I ⟨rfl, rfl⟩) (by omega)
  obtain ⟨h1, h2, h3, h4⟩ := h
  refine ⟨⟨rSh_of g h1, ?_, ?_, ?_⟩, g⟩
  · rw [wI_o (c := 14) (d := 3) (fun z => absurd z.2 (by decide)), wI_o (c := 1) (fun z => absurd z.1 (by decide))]
    exact mo_Tb (T := Tb W) h2
  · rw [wI_o (c := 15) (fun z => absurd z.1 (by decide)), wI_o (c := 14) (d := 1) (fun z => absurd z.2 (by decide)), wI_o (c := 14) (d := 2) (fun z => absurd z.2 (by decide))]
    exact h3
  · rw [wI_o (fun z => absurd z.2 (by decide))]
    exact h4
theorem r43l : ∀ (k i fu : Nat) (N : me_M), i + k = 11 → k < fu → rRl nm tb kb vb en (Tb W) N → ∃ X, f_M_run_l43 0 mode fu N (nI i) = f_M_run_l64 0 mode fuel X 0 ∧ rRl nm tb kb vb en (Tb W) X ∧ rgp nm en N X ∧ mI X 1 0 = mI N 1 0 := by
  intro k
  induction k with
  | zero =>
    intro i fu N e hf h
    obtain ⟨fu, rfl⟩ : ∃ f, fu = f + 1 := ⟨fu - 1, by omega⟩
    rw [f_M_run_l43, if_pos (show (11 : Int32) ≤ nI i from (nI_lei (a := 11) (by decide) (by omega)).mpr (by omega))]
    exact ⟨N, rfl, h, rgp_refl, rfl⟩
  | succ k ih =>
    intro i fu N e hf h
    obtain ⟨fu, rfl⟩ : ∃ f, fu = f + 1 := ⟨fu - 1, by omega⟩
    have r43 : mR N 1 0 43 = some 5 := h.1.1.2.2.2.2.2.2.2.2.2.2.2.2.1
    have y15 : mZ N 16 5 = 11 := h.1.2.1.2.2.2.2.2.2.2.2.2.2.2.2.2.2.2
    rw [f_M_run_l43, if_neg (show ¬ (11 : Int32) ≤ nI i from fun z => by have := (nI_lei (a := 11) (by decide) (by omega)).mp z; omega), r43, bd_some, nI_tn (by omega), y15, gd_pos (show ¬ (nI i < 0 ∨ 11 ≤ i) from fun z => z.elim (nI_ps (by omega)) (fun q => by omega)), st_eq, nI_s]
    obtain ⟨X, x1, x2, x3, x4⟩ := ih (i + 1) fu _ (by omega) (by omega) (rTb_L (v := 0) (i := i) h)
    exact ⟨X, x1, x2, rgp_trans (rgp_L (Or.inr ⟨rfl, Or.inr rfl⟩)) x3, x4⟩
theorem r64l : ∀ (k i fu : Nat) (N : me_M), i + k = 512 → k < fu → rRl nm tb kb vb en (Tb W) N → ∃ X, f_M_run_l64 0 mode fu N (nI i) = f_M_run_l125 0 mode fuel (wI (wI (wI (wL (wL X 16 5 1 1099511627776) 16 5 10 2199023255552) 1 0 40 (mI X 1 0 40 + 1)) 1 0 41 mode) 1 0 42 0) 0 ∧ rRl nm tb kb vb en (Tb W) X ∧ rgp nm en N X ∧ mI X 1 0 = mI N 1 0 := by
  intro k
  induction k with
  | zero =>
    intro i fu N e hf h
    obtain ⟨fu, rfl⟩ : ∃ f, fu = f + 1 := ⟨fu - 1, by omega⟩
    have r43 : mR N 1 0 43 = some 5 := h.1.1.2.2.2.2.2.2.2.2.2.2.2.2.1
    have y15 : mZ N 16 5 = 11 := h.1.2.1.2.2.2.2.2.2.2.2.2.2.2.2.2.2.2
    rw [f_M_run_l64, if_pos (show (512 : Int32) ≤ nI i from (nI_lei (a := 512) (by decide) (by omega)).mpr (by omega)), r43, bd_some, y15, gd_pos (show 1 < 11 by decide), st_eq, gd_pos (show 10 < 11 by decide), st_eq, st_eq, st_eq, st_eq]
    exact ⟨N, rfl, h, rgp_refl, rfl⟩
  | succ k ih =>
    intro i fu N e hf h
    obtain ⟨fu, rfl⟩ : ∃ f, fu = f + 1 := ⟨fu - 1, by omega⟩
    have r44 : mR N 1 0 44 = some 5 := h.1.1.2.2.2.2.2.2.2.2.2.2.2.2.2.1
    have y8 : mZ N 14 5 = 512 := h.1.2.1.2.2.2.2.2.2.2.2.1
    obtain ⟨s1, s2⟩ := rTb_S (x := vp_nar .byte 0) (i := i) h
    rw [f_M_run_l64, if_neg (show ¬ (512 : Int32) ≤ nI i from fun z => by have := (nI_lei (a := 512) (by decide) (by omega)).mp z; omega), r44, bd_some, nI_tn (by omega), y8, gd_pos (show ¬ (nI i < 0 ∨ 512 ≤ i) from fun z => z.elim (nI_ps (by omega)) (fun q => by omega)), st_eq, nI_s]
    obtain ⟨X, x1, x2, x3, x4⟩ := ih (i + 1) fu _ (by omega) (by omega) s1
    exact ⟨X, x1, x2, rgp_trans s2 x3, by rw [x4, wI_o (fun z => absurd z.1 (by decide))]⟩
theorem rrun_ {N' : Nat} (hW : rRl nm tb kb vb en (Tb W) M) (hB : uBy W) (hD : uD nm tb kb en W) (hp : ¬ mI M 1 0 19 = 0) (hmo : mode = 0 ∨ mode = 1 ∨ mode = 2) (hj : jp = if mode = 2 then 2 else 1) (hm : mpz nm kb vb en) (h1 : mp1 nm kb vb) (hc : ∀ t, t < n → mL M 16 jp t = p t) (hg : gRun p n nm tb kb vb en k (T0 W) 0 T1 N') (hT : (tyC T1 0).1 = 1) (hk : k ≤ 20000) : ∃ N, f_M_run M 0 mode = some (N, (tyC T1 0).2.1) ∧ rRl nm tb kb vb en (Tb (tyW T1)) N ∧ uBy (tyW T1) ∧ uD nm tb kb en (tyW T1) ∧ rrp nm en M N ∧ mI N 1 0 0 = 0 ∧ mI N 1 0 40 = mI M 1 0 40 + 1 ∧ mI N 1 0 41 = mode ∧ mI N 1 0 42 = nI N' ∧ mI N 1 0 74 = mI M 1 0 34 := by
  have hin : f_M_in mode.toInt64 0 2 = some 1 := by
    rcases hmo with e | e | e <;> rw [e] <;> decide
  have hW0 : rRl nm tb kb vb en (Tb W) (wI M 1 0 0 0) := rRl_I hW (Or.inl rfl)
  obtain ⟨X, x1, x2, x3, x4⟩ := r43l (mode := mode) 11 0 fuel _ (by decide) (by unfold fuel; decide) hW0
  have x1 : f_M_run_l43 0 mode fuel (wI M 1 0 0 0) 0 = f_M_run_l64 0 mode fuel X 0 := x1
  obtain ⟨Y, y1, y2, y3, y4⟩ := r64l (mode := mode) 512 0 fuel X (by decide) (by unfold fuel; decide) x2
  have y1 : f_M_run_l64 0 mode fuel X 0 = _ := y1
  obtain ⟨Z, eZ⟩ : ∃ Z, Z = wI (wI (wI (wL (wL Y 16 5 1 1099511627776) 16 5 10 2199023255552) 1 0 40 (mI Y 1 0 40 + 1)) 1 0 41 mode) 1 0 42 0 := ⟨_, rfl⟩
  rw [← eZ] at y1
  have gZ : rrp nm en M Z := by
    rw [eZ]
    exact rrp_trans (rrp_I (f := 0) (x := 0) (Or.inl rfl)) (rrp_trans (rrp_g x3) (rrp_trans (rrp_g y3) (rrp_trans (rrp_g (rgp_L (Or.inr ⟨rfl, Or.inr rfl⟩))) (rrp_trans (rrp_g (rgp_L (Or.inr ⟨rfl, Or.inr rfl⟩))) (rrp_trans (rrp_I (by omega)) (rrp_trans (rrp_I (by omega)) (rrp_I (by omega))))))))
  have Y1 : mI Y 1 0 = mI (wI M 1 0 0 0) 1 0 := y4.trans x4
  have hRZ : rRl nm tb kb vb en (T0 W) Z := by
    have h2 : rRl nm tb kb vb en (T0 W) (wL (wL Y 16 5 1 1099511627776) 16 5 10 2199023255552) := by
      obtain ⟨q1, q2, q3, q4⟩ := y2
      refine ⟨rSh_of (rgp_trans (rgp_L (Or.inr ⟨rfl, Or.inr rfl⟩)) (rgp_L (Or.inr ⟨rfl, Or.inr rfl⟩))) q1, ⟨fun i hi hk => ?_, fun a ha => ?_, ?_⟩, q3, q4⟩
      · by_cases e1 : i = 1
        · rw [e1, pL_place (by decide), pL_same]; show _ = rr_ (2, 0, 0, 0); decide
        · by_cases e2 : i = 10
          · rw [e2, pL_same]; show _ = rr_ (3, 0, 0, 0); decide
          · have : tyC (T0 W) i = (0, 0, 0, 0) := by
              show (if i = 1 then ((2, 0, 0, 0) : tyV) else if i = 10 then (3, 0, 0, 0) else (0, 0, 0, 0)) = _
              rw [if_neg e1, if_neg e2]
            rw [this] at hk
            exact absurd rfl hk
      · have : tyC (T0 W) (74 - a / 8) = (0, 0, 0, 0) := by
          show (if 74 - a / 8 = 1 then ((2, 0, 0, 0) : tyV) else if 74 - a / 8 = 10 then (3, 0, 0, 0) else (0, 0, 0, 0)) = _
          rw [if_neg (by omega), if_neg (by omega)]
        refine ⟨fun z => ?_, fun _ z => ?_⟩
        · rw [this] at z
          exact absurd rfl z
        · have e : ib 0 (a % 8) = false := by
            have t : ∀ b, b < 8 → ib 0 b = false := by decide
            exact t _ (by omega)
          exact absurd (e.symm.trans z) (by decide)
      · rw [wL_o (c := 16) (d := 4) (fun z => absurd z.2 (by decide)), wL_o (c := 16) (d := 4) (fun z => absurd z.2 (by decide)), wL_o (c := 1) (fun z => absurd z.1 (by decide)), wL_o (c := 1) (fun z => absurd z.1 (by decide))]
        exact q2.2.2
    rw [eZ]
    exact rRl_I (rRl_I (rRl_I h2 (by omega)) (by omega)) (by omega)
  have hI : tyI nm en (T0 W) := by
    intro i hi
    replace hi : (if i = 1 then ((2, 0, 0, 0) : tyV) else if i = 10 then (3, 0, 0, 0) else (0, 0, 0, 0)).1 = 7 := hi
    by_cases e1 : i = 1
    · rw [if_pos e1] at hi; exact absurd hi (by decide)
    · rw [if_neg e1] at hi
      by_cases e2 : i = 10
      · rw [if_pos e2] at hi; exact absurd hi (by decide)
      · rw [if_neg e2] at hi; exact absurd hi (by decide)
  have hTB : tBy (T0 W) := ⟨hB, fun a => by show (0 : Int32).toInt8.toInt32 = 0; decide⟩
  have jp12 : jp = 1 ∨ jp = 2 := by rw [hj]; split <;> omega
  obtain ⟨N, n1, n2, n3, n4, n5, n6, n7, n8⟩ := rgo hm h1 hj k (T0 W) 0 T1 N' fuel Z hg hT (by unfold fuel; omega) hRZ hI hTB hD (fun t ht => by
    rw [gZ.2.2.2.2.2.1 16 jp (fun z => absurd z.1 (by decide)) (fun z => by omega) (by decide) (by decide)]
    exact hc t ht)
  have n1 : f_M_run_l125 0 mode fuel Z 0 = some (N, (tyC T1 0).2.1) := n1
  unfold f_M_run
  rw [hin, bd_some, if_neg (by decide), if_neg hp, st_eq, pI_same, if_pos (by decide), x1, y1, n1]
  have Zf : ∀ f, ¬ f = 40 → ¬ f = 41 → ¬ f = 42 → mI Z 1 0 f = mI (wI M 1 0 0 0) 1 0 f := fun f a b d => by
    rw [eZ, pI_place d, pI_place b, pI_place a, pI_L, pI_L, Y1]
  refine ⟨N, rfl, ⟨n2.1, mo_Tb n2.2.1, n2.2.2.1, n2.2.2.2⟩, n3.1, n4, rrp_trans gZ n5, ?_, ?_, ?_, ?_, ?_⟩
  · rw [n8 0 (Or.inl rfl), Zf 0 (by decide) (by decide) (by decide), pI_same]
  · rw [n8 40 (Or.inr (Or.inl rfl)), eZ, pI_place (by decide), pI_place (by decide), pI_same, Y1, pI_place (by decide)]
  · rw [n8 41 (Or.inr (Or.inr rfl)), eZ, pI_place (by decide), pI_same]
  · rw [n6, eZ, pI_same, Int32.zero_add]
  · rw [n7, Zf 34 (by decide) (by decide) (by decide), pI_place (by decide)]
end IRX
