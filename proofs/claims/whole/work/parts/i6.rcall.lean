/-! PURE: the reference's calls against the typed machine. -/
section IRC
variable {nm : Nat} {tb : Nat → Prop} {kb vb : Int32 → Int32} {en : Nat → Nat} {T U : tyT} {W : tyU} {M N O : me_M} {c v w : Int64} {i n m s A b r : Nat} {t x : tyV}
theorem rRl_giv (h : rRl nm tb kb vb en (ty_w T W) M) (hv : ¬ t.1 = 0 → v = rr_ t) : rRl nm tb kb vb en (ty_giv T t W) (wL M 16 5 0 v) := by
  obtain ⟨h1, h2, h3, h4⟩ := h
  exact rRl_reg (T := ty_lost (ty_w T W)) ⟨h1, mo_lost h2, h3, h4⟩ (by decide) hv
theorem rRl_67 {j : Nat} (hR : rRl nm tb kb vb en T M) (h : fr (fun k i => k = 14 ∧ i = j) M N) (hj : j = 6 ∨ j = 7) : rRl nm tb kb vb en T N := by
  obtain ⟨h1, h2, h3, h4⟩ := hR
  have e14 : ∀ i, ¬ i = j → mI N 14 i = mI M 14 i := fun i hi => h.2.2.2.1 14 i (fun z => hi z.2)
  have e15 : mI N 15 0 = mI M 15 0 := h.2.2.2.1 15 0 (fun z => absurd z.1 (by decide))
  have e1 : mI N 1 0 = mI M 1 0 := h.2.2.2.1 1 0 (fun z => absurd z.1 (by decide))
  have eL : ∀ k i, ¬ k = 14 → mL N k i = mL M k i := fun k i hk => h.2.2.2.2 k i (fun z => hk z.1)
  refine ⟨fr14_S h h1, ?_, ?_, ?_⟩
  · rw [eL 16 5 (by decide), eL 16 4 (by decide), eL 1 0 (by decide), e1, e14 5 (by omega), e14 3 (by omega)]
    exact h2
  · rw [e15, e14 1 (by omega), e14 2 (by omega)]
    exact h3
  · rw [e14 4 (by omega)]
    exact h4
/-- only the maps have changed -/
theorem rRl_st (hR : rRl nm tb kb vb en T M) (h : fr (fun k j => (k = 14 ∧ (j = 1 ∨ j = 2)) ∨ (k = 15 ∧ j = 0)) M N) (hW : uP W = uP (tyW T) ∧ uZ W = uZ (tyW T) ∧ uC W = uC (tyW T) ∧ uT W = uT (tyW T) ∧ uN W = uN (tyW T) ∧ uL W = uL (tyW T)) (hm : rMs nm tb kb vb en W N) (hX : ∀ x, ¬ (∃ l i, l < nm ∧ i < en l ∧ x = 64 * l + i) → mI N 15 0 x = mI M 15 0 x) : rRl nm tb kb vb en (ty_w T W) N ∧ rgp nm en M N := by
  obtain ⟨h1, h2, h3, h4⟩ := hR
  obtain ⟨w1, w2, w3, w4, w5, w6⟩ := hW
  have hg : rgp nm en M N := ⟨h.1, h.2.1, h.2.2.1, fun k j _ b d => h.2.2.2.1 k j (fun z => z.elim (fun q => b ⟨q.1, q.2.elim Or.inl (fun y => Or.inr (Or.inl y))⟩) d), fun f _ => by rw [h.2.2.2.1 1 0 (fun z => z.elim (fun q => absurd q.1 (by decide)) (fun q => absurd q.1 (by decide)))], fun k j _ _ d e => h.2.2.2.2 k j (fun z => z.elim (fun q => d q.1) (fun q => e q.1)), hX⟩
  have e14 : ∀ i, ¬ i = 1 → ¬ i = 2 → mI N 14 i = mI M 14 i := fun i a b => h.2.2.2.1 14 i (fun z => z.elim (fun q => q.2.elim a b) (fun q => absurd q.1 (by decide)))
  have e1 : mI N 1 0 = mI M 1 0 := h.2.2.2.1 1 0 (fun z => z.elim (fun q => absurd q.1 (by decide)) (fun q => absurd q.1 (by decide)))
  have eL : ∀ k i, ¬ k = 14 → ¬ k = 15 → mL N k i = mL M k i := fun k i a b => h.2.2.2.2 k i (fun z => z.elim (fun q => a q.1) (fun q => b q.1))
  refine ⟨⟨rSh_of hg h1, ?_, hm, ?_⟩, hg⟩
  · rw [eL 16 5 (by decide) (by decide), eL 16 4 (by decide) (by decide), eL 1 0 (by decide) (by decide), e1, e14 5 (by decide) (by decide), e14 3 (by decide) (by decide)]
    obtain ⟨a1, a2, a3, a4, a5, a6⟩ := h2
    refine ⟨a1, a2, ?_, ?_, ?_, ?_⟩
    · show ∀ a, a < 2000 → _ = uP W a
      rw [w1]; exact a3
    · show _ = nI (uZ W) ∧ uZ W ≤ 2000
      rw [w2]; exact a4
    · show _ = nI (uN W) ∧ uN W ≤ 1000 ∧ ∀ i, i < uN W → _ = uL W i
      rw [w5, w6]; exact a5
    · show _ = uT W
      rw [w4]; exact a6
  · show ∀ a, 16 ≤ a → a < 64 → mI N 14 4 a = uC W a
    rw [e14 4 (by decide) (by decide), w3]
    exact h4
theorem rkey_rd (hR : rRl nm tb kb vb en T M) (hm : mpz nm kb vb en) (h7 : t.1 = 7 → t.2.2.1 < nm ∧ t.2.2.2 < en t.2.2.1) (h : ty_can vb T t n) : ∀ b, b < n → mI M 14 (rj t) (rA t t.2.1 + b) = ty_key T t b := by
  obtain ⟨hS, hmo, hst, hcx⟩ := hR
  intro b hb
  unfold ty_key ty_ar ty_ad rj rA ty_ad
  rcases h with ⟨k, a1, a2, a3⟩ | ⟨k, a⟩ | ⟨k, a⟩
  · have n2 : ¬ t.1 = 2 := by rw [k]; decide
    have n7 : ¬ t.1 = 7 := by rw [k]; decide
    have e5 : (t.2.1 + 512).toInt = t.2.1.toInt + 512 := by rw [l_add (by omega) (by omega) (by decide) (by decide)]; rfl
    have tp := tn_pos (pl := t.2.1 + 512) (by omega)
    rw [if_neg n2, if_pos k, if_neg n7, if_pos k, if_neg n2, if_pos k]
    exact ys_a (f := mI M 14 5) rr_1 (hmo.2.1 _ (by omega)) (a3 _ (by omega) (by omega)) (bit_1 (by omega))
  · have n2 : ¬ t.1 = 2 := by rw [k]; decide
    have n3 : ¬ t.1 = 3 := by rw [k]; decide
    have n7 : ¬ t.1 = 7 := by rw [k]; decide
    obtain ⟨a1, a2⟩ := a.resolve_left (by omega)
    have tp := tn_pos a1
    have z2 := hmo.2.2.2.1.2
    rw [if_neg n2, if_neg n3, if_pos k, if_neg n7, if_neg n3, if_neg n2, if_neg n3, if_pos k]
    exact hmo.2.2.1 _ (by omega)
  · have n2 : ¬ t.1 = 2 := by rw [k]; decide
    have n3 : ¬ t.1 = 3 := by rw [k]; decide
    have n4 : ¬ t.1 = 4 := by rw [k]; decide
    obtain ⟨a1, a2⟩ := a.resolve_left (by omega)
    obtain ⟨m1, m2⟩ := h7 k
    have tp := tn_pos a1
    have kp := (kn_pos hm m1).2
    rw [if_neg n2, if_neg n3, if_neg n4, if_pos k, if_neg n2, if_neg n3, if_neg n4, if_neg n3, Nat.add_assoc]
    exact (hst _ m1).2.1 _ m2 _ (by show _ < kn vb t.2.2.1; omega)
theorem rj_ne : ¬ rj t = 6 ∧ ¬ rj t = 7 := by
  unfold rj
  repeat' split
  all_goals omega
theorem r_reg (hR : rRl nm tb kb vb en T M) (hr : r < 11) (hp : ty_ptr (tyC T r)) : mL M 16 5 r = rr_ ((tyC T r).1, (tyC T r).2.1, (tyC T r).2.2) := by
  refine hR.2.1.1 r hr ?_
  intro z
  rcases hp with k | k | k | k <;> rw [k] at z <;> exact absurd z (by decide)
theorem rkey_l (hR : rRl nm tb kb vb en T M) (hI : tyI nm en T) (hm : mpz nm kb vb en) (hB : tBy T) (hn : m < nm) (h1 : 1 ≤ kn kb m) (hc : ty_can vb T (tyC T 2) (kn kb m)) : ∀ (k b fu : Nat) (N : me_M), b + k = kn kb m → k < fu → fr (fun k i => k = 14 ∧ i = 6) M N → (∀ a, a < b → mI N 14 6 a = ty_key T (tyC T 2) a) → ∃ N2, f_M_readKey_l2 0 (nI m) fu N (nI b) = some N2 ∧ fr (fun k i => k = 14 ∧ i = 6) M N2 ∧ ∀ a, a < kn kb m → mI N2 14 6 a = ty_key T (tyC T 2) a := by
  have hkey := rkey_rd hR hm (hI _) hc
  obtain ⟨l1, l2⟩ := can_in hc h1
  intro k
  induction k with
  | zero =>
    intro b fu N e hf g hx
    obtain ⟨fu, rfl⟩ : ∃ f, fu = f + 1 := ⟨fu - 1, by omega⟩
    obtain ⟨⟨r5, r6, r7, r8, r9, r10, r11, r16, r17, r35, r36, r39, r43, r44, r45, r46⟩, ⟨y0, y1, y2', y3, y4', y5, y6, y7, y8, y9, y10, y11, y12, y13, y14, y15⟩, hm4, hmm⟩ := fr14_S g hR.1
    obtain ⟨m1, m2, m3, m4, m5, m6, m7, m8⟩ := hmm m hn
    have gm : ¬ (nI m < 0 ∨ 4 ≤ m) := fun z => z.elim (nI_ps (by omega)) (fun q => by omega)
    rw [f_M_readKey_l2, r6, bd_some, nI_tn (by omega), y1, gd_pos gm, m1, if_pos ((nI_lei (by omega) (by omega)).mpr (by omega))]
    exact ⟨N, rfl, g, fun a ha => hx a (by omega)⟩
  | succ k ih =>
    intro b fu N e hf g hx
    obtain ⟨fu, rfl⟩ : ∃ f, fu = f + 1 := ⟨fu - 1, by omega⟩
    have hSN := fr14_S g hR.1
    have hSN2 := hSN
    obtain ⟨⟨r5, r6, r7, r8, r9, r10, r11, r16, r17, r35, r36, r39, r43, r44, r45, r46⟩, ⟨y0, y1, y2', y3, y4', y5, y6, y7, y8, y9, y10, y11, y12, y13, y14, y15⟩, hm4, hmm⟩ := hSN2
    obtain ⟨m1, m2, m3, m4, m5, m6, m7, m8⟩ := hmm m hn
    have gm : ¬ (nI m < 0 ∨ 4 ≤ m) := fun z => z.elim (nI_ps (by omega)) (fun q => by omega)
    have er : mL N 16 5 2 = rr_ ((tyC T 2).1, (tyC T 2).2.1, (tyC T 2).2.2) := by
      rw [g.2.2.2.2 16 5 (fun z => absurd z.1 (by decide))]
      exact r_reg hR (by decide) l1
    have hb := r_byte (b := b) hSN hm (hI _) l1 l2 hR.2.1.2.2.2.1.2 (by omega) (by omega)
    rw [g.2.2.2.1 14 (rj (tyC T 2)) (fun z => rj_ne.1 z.2), hkey b (by omega)] at hb
    rw [f_M_readKey_l2, r6, bd_some, nI_tn (by omega), y1, gd_pos gm, m1, if_neg (fun z => by have := (nI_lei (by omega) (by omega)).mp z; omega), r45, bd_some, r43, bd_some, y15, gd_pos (show 2 < 11 by decide), er, hb, b2_some, nI_tn (by omega), y9, gd_pos (show ¬ (nI b < 0 ∨ 64 ≤ b) from fun z => z.elim (nI_ps (by omega)) (fun q => by omega)), st_eq, nI_s, nar_b, nB (isB_key hB b)]
    refine ih (b + 1) fu _ (by omega) (by omega) (fr_trans g (fr_I ⟨rfl, rfl⟩)) (fun a ha => ?_)
    by_cases ea : a = b
    · rw [ea, pI_same]
    · rw [pI_place ea]
      exact hx a (by omega)
theorem rkey (hR : rRl nm tb kb vb en T M) (hI : tyI nm en T) (hm : mpz nm kb vb en) (hB : tBy T) (hn : m < nm) (h1 : 1 ≤ kn kb m) (hc : ty_can vb T (tyC T 2) (kn kb m)) : ∃ N, f_M_readKey M 0 (nI m) = some N ∧ fr (fun k i => k = 14 ∧ i = 6) M N ∧ ∀ a, a < kn kb m → mI N 14 6 a = ty_key T (tyC T 2) a := by
  unfold f_M_readKey
  have h16 := (hR.1.2.2.2 m hn).2.2.2.2.2.1
  exact rkey_l hR hI hm hB hn h1 hc (kn kb m) 0 fuel M (by omega) (by unfold fuel; omega) fr_refl (fun a ha => by omega)
theorem rval_l (hR : rRl nm tb kb vb en T M) (hI : tyI nm en T) (hm : mpz nm kb vb en) (hB : tBy T) (hD : uD nm tb kb en (tyW T)) (hn : m < nm) (h1 : 1 ≤ kn vb m) (hc : ty_can vb T (tyC T 3) (kn vb m)) (hk6 : ∀ a, a < kn kb m → mI M 14 6 a = ty_key T (tyC T 2) a) : ∀ (k b fu : Nat) (N : me_M), b + k = kn vb m → k < fu → fr (fun k i => k = 14 ∧ i = 7) M N → (∀ a, a < b → mI N 14 7 a = ty_key T (tyC T 3) a) → ∃ N2, f_M_runCall_l93 0 fu N (nI m) (nI b) = some N2 ∧ rRl nm tb kb vb en (ty_giv T (ty_n (u_upd tb kb vb en (tyW T) m (ty_key T (tyC T 2)) (ty_key T (tyC T 3))).1.toInt64) (u_upd tb kb vb en (tyW T) m (ty_key T (tyC T 2)) (ty_key T (tyC T 3))).2) N2 ∧ rgp nm en M N2 := by
  have hkey := rkey_rd hR hm (hI _) hc
  obtain ⟨l1, l2⟩ := can_in hc h1
  intro k
  induction k with
  | zero =>
    intro b fu N e hf g hx
    obtain ⟨fu, rfl⟩ : ∃ f, fu = f + 1 := ⟨fu - 1, by omega⟩
    have hSN := fr14_S g hR.1
    have hSN2 := hSN
    obtain ⟨⟨r5, r6, r7, r8, r9, r10, r11, r16, r17, r35, r36, r39, r43, r44, r45, r46⟩, ⟨y0, y1, y2', y3, y4', y5, y6, y7, y8, y9, y10, y11, y12, y13, y14, y15⟩, hm4, hmm⟩ := hSN2
    obtain ⟨m1, m2, m3, m4, m5, m6, m7, m8⟩ := hmm m hn
    have gm : ¬ (nI m < 0 ∨ 4 ≤ m) := fun z => z.elim (nI_ps (by omega)) (fun q => by omega)
    have hRN := rRl_67 hR g (Or.inr rfl)
    have e6 : mI N 14 6 = mI M 14 6 := g.2.2.2.1 14 6 (fun z => absurd z.2 (by decide))
    have hk' : ∀ a, a < kn kb m → ty_key T (tyC T 2) a = mI N 14 6 a := fun a ha => by rw [e6]; exact (hk6 a ha).symm
    have hv' : ∀ a, a < kn vb m → ty_key T (tyC T 3) a = mI N 14 7 a := fun a ha => (hx a (by omega)).symm
    obtain ⟨N2, n1, n2, n3, n4, _⟩ := rupd (key := ty_key T (tyC T 2)) (val := ty_key T (tyC T 3)) hRN.1 hRN.2.2.1 hD hn hk' hv' (fun a ha => by rw [← hk' a ha]; exact isB_key hB a) (fun a ha => by rw [← hv' a ha]; exact isB_key hB a)
    obtain ⟨x1, x2⟩ := rRl_st hRN n3 upd_w n2 n4
    rw [f_M_runCall_l93, r7, bd_some, nI_tn (by omega), y2', gd_pos gm, m2, if_pos ((nI_lei (by omega) (by omega)).mpr (by omega)), r43, bd_some, n1, b2_some, y15, gd_pos (show 0 < 11 by decide), st_eq]
    exact ⟨_, rfl, rRl_giv x1 (fun _ => rfl), rgp_trans (rgp_fr g (by omega)) (rgp_trans x2 (rgp_L (Or.inr ⟨rfl, Or.inr rfl⟩)))⟩
  | succ k ih =>
    intro b fu N e hf g hx
    obtain ⟨fu, rfl⟩ : ∃ f, fu = f + 1 := ⟨fu - 1, by omega⟩
    have hSN := fr14_S g hR.1
    have hSN2 := hSN
    obtain ⟨⟨r5, r6, r7, r8, r9, r10, r11, r16, r17, r35, r36, r39, r43, r44, r45, r46⟩, ⟨y0, y1, y2', y3, y4', y5, y6, y7, y8, y9, y10, y11, y12, y13, y14, y15⟩, hm4, hmm⟩ := hSN2
    obtain ⟨m1, m2, m3, m4, m5, m6, m7, m8⟩ := hmm m hn
    have gm : ¬ (nI m < 0 ∨ 4 ≤ m) := fun z => z.elim (nI_ps (by omega)) (fun q => by omega)
    have er : mL N 16 5 3 = rr_ ((tyC T 3).1, (tyC T 3).2.1, (tyC T 3).2.2) := by
      rw [g.2.2.2.2 16 5 (fun z => absurd z.1 (by decide))]
      exact r_reg hR (by decide) l1
    have hb := r_byte (b := b) hSN hm (hI _) l1 l2 hR.2.1.2.2.2.1.2 (by omega) (by omega)
    rw [g.2.2.2.1 14 (rj (tyC T 3)) (fun z => rj_ne.2 z.2), hkey b (by omega)] at hb
    rw [f_M_runCall_l93, r7, bd_some, nI_tn (by omega), y2', gd_pos gm, m2, if_neg (fun z => by have := (nI_lei (by omega) (by omega)).mp z; omega), r46, bd_some, r43, bd_some, y15, gd_pos (show 3 < 11 by decide), er, hb, b2_some, nI_tn (by omega), y10, gd_pos (show ¬ (nI b < 0 ∨ 64 ≤ b) from fun z => z.elim (nI_ps (by omega)) (fun q => by omega)), st_eq, nI_s, nar_b, nB (isB_key hB b)]
    refine ih (b + 1) fu _ (by omega) (by omega) (fr_trans g (fr_I ⟨rfl, rfl⟩)) (fun a ha => ?_)
    by_cases ea : a = b
    · rw [ea, pI_same]
    · rw [pI_place ea]
      exact hx a (by omega)
theorem rmix_l (hR : rRl nm tb kb vb en T M) (hI : tyI nm en T) (hm : mpz nm kb vb en) (hw : (mL M 16 5 2).toInt32 = nI n) (hn : n ≤ 512) (hc : ty_can vb T (tyC T 1) n) : ∀ (k i fu : Nat), i + k = n → k < fu → f_M_runCall_l236 0 fu M (y_mix (ty_ar T (tyC T 1)) (ty_ad (tyC T 1) (tyC T 1).2.1) i) (nI i) = some (wL M 16 5 0 ((y_mix (ty_ar T (tyC T 1)) (ty_ad (tyC T 1) (tyC T 1).2.1) n).toInt64 &&& 4294967295)) := by
  have hkey := rkey_rd hR hm (hI _) hc
  have hS := hR.1
  obtain ⟨⟨r5, r6, r7, r8, r9, r10, r11, r16, r17, r35, r36, r39, r43, r44, r45, r46⟩, ⟨y0, y1, y2', y3, y4', y5, y6, y7, y8, y9, y10, y11, y12, y13, y14, y15⟩, hm4, hmm⟩ := hS
  intro k
  induction k with
  | zero =>
    intro i fu e hf
    obtain ⟨fu, rfl⟩ : ∃ f, fu = f + 1 := ⟨fu - 1, by omega⟩
    rw [f_M_runCall_l236, r43, bd_some, y15, gd_pos (show 2 < 11 by decide), hw, if_pos ((nI_lei (by omega) (by omega)).mpr (by omega)), gd_pos (show 0 < 11 by decide), st_eq, show i = n by omega]
  | succ k ih =>
    intro i fu e hf
    obtain ⟨fu, rfl⟩ : ∃ f, fu = f + 1 := ⟨fu - 1, by omega⟩
    obtain ⟨l1, l2⟩ := can_in hc (by omega)
    have hb := r_byte (b := i) hR.1 hm (hI _) l1 l2 hR.2.1.2.2.2.1.2 (by omega) (by omega)
    rw [hkey i (by omega)] at hb
    have er := r_reg hR (r := 1) (by decide) l1
    rw [f_M_runCall_l236, r43, bd_some, y15, gd_pos (show 2 < 11 by decide), hw, if_neg (fun z => by have := (nI_lei (by omega) (by omega)).mp z; omega), gd_pos (show 1 < 11 by decide), er, hb, b2_some, st_eq, nI_s]
    exact ih (i + 1) fu (by omega) (by omega)
theorem fnd_r : ∀ m, m < 4 → ∀ i, i < 64 → 4398046511104 + 64 * (64 * nI m + nI i).toInt64 = rr_ (7, 0, m, i) ∧ 0 ≤ nI i := by decide +kernel
theorem rcall (hR : rRl nm tb kb vb en T M) (hI : tyI nm en T) (hm : mpz nm kb vb en) (h1 : mp1 nm kb vb) (hB : tBy T) (hD : uD nm tb kb en (tyW T)) (hf : d_field c = 1 ∨ d_field c = 2 ∨ d_field c = 3 ∨ d_field c = 4 ∨ d_field c = 5 ∨ d_field c = 6) (ho : ty_hlp c nm tb kb vb en T = some U) : ∃ N, f_M_runCall M 0 (d_field c) = some N ∧ rRl nm tb kb vb en U N ∧ rgp nm en M N ∧ tyI nm en U := by
  have hR2 := hR
  obtain ⟨hS, hmo, hst, hcx⟩ := hR2
  have hS2 := hS
  obtain ⟨⟨r5, r6, r7, r8, r9, r10, r11, r16, r17, r35, r36, r39, r43, r44, r45, r46⟩, ⟨y0, y1, y2', y3, y4', y5, y6, y7, y8, y9, y10, y11, y12, y13, y14, y15⟩, hm4, hmm⟩ := hS2
  have no7 : ∀ {z : Int64}, (ty_n z).1 = 7 → (ty_n z).2.2.1 < nm ∧ (ty_n z).2.2.2 < en (ty_n z).2.2.1 := fun z => absurd (show (1 : Int32) = 7 from z) (by decide)
  unfold f_M_runCall
  rw [r43, bd_some, y15, gd_pos (show 1 < 11 by decide), st_eq]
  have ho2 := ho
  unfold ty_hlp at ho
  by_cases f4 : d_field c = 4
  · rw [if_pos f4] at ho
    refine Or.elim (Classical.em ((tyC T 1).1 = 1)).symm (fun k1 => ?_) (fun k1 => ?_)
    · rw [if_neg k1] at ho; cases ho
    rw [if_pos k1] at ho
    have hv1 : mL M 16 5 1 = (tyC T 1).2.1 := by rw [hmo.1 1 (by decide) (by rw [k1]; decide), rr_1 _ k1]
    obtain ⟨a1, a2, a3, a4, a5, a6⟩ := hmo
    rw [if_pos (by rw [f4]; decide), f4]
    unfold f_M_runCall_b18
    rw [if_neg (by decide), if_neg (by decide), if_neg (by decide), if_pos rfl, a5.1]
    by_cases q : uN (tyW T) < 1000
    · rw [if_neg (fun z => by have := (nI_lei (a := 1000) (by decide) (by omega)).mp z; omega), r39, bd_some, r43, bd_some, y15, gd_pos (show 1 < 11 by decide), nI_tn (by omega), gd_pos (show ¬ (nI (uN (tyW T)) < 0 ∨ mZ M 16 4 ≤ uN (tyW T)) from fun z => z.elim (nI_ps (by omega)) (fun q => by rw [y14] at q; omega)), st_eq, st_eq, pI_L, a5.1, nI_s, gd_pos (show 0 < 11 by decide), st_eq, hv1]
      have eu : u_tell (tyW T) (tyC T 1).2.1 = (uP (tyW T), uZ (tyW T), uC (tyW T), uT (tyW T), uN (tyW T) + 1, fup (uL (tyW T)) (uN (tyW T)) (tyC T 1).2.1, uH (tyW T), uK (tyW T), uV (tyW T)) := if_pos q
      have g38 : ∀ {X : me_M} {x : Int32}, rgp nm en X (wI X 1 0 38 x) := fun {X x} => ⟨rfl, rfl, rfl, fun k j a _ _ => wI_o a, fun f hf => pI_place hf, fun _ _ _ _ _ _ => rfl, fun x _ => wI_j (fun z => absurd z.1 (by decide))⟩
      refine ⟨_, rfl, ?_, rgp_trans (rgp_L (Or.inr ⟨rfl, Or.inl rfl⟩)) (rgp_trans g38 (rgp_L (Or.inr ⟨rfl, Or.inr rfl⟩))), ?_⟩
      · rw [← Option.some.inj ho]
        refine rRl_giv ?_ (fun _ => rfl)
        rw [eu]
        refine ⟨rSh_of (rgp_trans (rgp_L (Or.inr ⟨rfl, Or.inl rfl⟩)) g38) hS, ⟨?_, ?_, ?_, ?_, ?_, ?_⟩, ?_, ?_⟩
        · rw [pL_I, wL_o (fun z => absurd z.2 (by decide))]
          exact a1
        · rw [wI_o (fun z => absurd z.1 (by decide)), pI_L]
          exact a2
        · rw [wI_o (fun z => absurd z.1 (by decide)), pI_L]
          exact a3
        · rw [pI_place (by decide), pI_L]
          exact a4
        · rw [pI_same, pL_I, wL_h]
          refine ⟨rfl, by show uN (tyW T) + 1 ≤ 1000; omega, fun i hi => ?_⟩
          show fup (mL M 16 4) (uN (tyW T)) (tyC T 1).2.1 i = fup (uL (tyW T)) (uN (tyW T)) (tyC T 1).2.1 i
          unfold fup
          by_cases ei : i = uN (tyW T)
          · rw [if_pos ei, if_pos ei]
          · rw [if_neg ei, if_neg ei]
            have hi : i < uN (tyW T) + 1 := hi
            exact a5.2.2 i (by omega)
        · rw [pL_I, wL_o (fun z => absurd z.1 (by decide))]
          exact a6
        · rw [wI_o (fun z => absurd z.1 (by decide)), wI_o (fun z => absurd z.1 (by decide)), wI_o (fun z => absurd z.1 (by decide)), pI_L]
          exact hst
        · rw [wI_o (fun z => absurd z.1 (by decide)), pI_L]
          exact hcx
      · rw [← Option.some.inj ho]
        exact tyI_giv hI no7
    · have eu : u_tell (tyW T) (tyC T 1).2.1 = tyW T := if_neg q
      rw [eu] at ho
      rw [if_pos (show (1000 : Int32) ≤ nI (uN (tyW T)) from (nI_lei (a := 1000) (b := uN (tyW T)) (by decide) (by omega)).mpr (by omega)), r43, bd_some, y15, gd_pos (show 0 < 11 by decide), st_eq]
      refine ⟨_, rfl, ?_, rgp_L (Or.inr ⟨rfl, Or.inr rfl⟩), ?_⟩
      · rw [← Option.some.inj ho]
        exact rRl_giv (W := tyW T) hR (fun _ => rfl)
      · rw [← Option.some.inj ho]
        exact tyI_giv hI no7
  rw [if_neg f4] at ho
  by_cases f5 : d_field c = 5
  · rw [if_pos f5] at ho
    have a6 := hmo.2.2.2.2.2
    rw [if_pos (by rw [f5]; decide), f5]
    unfold f_M_runCall_b18
    rw [if_neg (by decide), if_neg (by decide), if_neg (by decide), if_neg (by decide), if_pos rfl, r43, bd_some, y15, gd_pos (show 0 < 11 by decide), st_eq, st_eq, a6]
    have et : mL (wL M 16 5 0 (uT (tyW T))) 1 0 37 = uT (tyW T) := by rw [wL_o (fun z => absurd z.1 (by decide))]; exact a6
    rw [et]
    refine ⟨_, rfl, ?_, rgp_trans (rgp_L (Or.inr ⟨rfl, Or.inr rfl⟩)) (rgp_L (Or.inl ⟨rfl, rfl⟩)), ?_⟩
    · rw [← Option.some.inj ho]
      have h2 := rRl_giv (W := tyW T) (t := ty_n (uT (tyW T))) (v := uT (tyW T)) hR (fun _ => rfl)
      generalize wL M 16 5 0 (uT (tyW T)) = N at h2 ⊢
      obtain ⟨g1, ⟨b1, b2, b3, b4, b5, b6⟩, g3, g4⟩ := h2
      refine ⟨rSh_of (rgp_L (Or.inl ⟨rfl, rfl⟩)) g1, ⟨?_, b2, b3, b4, ?_, ?_⟩, g3, g4⟩
      · rw [wL_o (fun z => absurd z.1 (by decide))]
        exact b1
      · rw [wL_o (fun z => absurd z.1 (by decide))]
        exact b5
      · rw [wL_h]
        exact if_pos rfl
    · rw [← Option.some.inj ho]
      exact tyI_giv hI no7
  rw [if_neg f5] at ho
  by_cases f6 : d_field c = 6
  · rw [if_pos f6] at ho
    refine Or.elim (Classical.em ((tyC T 2).1 = 1 ∧ 0 ≤ (tyC T 2).2.1 ∧ (tyC T 2).2.1 ≤ 512 ∧ ty_can vb T (tyC T 1) (tyC T 2).2.1.toNatClampNeg)).symm (fun k1 => ?_) (fun k1 => ?_)
    · rw [ic_f k1] at ho; cases ho
    rw [ic_t k1] at ho
    obtain ⟨k1, k2, k3, k4⟩ := k1
    rw [l_le] at k2 k3
    have k2 : 0 ≤ (tyC T 2).2.1.toInt := k2
    have k3 : (tyC T 2).2.1.toInt ≤ 512 := k3
    have tp := tn_pos k2
    have hw : (mL M 16 5 2).toInt32 = nI (tyC T 2).2.1.toNatClampNeg := by
      rw [hmo.1 2 (by decide) (by rw [k1]; decide), rr_1 _ k1]
      exact Int32.toInt_inj.mp (by rw [i64_of (by omega) (by omega), nI_int (by omega), tp])
    have hl := rmix_l hR hI hm hw (by omega) k4 (tyC T 2).2.1.toNatClampNeg 0 fuel (by omega) (by unfold fuel; omega)
    have hl : f_M_runCall_l236 0 fuel M 1 0 = _ := hl
    rw [if_pos (by rw [f6]; decide), f6]
    unfold f_M_runCall_b18
    rw [if_neg (by decide), if_neg (by decide), if_neg (by decide), if_neg (by decide), if_neg (by decide), hl]
    refine ⟨_, rfl, ?_, rgp_L (Or.inr ⟨rfl, Or.inr rfl⟩), ?_⟩
    · rw [← Option.some.inj ho]
      exact rRl_giv (W := tyW T) hR (fun _ => rfl)
    · rw [← Option.some.inj ho]
      exact tyI_giv hI no7
  rw [if_neg f6] at ho
  refine Or.elim (Classical.em ((tyC T 1).1 = 6 ∧ (tyC T 1).2.2.1 < nm ∧ ty_can vb T (tyC T 2) (kb (nI (tyC T 1).2.2.1)).toNatClampNeg)).symm (fun g => ?_) (fun g => ?_)
  · rw [ic_f g] at ho; cases ho
  rw [ic_t g] at ho
  obtain ⟨k6, gm, gc⟩ := g
  have hreg : mL M 16 5 1 = (nI (tyC T 1).2.2.1).toInt64 := by
    rw [hmo.1 1 (by decide) (by rw [k6]; decide)]
    unfold rr_ rc_
    rw [if_neg (by rw [k6]; decide), if_neg (by rw [k6]; decide), if_neg (by rw [k6]; decide), if_neg (by rw [k6]; decide), if_pos k6]
  generalize (tyC T 1).2.2.1 = m at hreg gm gc ho
  have m4 : m < 4 := by omega
  have tab : ∀ m, m < 4 → (nI m).toInt64.toInt32 = nI m := by decide
  have hb1 := h1 m gm
  obtain ⟨kp1, kp2⟩ := kn_pos hm gm
  have n4 : ¬ 4 ≤ d_field c := by
    rcases hf with k | k | k | k | k | k
    · rw [k]; decide
    · rw [k]; decide
    · rw [k]; decide
    · exact absurd k f4
    · exact absurd k f5
    · exact absurd k f6
  obtain ⟨N0, q1, q2, q3⟩ := rkey hR hI hm hB gm (by omega) gc
  have hR0 := rRl_67 hR q2 (Or.inl rfl)
  have g0 : rgp nm en M N0 := rgp_fr q2 (by omega)
  have hS0 := hR0.1
  obtain ⟨⟨_, _, _, _, _, _, _, _, _, _, _, _, r43', _, _, _⟩, ⟨_, _, _, _, _, _, _, _, _, _, _, _, _, _, _, y15'⟩, _, _⟩ := hS0
  rw [if_neg n4, hreg, tab m m4, q1, bd_some]
  unfold f_M_runCall_b18
  by_cases f1 : d_field c = 1
  · rw [if_pos f1] at ho
    rw [if_pos f1, rfind hR0.1 hR0.2.2.1 hD gm (fun b hb => (q3 b hb).symm), b2_some, r43', bd_some]
    cases e : u_find tb kb en (tyW T) m (ty_key T (tyC T 2)) with
    | some i =>
      rw [e] at ho
      have hi := find_lt (hm.2 m gm).2.2 e
      have he := (hm.2 m gm).2.2
      obtain ⟨x1, x2⟩ := fnd_r m m4 i (by omega)
      rw [show rE (some i) = nI i from rfl, if_pos x2, y15', gd_pos (show 0 < 11 by decide), st_eq, x1]
      refine ⟨_, rfl, ?_, rgp_trans g0 (rgp_L (Or.inr ⟨rfl, Or.inr rfl⟩)), ?_⟩
      · rw [← Option.some.inj ho]
        exact rRl_giv (W := tyW T) hR0 (fun _ => rfl)
      · rw [← Option.some.inj ho]
        exact tyI_giv hI (fun _ => ⟨gm, hi⟩)
    | none =>
      rw [e] at ho
      rw [if_neg (show ¬ 0 ≤ rE none by decide), y15', gd_pos (show 0 < 11 by decide), st_eq]
      refine ⟨_, rfl, ?_, rgp_trans g0 (rgp_L (Or.inr ⟨rfl, Or.inr rfl⟩)), ?_⟩
      · rw [← Option.some.inj ho]
        exact rRl_giv (W := tyW T) hR0 (fun _ => rfl)
      · rw [← Option.some.inj ho]
        exact tyI_giv hI no7
  rw [if_neg f1] at ho
  rw [if_neg f1]
  by_cases f2 : d_field c = 2
  · rw [if_pos f2] at ho
    refine Or.elim (Classical.em (ty_can vb T (tyC T 3) (vb (nI m)).toNatClampNeg)).symm (fun g3 => ?_) (fun g3 => ?_)
    · rw [ic_f g3] at ho; cases ho
    rw [ic_t g3] at ho
    have h64 := (hmm m gm).2.2.2.2.2.2.1
    obtain ⟨N2, x1, x2, x3⟩ := rval_l hR0 hI hm hB hD gm (by omega) g3 q3 (kn vb m) 0 fuel N0 (by omega) (by unfold fuel; omega) fr_refl (fun a ha => by omega)
    have x1 : f_M_runCall_l93 0 fuel N0 (nI m) 0 = some N2 := x1
    rw [if_pos f2, x1]
    refine ⟨N2, rfl, ?_, rgp_trans g0 x3, ?_⟩
    · rw [← Option.some.inj ho]; exact x2
    · rw [← Option.some.inj ho]
      exact tyI_giv hI no7
  rw [if_neg f2] at ho
  have f3 : d_field c = 3 := by
    rcases hf with k | k | k | k | k | k
    · exact absurd k f1
    · exact absurd k f2
    · exact k
    · exact absurd k f4
    · exact absurd k f5
    · exact absurd k f6
  obtain ⟨N2, x1, x2, x3, x4⟩ := rdel (key := ty_key T (tyC T 2)) hR0.1 hR0.2.2.1 hD gm (fun b hb => (q3 b hb).symm)
  obtain ⟨z1, z2⟩ := rRl_st hR0 x3 del_w x2 x4
  rw [if_neg f2, if_pos f3, r43', bd_some, x1, b2_some, y15', gd_pos (show 0 < 11 by decide), st_eq]
  refine ⟨_, rfl, ?_, rgp_trans g0 (rgp_trans z2 (rgp_L (Or.inr ⟨rfl, Or.inr rfl⟩))), ?_⟩
  · rw [← Option.some.inj ho]
    exact rRl_giv z1 (fun _ => rfl)
  · rw [← Option.some.inj ho]
    exact tyI_giv hI no7
end IRC
