/-! PURE: the reference: a state within a kept one. -/
def pQ (k j f : Nat) : Prop := (k = 1 ∧ j = 0 ∧ f = 69) ∨ (k = 13 ∧ (j = 15 ∨ j = 16))
abbrev nL (_ _ _ : Nat) : Prop := False
abbrev rp (M M1 : me_M) : Prop := gf pQ nL M M1
def ta (M : me_M) (x : Nat) : Int32 := if x = 0 then 0 else mI M 13 15 (x - 1)
def tb (M : me_M) (x : Nat) : Int32 := if x = 0 then 0 else mI M 13 16 (x - 1)
theorem cn1 {p m i r w : Int32} {x : fn_N} : cn 1 p m i r w x = (1, 0, 0, 0, 0, 0, x) := by
  unfold cn
  simp
theorem cn2 {p m i r w : Int32} {x : fn_N} : cn 2 p m i r w x = (2, p, 0, 0, 0, 0, fn_ex 0) := by
  unfold cn
  simp
theorem cn3 {p m i r w : Int32} {x : fn_N} : cn 3 p m i r w x = (3, p, 0, 0, 0, 0, fn_ex 0) := by
  unfold cn
  simp
theorem ar_k {k p m i r w p2 m2 i2 r2 w2 : Int32} {x x2 : fn_N} (hk : ¬ k = 0) : c_ar (k, p, m, i, r, w, x) (k, p2, m2, i2, r2, w2, x2) ↔ (p = p2 ∧ m = m2 ∧ r ≤ r2 ∧ ((k = 1 ∨ k = 4 ∨ k = 7) → fn_cov x x2)) := by
  unfold c_ar
  constructor
  · rintro (z | z)
    · exact absurd z.1 hk
    · exact z.2.2
  · intro z
    exact Or.inr ⟨hk, rfl, z⟩
section RE
variable {M M1 M2 N : me_M} {k σ : sT} {D : Nat → Prop} {p i : Nat}
theorem rp_it (h : rp M M1) {w : Int32} {x : Nat} : it M1 w x = it M w x := by
  have e : ∀ k j f, ¬ pQ k j f → mI M1 k j f = mI M k j f := h.2.2.2.1
  have n : ∀ j x, (j = 6 ∨ j = 7 ∨ j = 8 ∨ j = 9 ∨ j = 10) → ¬ pQ 13 j x := by
    rintro j x hj (z | z)
    · exact absurd z.1 (by decide)
    · omega
  unfold it rg
  rw [e 14 8 x (by rintro (z | z) <;> exact absurd z.1 (by decide)), e 13 6 x (n 6 x (by decide)), e 13 7 x (n 7 x (by decide)), e 13 8 x (n 8 x (by decide)), e 13 9 x (n 9 x (by decide))]
  rw [h.2.2.2.2 16 6 x (fun z => z), h.2.2.2.2 16 7 x (fun z => z), h.2.2.2.2 16 8 x (fun z => z), h.2.2.2.2 16 9 x (fun z => z), h.2.2.2.2 16 10 x (fun z => z), h.2.2.2.2 16 11 x (fun z => z)]
theorem rp_rv (h : rp M M1) {r : Nat} : rv M1 r = rv M r := by
  funext j
  unfold rv
  rw [rp_it h, h.2.2.2.1 13 10 _ (by
    rintro (z | z)
    · exact absurd z.1 (by decide)
    · omega)]
theorem rpairs_l (hN : ps_M N) (hp : mI N 1 0 69 = nI p) (hp2 : p < 75) (hT : pT k σ D (p + 1) (ta N) (tb N)) (hi : hid (k i)) (n1 : ¬ cI (k i) = 0) (n2 : ¬ cI (σ i) = 0) : ∀ (n y fu : Nat) (is : Int32), y + n = p → n < fu → (∀ x, x < y → (mI N 13 15 x = cI (k i) ↔ mI N 13 16 x = cI (σ i))) → (¬ is = 0 ↔ ∃ x, x < y ∧ mI N 13 15 x = cI (k i)) → ∃ M1 r, f_M_pairs_l24 0 (cI (k i)) (cI (σ i)) fu N is (nI y) = some (M1, r) ∧ rp N M1 ∧ ((r = 0 ∧ ¬ s_inD (fun j => D j ∨ j = i) k σ) ∨ (r = 1 ∧ ∃ q, mI M1 1 0 69 = nI q ∧ q ≤ p + 1 ∧ pT k σ (fun j => D j ∨ j = i) (q + 1) (ta M1) (tb M1))) := by
  have s1 : ∀ x, x + 1 = x + 1 → ta N (x + 1) = mI N 13 15 x := fun x _ => by unfold ta; rw [if_neg (by omega)]; rfl
  have s2 : ∀ x, x + 1 = x + 1 → tb N (x + 1) = mI N 13 16 x := fun x _ => by unfold tb; rw [if_neg (by omega)]; rfl
  intro n
  induction n with
  | zero =>
    intro y fu is e hf hn his
    obtain ⟨fu, rfl⟩ : ∃ f, fu = f + 1 := ⟨fu - 1, by omega⟩
    have ey : y = p := by omega
    subst ey
    rw [f_M_pairs_l24, hp, if_pos ((nI_lei (by omega) (by omega)).mpr (by omega))]
    by_cases g : is = 0
    · have none_ : ∀ x, x < y → ¬ mI N 13 15 x = cI (k i) := fun x hx z => his.mpr ⟨x, hx, z⟩ g
      rw [if_pos g, rs_66 hN, bd_some, rz_13_15 hN, gd_pos (ix_ok (by omega) (by decide)), nI_tn (by omega), st_eq, rs_67 hN, bd_some, rz_13_16 hN]
      obtain ⟨A, hA⟩ : ∃ A, A = wI N 13 15 y (cI (k i)) := ⟨_, rfl⟩
      rw [← hA]
      have A7 : mI A 1 0 69 = nI y := by rw [hA, pI_I, if_neg (fun z => absurd z.1 (by decide))]; exact hp
      rw [A7, gd_pos (ix_ok (by omega) (by decide)), nI_tn (by omega), st_eq, st_eq]
      obtain ⟨B, hB⟩ : ∃ B, B = wI A 13 16 y (cI (σ i)) := ⟨_, rfl⟩
      rw [← hB]
      have B7 : mI B 1 0 69 = nI y := by rw [hB, pI_I, if_neg (fun z => absurd z.1 (by decide))]; exact A7
      rw [B7, nI_s]
      have fB : rp N B := by
        rw [hB, hA]
        exact gf_trans (gf_I (Or.inr ⟨rfl, Or.inl rfl⟩)) (gf_I (Or.inr ⟨rfl, Or.inr rfl⟩))
      refine ⟨_, 1, rfl, gf_trans fB (gf_I (Or.inl ⟨rfl, rfl, rfl⟩)), Or.inr ⟨rfl, y + 1, pI_same, by omega, ?_⟩⟩
      refine pT_new hT hi ?_ ?_ ?_ ?_
      · intro x hx
        cases x with
        | zero => exact fun z => n1 z.symm
        | succ x => rw [s1 x rfl]; exact none_ x (by omega)
      · intro x hx
        cases x with
        | zero => exact fun z => n2 z.symm
        | succ x => rw [s2 x rfl]; exact fun z => none_ x (by omega) ((hn x (by omega)).mpr z)
      · intro x
        unfold ta
        cases x with
        | zero => rw [if_pos rfl, if_neg (by omega), if_pos rfl]
        | succ x =>
          rw [if_neg (show ¬ x + 1 = 0 by omega), if_neg (show ¬ x + 1 = 0 by omega), Nat.add_sub_cancel, pI_I, if_neg (fun z => absurd z.1 (by decide)), hB, pI_I, if_neg (fun z => absurd z.2.1 (by decide)), hA, pI_I]
          by_cases g2 : x = y
          · rw [if_pos ⟨rfl, rfl, g2⟩, if_pos (by omega)]
          · rw [if_neg (fun z => g2 z.2.2), if_neg (by omega)]
      · intro x
        unfold tb
        cases x with
        | zero => rw [if_pos rfl, if_neg (by omega), if_pos rfl]
        | succ x =>
          rw [if_neg (show ¬ x + 1 = 0 by omega), if_neg (show ¬ x + 1 = 0 by omega), Nat.add_sub_cancel, pI_I, if_neg (fun z => absurd z.1 (by decide)), hB, pI_I]
          by_cases g2 : x = y
          · rw [if_pos ⟨rfl, rfl, g2⟩, if_pos (by omega)]
          · rw [if_neg (fun z => g2 z.2.2), if_neg (by omega), hA, pI_I, if_neg (fun z => absurd z.2.1 (by decide))]
    · rw [if_neg g]
      obtain ⟨x, x1, x2⟩ := his.mp g
      refine ⟨N, 1, rfl, gf_refl, Or.inr ⟨rfl, y, hp, by omega, pT_found hT (x := x + 1) (by omega) ?_ ?_⟩⟩
      · rw [s1 x rfl]; exact x2
      · rw [s2 x rfl]; exact (hn x x1).mp x2
  | succ n ih =>
    intro y fu is e hf hn his
    obtain ⟨fu, rfl⟩ : ∃ f, fu = f + 1 := ⟨fu - 1, by omega⟩
    have hy : y < p := by omega
    rw [f_M_pairs_l24, hp, if_neg (fun z => by have := (nI_lei (by omega) (by omega)).mp z; omega), rs_66 hN, bd_some, rz_13_15 hN, gd_pos (ix_ok (by omega) (by decide)), nI_tn (by omega)]
    have b65 : ∀ a b : Int32, (a = 1 ∧ mI N 13 15 y = cI (k i)) ∨ (a = 0 ∧ ¬ mI N 13 15 y = cI (k i)) → (b = 1 ∧ mI N 13 16 y = cI (σ i)) ∨ (b = 0 ∧ ¬ mI N 13 16 y = cI (σ i)) → ∃ M1 r, f_M_pairs_b65 (f_M_pairs_l24 0 (cI (k i)) (cI (σ i)) fu) 0 (cI (k i)) (cI (σ i)) N is (nI y) b a = some (M1, r) ∧ rp N M1 ∧ ((r = 0 ∧ ¬ s_inD (fun j => D j ∨ j = i) k σ) ∨ (r = 1 ∧ ∃ q, mI M1 1 0 69 = nI q ∧ q ≤ p + 1 ∧ pT k σ (fun j => D j ∨ j = i) (q + 1) (ta M1) (tb M1))) := by
      intro a b ha hb
      unfold f_M_pairs_b65
      have go : ∀ is2 : Int32, (mI N 13 15 y = cI (k i) ↔ mI N 13 16 y = cI (σ i)) → (¬ is2 = 0 ↔ ∃ x, x < y + 1 ∧ mI N 13 15 x = cI (k i)) → ∃ M1 r, f_M_pairs_l24 0 (cI (k i)) (cI (σ i)) fu N is2 (nI (y + 1)) = some (M1, r) ∧ rp N M1 ∧ ((r = 0 ∧ ¬ s_inD (fun j => D j ∨ j = i) k σ) ∨ (r = 1 ∧ ∃ q, mI M1 1 0 69 = nI q ∧ q ≤ p + 1 ∧ pT k σ (fun j => D j ∨ j = i) (q + 1) (ta M1) (tb M1))) := by
        intro is2 heq his2
        refine ih (y + 1) fu is2 (by omega) (by omega) ?_ his2
        intro x hx
        by_cases g : x = y
        · rw [g]; exact heq
        · exact hn x (by omega)
      by_cases g : a = b
      · have heq : (mI N 13 15 y = cI (k i) ↔ mI N 13 16 y = cI (σ i)) := by
          rcases ha with z | z <;> rcases hb with z2 | z2
          · exact ⟨fun _ => z2.2, fun _ => z.2⟩
          · rw [z.1, z2.1] at g; exact absurd g (by decide)
          · rw [z.1, z2.1] at g; exact absurd g (by decide)
          · exact ⟨fun q => absurd q z.2, fun q => absurd q z2.2⟩
        rw [if_pos g]
        by_cases g0 : is = 0
        · have none_ : ∀ x, x < y → ¬ mI N 13 15 x = cI (k i) := fun x hx z => his.mpr ⟨x, hx, z⟩ g0
          rw [if_pos g0, rs_66 hN, bd_some, rz_13_15 hN, gd_pos (ix_ok (by omega) (by decide)), nI_tn (by omega), nI_s]
          by_cases g1 : mI N 13 15 y = cI (k i)
          · rw [if_pos g1]
            exact go 1 heq ⟨fun _ => ⟨y, by omega, g1⟩, fun _ => by decide⟩
          · rw [if_neg g1]
            refine go 0 heq ⟨fun z => absurd rfl z, fun ⟨x, x1, x2⟩ => ?_⟩
            by_cases g3 : x = y
            · rw [g3] at x2; exact absurd x2 g1
            · exact absurd x2 (none_ x (by omega))
        · rw [if_neg g0, nI_s]
          obtain ⟨x, x1, x2⟩ := his.mp g0
          exact go 1 heq ⟨fun _ => ⟨x, by omega, x2⟩, fun _ => by decide⟩
      · rw [if_neg g]
        refine ⟨N, 0, rfl, gf_refl, Or.inl ⟨rfl, pT_bad hT hi (x := y + 1) (by omega) ?_⟩⟩
        rw [s1 y rfl, s2 y rfl]
        intro z
        rcases ha with z1 | z1 <;> rcases hb with z2 | z2
        · exact g (z1.1.trans z2.1.symm)
        · exact z2.2 (z.mp z1.2)
        · exact z1.2 (z.mpr z2.2)
        · exact g (z1.1.trans z2.1.symm)
    have b49 : ∀ a : Int32, (a = 1 ∧ mI N 13 15 y = cI (k i)) ∨ (a = 0 ∧ ¬ mI N 13 15 y = cI (k i)) → ∃ M1 r, f_M_pairs_b49 (f_M_pairs_l24 0 (cI (k i)) (cI (σ i)) fu) 0 (cI (k i)) (cI (σ i)) N is (nI y) a = some (M1, r) ∧ rp N M1 ∧ ((r = 0 ∧ ¬ s_inD (fun j => D j ∨ j = i) k σ) ∨ (r = 1 ∧ ∃ q, mI M1 1 0 69 = nI q ∧ q ≤ p + 1 ∧ pT k σ (fun j => D j ∨ j = i) (q + 1) (ta M1) (tb M1))) := by
      intro a ha
      unfold f_M_pairs_b49
      rw [rs_67 hN, bd_some, rz_13_16 hN, gd_pos (ix_ok (by omega) (by decide)), nI_tn (by omega)]
      by_cases g : mI N 13 16 y = cI (σ i)
      · rw [if_pos g]; exact b65 a 1 ha (Or.inl ⟨rfl, g⟩)
      · rw [if_neg g]; exact b65 a 0 ha (Or.inr ⟨rfl, g⟩)
    by_cases g : mI N 13 15 y = cI (k i)
    · rw [if_pos g]; exact b49 1 (Or.inl ⟨rfl, g⟩)
    · rw [if_neg g]; exact b49 0 (Or.inr ⟨rfl, g⟩)
theorem rpairs (hN : ps_M N) (hp : mI N 1 0 69 = nI p) (hp2 : p < 75) (hT : pT k σ D (p + 1) (ta N) (tb N)) (hi : hid (k i)) : ∃ M1 r, f_M_pairs N 0 (cI (k i)) (cI (σ i)) = some (M1, r) ∧ rp N M1 ∧ ((r = 0 ∧ ¬ s_inD (fun j => D j ∨ j = i) k σ) ∨ (r = 1 ∧ ∃ q, mI M1 1 0 69 = nI q ∧ q ≤ p + 1 ∧ pT k σ (fun j => D j ∨ j = i) (q + 1) (ta M1) (tb M1))) := by
  have z0 : ta N 0 = 0 ∧ tb N 0 = 0 := ⟨if_pos rfl, if_pos rfl⟩
  unfold f_M_pairs
  by_cases n1 : cI (k i) = 0
  · rw [if_pos n1]
    by_cases g : cI (k i) = cI (σ i)
    · rw [if_pos g]
      refine ⟨N, 1, rfl, gf_refl, Or.inr ⟨rfl, p, hp, by omega, pT_found hT (x := 0) (by omega) ?_ ?_⟩⟩
      · rw [z0.1, n1]
      · rw [z0.2, ← g, n1]
    · rw [if_neg g]
      refine ⟨N, 0, rfl, gf_refl, Or.inl ⟨rfl, pT_bad hT hi (x := 0) (by omega) ?_⟩⟩
      rw [z0.1, z0.2]
      exact fun z => g (n1.trans (z.mp n1.symm))
  · rw [if_neg n1]
    by_cases n2 : cI (σ i) = 0
    · rw [if_pos n2, if_neg (fun z => n1 (z.trans n2))]
      refine ⟨N, 0, rfl, gf_refl, Or.inl ⟨rfl, pT_bad hT hi (x := 0) (by omega) ?_⟩⟩
      rw [z0.1, z0.2]
      exact fun z => n1 (z.mpr n2.symm).symm
    · rw [if_neg n2]
      exact rpairs_l hN hp hp2 hT hi n1 n2 p 0 fuel 0 (by omega) (by unfold fuel; omega) (fun x hx => by omega) ⟨fun z => absurd rfl z, fun ⟨x, x1, _⟩ => by omega⟩
theorem pm_covers (h : ps_M M) {x y : Int32} {i j : Nat} (hx : ok x i) (hy : ok y j) : f_M_covers M 0 x y = some (M, b1 (fn_cov (rg M i) (rg M j))) := by
  unfold f_M_covers f_M_covers_b55 f_M_covers_b56 fn_cov
  simp only [rs_53 h, rs_52 h, rs_54 h, rs_55 h, rs_56 h, rs_57 h, bd_some, rz_16_6 h, rz_16_7 h, rz_16_8 h, rz_16_9 h, rz_16_10 h, rz_16_11 h, hx.2.1, hy.2.1, gd, ok_g hx, ok_g hy, if_true, st_eq, pm_below]
  show (if mL M 16 7 j &&& (mL M 16 7 i ^^^ -1) = 0 then _ else _) = some (M, b1 (((mL M 16 7 i ^^^ -1) &&& mL M 16 7 j) = 0 ∧ ((mL M 16 6 i ^^^ mL M 16 6 j) &&& (mL M 16 7 i ^^^ -1)) = 0 ∧ ¬ fn_lt (mL M 16 8 j) (mL M 16 8 i) ∧ ¬ fn_lt (mL M 16 9 i) (mL M 16 9 j) ∧ mL M 16 10 i ≤ mL M 16 10 j ∧ mL M 16 11 j ≤ mL M 16 11 i))
  rw [Int64.and_comm (mL M 16 7 j)]
  by_cases g1 : (mL M 16 7 i ^^^ -1) &&& mL M 16 7 j = 0
  case neg => rw [if_neg g1, b1_f (fun z => g1 z.1)]
  rw [if_pos g1]
  by_cases g2 : (mL M 16 6 i ^^^ mL M 16 6 j) &&& (mL M 16 7 i ^^^ -1) = 0
  case neg => rw [if_neg g2, b1_f (fun z => g2 z.2.1)]
  rw [if_pos g2, if_neg (show ¬ (1 : Int32) = 0 by decide)]
  by_cases g3 : fn_lt (mL M 16 8 j) (mL M 16 8 i)
  · rw [if_pos g3, if_neg (show ¬ (1 : Int32) = 0 by decide), b1_f (fun z => z.2.2.1 g3)]
  rw [if_neg g3, if_pos rfl]
  by_cases g4 : fn_lt (mL M 16 9 i) (mL M 16 9 j)
  · rw [if_pos g4, if_neg (show ¬ (1 : Int32) = 0 by decide), b1_f (fun z => z.2.2.2.1 g4)]
  rw [if_neg g4, if_pos rfl]
  by_cases g5 : mL M 16 10 j < mL M 16 10 i
  · rw [if_pos g5, b1_f (fun z => absurd z.2.2.2.2.1 (by rw [Int64.not_le]; exact g5))]
  rw [if_neg g5]
  by_cases g6 : mL M 16 11 i < mL M 16 11 j
  · rw [if_pos g6, b1_f (fun z => absurd z.2.2.2.2.2 (by rw [Int64.not_le]; exact g6))]
  rw [if_neg g6, b1_t ⟨g1, g2, g3, g4, Int64.not_lt.mp g5, Int64.not_lt.mp g6⟩]
theorem rho_rho {y : Nat} (h : y < 75) : rho (rho y) = y := by
  unfold rho
  by_cases g : y < 11
  · rw [if_pos g, if_pos g]
  · rw [if_neg g, if_neg (by omega)]
    omega
theorem rv_rho {r y : Nat} (h : y < 75) : rv M r (rho y) = it M (if y < 11 then 0 else mI M 13 10 (64 * r + (y - 11))) (75 * r + y) := by
  unfold rv
  rw [rho_rho h]
  by_cases g : y < 11
  · rw [rho_r g, if_pos g, if_pos g]
  · have e : rho y = 85 - y := by unfold rho; rw [if_neg g]
    rw [e, if_neg (by omega), if_neg g, show 74 - (85 - y) = y - 11 by omega]
/-- one item -/
theorem ritem (hN : ps_M N) (hk : kv N) {r y : Nat} (hr : r < 401) (hy : y < 75) (hp : mI N 1 0 69 = nI p) (hp2 : p < 75) (hT : pT (rv N r) (rv N 0) D (p + 1) (ta N) (tb N)) : ∃ M1 q, f_M_isItemWithin N 0 (nI y) (nI r) = some (M1, q) ∧ rp N M1 ∧ ((q = 0 ∧ ¬ (c_ar (rv N r (rho y)) (rv N 0 (rho y)) ∧ s_inD (fun j => D j ∨ j = rho y) (rv N r) (rv N 0))) ∨ (q = 1 ∧ c_ar (rv N r (rho y)) (rv N 0 (rho y)) ∧ ∃ p2, mI M1 1 0 69 = nI p2 ∧ p2 ≤ p + 1 ∧ pT (rv N r) (rv N 0) (fun j => D j ∨ j = rho y) (p2 + 1) (ta M1) (tb M1))) := by
  have oy : ok (nI y) y := ok_n (by omega)
  have ov : ok (nI (75 * r + y)) (75 * r + y) := ok_n (by omega)
  have eK : rv N r (rho y) = it N (if y < 11 then 0 else mI N 13 10 (64 * r + (y - 11))) (75 * r + y) := rv_rho hy
  have eS : rv N 0 (rho y) = it N (if y < 11 then 0 else mI N 13 10 (y - 11)) y := by
    rw [rv_rho hy]
    simp only [Nat.mul_zero, Nat.zero_add]
  obtain ⟨a, ha, ka⟩ := hk (75 * r + y)
  obtain ⟨b, hb, kb'⟩ := hk y
  have kK : cK (rv N r (rho y)) = mI N 14 8 (75 * r + y) := by rw [eK]; rfl
  have kS : cK (rv N 0 (rho y)) = mI N 14 8 y := by rw [eS]; rfl
  -- what may be answered
  have no : ¬ (c_ar (rv N r (rho y)) (rv N 0 (rho y))) → ∃ M1 q, (some (N, (0 : Int32)) : Option (me_M × Int32)) = some (M1, q) ∧ rp N M1 ∧ ((q = 0 ∧ ¬ (c_ar (rv N r (rho y)) (rv N 0 (rho y)) ∧ s_inD (fun j => D j ∨ j = rho y) (rv N r) (rv N 0))) ∨ (q = 1 ∧ c_ar (rv N r (rho y)) (rv N 0 (rho y)) ∧ ∃ p2, mI M1 1 0 69 = nI p2 ∧ p2 ≤ p + 1 ∧ pT (rv N r) (rv N 0) (fun j => D j ∨ j = rho y) (p2 + 1) (ta M1) (tb M1))) := fun z => ⟨N, 0, rfl, gf_refl, Or.inl ⟨rfl, fun q => z q.1⟩⟩
  have yes : ¬ hid (rv N r (rho y)) → c_ar (rv N r (rho y)) (rv N 0 (rho y)) → ∃ M1 q, (some (N, (1 : Int32)) : Option (me_M × Int32)) = some (M1, q) ∧ rp N M1 ∧ ((q = 0 ∧ ¬ (c_ar (rv N r (rho y)) (rv N 0 (rho y)) ∧ s_inD (fun j => D j ∨ j = rho y) (rv N r) (rv N 0))) ∨ (q = 1 ∧ c_ar (rv N r (rho y)) (rv N 0 (rho y)) ∧ ∃ p2, mI M1 1 0 69 = nI p2 ∧ p2 ≤ p + 1 ∧ pT (rv N r) (rv N 0) (fun j => D j ∨ j = rho y) (p2 + 1) (ta M1) (tb M1))) := fun z1 z2 => ⟨N, 1, rfl, gf_refl, Or.inr ⟨rfl, z2, p, hp, by omega, pT_skip hT z1⟩⟩
  have prs : hid (rv N r (rho y)) → c_ar (rv N r (rho y)) (rv N 0 (rho y)) → ∃ M1 q, b2 (f_M_pairs N 0 (cI (rv N r (rho y))) (cI (rv N 0 (rho y)))) (fun M43 r44 => if r44 = 0 then some (M43, (0 : Int32)) else some (M43, (1 : Int32))) = some (M1, q) ∧ rp N M1 ∧ ((q = 0 ∧ ¬ (c_ar (rv N r (rho y)) (rv N 0 (rho y)) ∧ s_inD (fun j => D j ∨ j = rho y) (rv N r) (rv N 0))) ∨ (q = 1 ∧ c_ar (rv N r (rho y)) (rv N 0 (rho y)) ∧ ∃ p2, mI M1 1 0 69 = nI p2 ∧ p2 ≤ p + 1 ∧ pT (rv N r) (rv N 0) (fun j => D j ∨ j = rho y) (p2 + 1) (ta M1) (tb M1))) := by
    intro z1 z2
    obtain ⟨M1, q, a1, a2, a3⟩ := rpairs hN hp hp2 hT z1
    rw [a1, b2_some]
    rcases a3 with z | z
    · rw [if_pos z.1]
      exact ⟨M1, 0, rfl, a2, Or.inl ⟨rfl, fun g => z.2 g.2⟩⟩
    · rw [if_neg (by rw [z.1]; decide)]
      exact ⟨M1, 1, rfl, a2, Or.inr ⟨rfl, z2, z.2⟩⟩
  have nf : ∀ f : Nat, f < 9 → ¬ f = 4 → ¬ f = 8 → mI N 14 8 (75 * r + y) = nI f → ¬ hid (rv N r (rho y)) := by
    intro f hf h4 h8 e z
    have z' : cK (rv N r (rho y)) = 4 ∨ cK (rv N r (rho y)) = 8 := z
    rw [kK, e] at z'
    have q4 : nI f = 4 ↔ f = 4 := by
      constructor
      · intro e2
        have := congrArg Int32.toInt e2
        rw [nI_int (by omega), show (4 : Int32).toInt = 4 from rfl] at this
        omega
      · intro e2; rw [e2]; rfl
    have q8 : nI f = 8 ↔ f = 8 := by
      constructor
      · intro e2
        have := congrArg Int32.toInt e2
        rw [nI_int (by omega), show (8 : Int32).toInt = 8 from rfl] at this
        omega
      · intro e2; rw [e2]; rfl
    rcases z' with z' | z'
    · exact h4 (q4.mp z')
    · exact h8 (q8.mp z')
  unfold f_M_isItemWithin f_M_rowOf
  rw [bd_some, st_eq, row_n, rs_47 hN, bd_some, rz_14_8 hN, ov.2.1, gd_pos (of_eq_true (ok_g ov))]
  by_cases k0 : mI N 14 8 (75 * r + y) = 0
  · have nh : ¬ hid (rv N r (rho y)) := nf 0 (by decide) (by decide) (by decide) k0
    rw [if_pos k0]
    by_cases g : y < 11
    · rw [if_pos (by rw [show (11 : Int32) = nI 11 from rfl, nI_lti (by omega) (by decide)]; exact g)]
      refine yes nh ?_
      rw [eK, eS, if_pos g, if_pos g]
      refine Or.inl ⟨k0, Or.inl ?_⟩
      unfold it
      rw [k0, cn0]
    · rw [if_neg (by rw [show (11 : Int32) = nI 11 from rfl, nI_lti (by omega) (by decide)]; exact g), show nI y - 11 = nI (y - 11) from by
        apply Int32.toInt_inj.mp
        rw [Int32.toInt_sub, nI_int (by omega), nI_int (by omega), show (11 : Int32).toInt = 11 from rfl, Int.bmod_def]
        show (if ((y : Int) - 11) % 4294967296 < (4294967296 + 1) / 2 then _ else _) = _
        omega]
      unfold f_M_areBytesWithin
      rw [rs_58 hN, bd_some, wrow_n, rz_13_10 hN, gd_pos (ix_ok (by omega) (by decide)), nI_tn (by omega), st_eq]
      have eW : cW (rv N r (rho y)) = mI N 13 10 (64 * r + (y - 11)) := by
        rw [eK, if_neg g]
        unfold it
        rw [k0, cn0]
      have eKb : rv N r (rho y) = s_bare (mI N 13 10 (64 * r + (y - 11))) := by
        rw [eK, if_neg g]
        unfold it
        rw [k0, cn0]
      have cr : c_ar (rv N r (rho y)) (rv N 0 (rho y)) ↔ (mI N 13 10 (64 * r + (y - 11)) = 0 ∨ (mI N 14 8 y = 0 ∧ mI N 13 10 (64 * r + (y - 11)) &&& (mI N 13 10 (y - 11) ^^^ -1) = 0) ∨ mI N 14 8 y = 1) := by
        have ew2 : mI N 14 8 y = 0 → cW (rv N 0 (rho y)) = mI N 13 10 (y - 11) := by
          intro z
          rw [eS, if_neg g]
          unfold it
          rw [z, cn0]
        rw [eKb]
        constructor
        · rintro (z | z)
          · rcases z.2 with q | q | q
            · exact Or.inl q
            · have q1 : cK (rv N 0 (rho y)) = 0 := q.1
              rw [kS] at q1
              refine Or.inr (Or.inl ⟨q1, ?_⟩)
              rw [← ew2 q1]
              exact q.2
            · have q1 : cK (rv N 0 (rho y)) = 1 := q
              rw [kS] at q1
              exact Or.inr (Or.inr q1)
          · exact absurd rfl z.1
        · intro z
          refine Or.inl ⟨rfl, ?_⟩
          rcases z with q | q | q
          · exact Or.inl q
          · refine Or.inr (Or.inl ⟨kS.trans q.1, ?_⟩)
            have := q.2
            rw [← ew2 q.1] at this
            exact this
          · exact Or.inr (Or.inr (kS.trans q))
      by_cases w0 : mI N 13 10 (64 * r + (y - 11)) = 0
      · rw [if_pos w0, b2_some, if_neg (by decide)]
        exact yes nh (cr.mpr (Or.inl w0))
      rw [if_neg w0, rs_47 hN, bd_some, n11, show 11 + (y - 11) = y by omega, rz_14_8 hN, oy.2.1, gd_pos (of_eq_true (ok_g oy))]
      by_cases s1 : mI N 14 8 y = 1
      · rw [if_pos s1, b2_some, if_neg (by decide)]
        exact yes nh (cr.mpr (Or.inr (Or.inr s1)))
      rw [if_neg s1]
      by_cases s0 : mI N 14 8 y = 0
      · rw [if_pos s0, gd_pos (ix_ok (by omega) (by decide)), nI_tn (by omega)]
        by_cases g2 : mI N 13 10 (64 * r + (y - 11)) &&& (mI N 13 10 (y - 11) ^^^ -1) = 0
        · rw [if_pos g2, b2_some, if_neg (by decide)]
          exact yes nh (cr.mpr (Or.inr (Or.inl ⟨s0, g2⟩)))
        · rw [if_neg g2, b2_some, if_pos rfl]
          exact no (fun z => by rcases cr.mp z with q | q | q; exact w0 q; exact g2 q.2; exact s1 q)
      · rw [if_neg s0, b2_some, if_pos rfl]
        exact no (fun z => by rcases cr.mp z with q | q | q; exact w0 q; exact s0 q.1; exact s1 q)
  rw [if_neg k0, oy.2.1, gd_pos (of_eq_true (ok_g oy))]
  have cne : ¬ cK (rv N r (rho y)) = 0 := by rw [kK]; exact k0
  by_cases keq : mI N 14 8 y = mI N 14 8 (75 * r + y)
  case neg =>
    rw [if_neg keq]
    refine no (fun z => ?_)
    rcases z with z | z
    · exact cne z.1
    · exact keq (kS.symm.trans ((show cK (rv N r (rho y)) = cK (rv N 0 (rho y)) from z.2.1).symm.trans kK))
  rw [if_pos keq]
  obtain ⟨K, hK⟩ : ∃ K, K = mI N 14 8 (75 * r + y) := ⟨_, rfl⟩
  have eK2 : ∀ w, it N w (75 * r + y) = cn K (mI N 13 6 (75 * r + y)) (mI N 13 7 (75 * r + y)) (mI N 13 8 (75 * r + y)) (mI N 13 9 (75 * r + y)) w (rg N (75 * r + y)) := fun w => by unfold it; rw [hK]
  have eS2 : ∀ w, it N w y = cn K (mI N 13 6 y) (mI N 13 7 y) (mI N 13 8 y) (mI N 13 9 y) w (rg N y) := fun w => by unfold it; rw [keq, hK]
  rw [eK2] at eK
  rw [eS2] at eS
  rw [← hK]
  rw [← hK] at k0 ka
  have sB : ∀ P : Prop, (c_ar (rv N r (rho y)) (rv N 0 (rho y)) ↔ P) → ¬ hid (rv N r (rho y)) → ∃ M1 q, (some (N, b1 P) : Option (me_M × Int32)) = some (M1, q) ∧ rp N M1 ∧ ((q = 0 ∧ ¬ (c_ar (rv N r (rho y)) (rv N 0 (rho y)) ∧ s_inD (fun j => D j ∨ j = rho y) (rv N r) (rv N 0))) ∨ (q = 1 ∧ c_ar (rv N r (rho y)) (rv N 0 (rho y)) ∧ ∃ p2, mI M1 1 0 69 = nI p2 ∧ p2 ≤ p + 1 ∧ pT (rv N r) (rv N 0) (fun j => D j ∨ j = rho y) (p2 + 1) (ta M1) (tb M1))) := by
    intro P e nh
    by_cases g : P
    · rw [b1_t g]; exact yes nh (e.mpr g)
    · rw [b1_f g]; exact no (fun z => g (e.mp z))
  have oneof : K = 1 ∨ K = 2 ∨ K = 3 ∨ K = 4 ∨ K = 5 ∨ K = 6 ∨ K = 7 ∨ K = 8 := by
    rw [ka] at k0 ⊢
    have : ∀ a, a < 9 → ¬ nI a = 0 → nI a = 1 ∨ nI a = 2 ∨ nI a = 3 ∨ nI a = 4 ∨ nI a = 5 ∨ nI a = 6 ∨ nI a = 7 ∨ nI a = 8 := by decide
    exact this a ha k0
  have dB : ∀ (P : Prop) [Decidable P], (c_ar (rv N r (rho y)) (rv N 0 (rho y)) ↔ P) → ¬ hid (rv N r (rho y)) → ∃ M1 q, (if P then some (N, (1 : Int32)) else some (N, 0) : Option (me_M × Int32)) = some (M1, q) ∧ rp N M1 ∧ ((q = 0 ∧ ¬ (c_ar (rv N r (rho y)) (rv N 0 (rho y)) ∧ s_inD (fun j => D j ∨ j = rho y) (rv N r) (rv N 0))) ∨ (q = 1 ∧ c_ar (rv N r (rho y)) (rv N 0 (rho y)) ∧ ∃ p2, mI M1 1 0 69 = nI p2 ∧ p2 ≤ p + 1 ∧ pT (rv N r) (rv N 0) (fun j => D j ∨ j = rho y) (p2 + 1) (ta M1) (tb M1))) := by
    intro P _ e nh
    by_cases g : P
    · rw [if_pos g]; exact yes nh (e.mpr g)
    · rw [if_neg g]; exact no (fun z => g (e.mp z))
  have nhK : ¬ K = 4 → ¬ K = 8 → ¬ hid (rv N r (rho y)) := by
    intro h4 h8 z
    have z' : cK (rv N r (rho y)) = 4 ∨ cK (rv N r (rho y)) = 8 := z
    rw [kK, ← hK] at z'
    exact z'.elim h4 h8
  rcases oneof with c | c | c | c | c | c | c | c
  · rw [if_pos c, pm_covers hN ov oy, b2_some]
    refine sB _ ?_ (nhK (by rw [c]; decide) (by rw [c]; decide))
    rw [eK, eS, c, cn1, cn1, ar_k (by decide)]
    exact ⟨fun z => z.2.2.2 (Or.inl rfl), fun z => ⟨rfl, rfl, Int32.le_refl _, fun _ => z⟩⟩
  · rw [if_neg (by rw [c]; decide), if_pos c, rs_48 hN, bd_some, rz_13_6 hN, gd_pos (of_eq_true (ok_g oy)), gd_pos (of_eq_true (ok_g ov))]
    refine dB _ ?_ (nhK (by rw [c]; decide) (by rw [c]; decide))
    rw [eK, eS, c, cn2, cn2, ar_k (by decide)]
    exact ⟨fun z => z.1.symm, fun z => ⟨z.symm, rfl, Int32.le_refl _, fun q => by rcases q with q | q | q <;> exact absurd q (by decide)⟩⟩
  · rw [if_neg (by rw [c]; decide), if_neg (by rw [c]; decide), if_pos c, rs_48 hN, bd_some, rz_13_6 hN, gd_pos (of_eq_true (ok_g oy)), gd_pos (of_eq_true (ok_g ov))]
    refine dB _ ?_ (nhK (by rw [c]; decide) (by rw [c]; decide))
    rw [eK, eS, c, cn3, cn3, ar_k (by decide)]
    exact ⟨fun z => z.1.symm, fun z => ⟨z.symm, rfl, Int32.le_refl _, fun q => by rcases q with q | q | q <;> exact absurd q (by decide)⟩⟩
  · rw [if_neg (by rw [c]; decide), if_neg (by rw [c]; decide), if_neg (by rw [c]; decide), if_pos c, rs_48 hN, bd_some, rz_13_6 hN, gd_pos (of_eq_true (ok_g oy)), gd_pos (of_eq_true (ok_g ov))]
    rw [c, cn4] at eK eS
    have hh : hid (rv N r (rho y)) := by rw [eK]; exact Or.inl rfl
    have i1 : cI (rv N r (rho y)) = mI N 13 8 (75 * r + y) := by rw [eK]
    have i2 : cI (rv N 0 (rho y)) = mI N 13 8 y := by rw [eS]
    have cr : c_ar (rv N r (rho y)) (rv N 0 (rho y)) ↔ (mI N 13 6 y = mI N 13 6 (75 * r + y) ∧ fn_cov (rg N (75 * r + y)) (rg N y) ∧ ¬ mI N 13 9 y < mI N 13 9 (75 * r + y)) := by
      rw [eK, eS, ar_k (by decide)]
      exact ⟨fun z => ⟨z.1.symm, z.2.2.2 (Or.inr (Or.inl rfl)), Int32.not_lt.mpr z.2.2.1⟩, fun z => ⟨z.1.symm, rfl, Int32.not_lt.mp z.2.2, fun _ => z.2.1⟩⟩
    by_cases g1 : mI N 13 6 y = mI N 13 6 (75 * r + y)
    case neg => rw [if_neg g1]; exact no (fun z => g1 (cr.mp z).1)
    rw [if_pos g1, pm_covers hN ov oy, b2_some]
    by_cases g2 : fn_cov (rg N (75 * r + y)) (rg N y)
    case neg => rw [if_pos (b1_f g2)]; exact no (fun z => g2 (cr.mp z).2.1)
    rw [if_neg (b1_n0 g2), rs_51 hN, bd_some, rz_13_9 hN, gd_pos (of_eq_true (ok_g oy)), gd_pos (of_eq_true (ok_g ov))]
    by_cases g3 : mI N 13 9 y < mI N 13 9 (75 * r + y)
    · rw [if_pos g3]; exact no (fun z => (cr.mp z).2.2 g3)
    rw [if_neg g3, rs_50 hN, bd_some, rz_13_8 hN, gd_pos (of_eq_true (ok_g ov)), gd_pos (of_eq_true (ok_g oy)), ← i1, ← i2]
    exact prs hh (cr.mpr ⟨g1, g2, g3⟩)
  · rw [if_neg (by rw [c]; decide), if_neg (by rw [c]; decide), if_neg (by rw [c]; decide), if_neg (by rw [c]; decide), if_pos c]
    refine yes (nhK (by rw [c]; decide) (by rw [c]; decide)) ?_
    rw [eK, eS, c, cn5, cn5, ar_k (by decide)]
    exact ⟨rfl, rfl, Int32.le_refl _, fun q => by rcases q with q | q | q <;> exact absurd q (by decide)⟩
  · rw [if_neg (by rw [c]; decide), if_neg (by rw [c]; decide), if_neg (by rw [c]; decide), if_neg (by rw [c]; decide), if_neg (by rw [c]; decide), if_pos c, rs_49 hN, bd_some, rz_13_7 hN, gd_pos (of_eq_true (ok_g oy)), gd_pos (of_eq_true (ok_g ov))]
    refine dB _ ?_ (nhK (by rw [c]; decide) (by rw [c]; decide))
    rw [eK, eS, c, cn6, cn6, ar_k (by decide)]
    exact ⟨fun z => z.2.1.symm, fun z => ⟨rfl, z.symm, Int32.le_refl _, fun q => by rcases q with q | q | q <;> exact absurd q (by decide)⟩⟩
  · rw [if_neg (by rw [c]; decide), if_neg (by rw [c]; decide), if_neg (by rw [c]; decide), if_neg (by rw [c]; decide), if_neg (by rw [c]; decide), if_neg (by rw [c]; decide), if_pos c, rs_48 hN, bd_some, rz_13_6 hN, gd_pos (of_eq_true (ok_g oy)), gd_pos (of_eq_true (ok_g ov))]
    have nh := nhK (by rw [c]; decide) (by rw [c]; decide)
    have cr : c_ar (rv N r (rho y)) (rv N 0 (rho y)) ↔ (mI N 13 6 y = mI N 13 6 (75 * r + y) ∧ mI N 13 7 y = mI N 13 7 (75 * r + y) ∧ fn_cov (rg N (75 * r + y)) (rg N y)) := by
      rw [eK, eS, c, cn7, cn7, ar_k (by decide)]
      exact ⟨fun z => ⟨z.1.symm, z.2.1.symm, z.2.2.2 (Or.inr (Or.inr rfl))⟩, fun z => ⟨z.1.symm, z.2.1.symm, Int32.le_refl _, fun _ => z.2.2⟩⟩
    by_cases g1 : mI N 13 6 y = mI N 13 6 (75 * r + y)
    case neg => rw [if_neg g1]; exact no (fun z => g1 (cr.mp z).1)
    rw [if_pos g1, rs_49 hN, bd_some, rz_13_7 hN, gd_pos (of_eq_true (ok_g oy)), gd_pos (of_eq_true (ok_g ov))]
    by_cases g2 : mI N 13 7 y = mI N 13 7 (75 * r + y)
    case neg => rw [if_neg g2]; exact no (fun z => g2 (cr.mp z).2.1)
    rw [if_pos g2, pm_covers hN ov oy, b2_some]
    by_cases g3 : fn_cov (rg N (75 * r + y)) (rg N y)
    · rw [if_neg (b1_n0 g3)]; exact yes nh (cr.mpr ⟨g1, g2, g3⟩)
    · rw [if_pos (b1_f g3)]; exact no (fun z => g3 (cr.mp z).2.2)
  · rw [if_neg (by rw [c]; decide), if_neg (by rw [c]; decide), if_neg (by rw [c]; decide), if_neg (by rw [c]; decide), if_neg (by rw [c]; decide), if_neg (by rw [c]; decide), if_neg (by rw [c]; decide), if_pos c, rs_49 hN, bd_some, rz_13_7 hN, gd_pos (of_eq_true (ok_g oy)), gd_pos (of_eq_true (ok_g ov))]
    rw [c, cn8] at eK eS
    have hh : hid (rv N r (rho y)) := by rw [eK]; exact Or.inr rfl
    have i1 : cI (rv N r (rho y)) = mI N 13 8 (75 * r + y) := by rw [eK]
    have i2 : cI (rv N 0 (rho y)) = mI N 13 8 y := by rw [eS]
    have cr : c_ar (rv N r (rho y)) (rv N 0 (rho y)) ↔ mI N 13 7 y = mI N 13 7 (75 * r + y) := by
      rw [eK, eS, ar_k (by decide)]
      exact ⟨fun z => z.2.1.symm, fun z => ⟨rfl, z.symm, Int32.le_refl _, fun q => by rcases q with q | q | q <;> exact absurd q (by decide)⟩⟩
    by_cases g1 : mI N 13 7 y = mI N 13 7 (75 * r + y)
    case neg => rw [if_neg g1]; exact no (fun z => g1 (cr.mp z))
    rw [if_pos g1, rs_50 hN, bd_some, rz_13_8 hN, gd_pos (of_eq_true (ok_g ov)), gd_pos (of_eq_true (ok_g oy)), ← i1, ← i2]
    exact prs hh (cr.mpr g1)
theorem rwithin_l (h : ps_M M) (hk : kv M) {r : Nat} (hr : r < 401) : ∀ (m y fu : Nat) (N : me_M), y + m = 75 → m < fu → rp M N → (∃ p, mI N 1 0 69 = nI p ∧ p ≤ y ∧ pT (rv M r) (rv M 0) (fun i => i < 75 ∧ rho i < y) (p + 1) (ta N) (tb N)) → (∀ i, i < 75 → rho i < y → c_ar (rv M r i) (rv M 0 i)) → ∃ M1, f_M_isWithin_l9 0 (nI r) fu N 1 (nI y) = some (M1, b1 (s_in (rv M r) (rv M 0))) ∧ rp M M1 := by
  intro m
  induction m with
  | zero =>
    intro y fu N e hf gN hp hc
    obtain ⟨fu, rfl⟩ : ∃ f, fu = f + 1 := ⟨fu - 1, by omega⟩
    have ey : y = 75 := by omega
    subst ey
    obtain ⟨p, p1, p2, p3⟩ := hp
    rw [f_M_isWithin_l9, if_pos (by decide)]
    refine ⟨N, congrArg (fun z => some (N, z)) (b1_t ?_).symm, gN⟩
    have inD := pT_in p3 (fun i hi => hc i hi.1 hi.2)
    exact in_mono inD (fun i hi => ⟨hi, rho_lt hi⟩)
  | succ m ih =>
    intro y fu N e hf gN hp hc
    obtain ⟨fu, rfl⟩ : ∃ f, fu = f + 1 := ⟨fu - 1, by omega⟩
    obtain ⟨p, p1, p2, p3⟩ := hp
    have hN : ps_M N := gf_ps gN h
    have kN : kv N := kv_eq hk (fun q => gN.2.2.2.1 14 8 q (by rintro (z | z) <;> exact absurd z.1 (by decide)))
    have vr : rv N r = rv M r := rp_rv gN
    have v0 : rv N 0 = rv M 0 := rp_rv gN
    obtain ⟨A, q, a1, a2, a3⟩ := ritem (D := fun i => i < 75 ∧ rho i < y) hN kN hr (show y < 75 by omega) p1 (by omega) (by rw [vr, v0]; exact p3)
    rw [vr, v0] at a3
    rw [f_M_isWithin_l9, if_neg (by rw [show (75 : Int32) = nI 75 from rfl, nI_lei (by omega) (by omega)]; omega), if_neg (by decide), a1, b2_some, nI_s]
    have Deq : (fun j => (j < 75 ∧ rho j < y) ∨ j = rho y) = (fun j => j < 75 ∧ rho j < y + 1) := by
      funext j
      refine propext ⟨fun z => ?_, fun z => ?_⟩
      · rcases z with z | z
        · exact ⟨z.1, by omega⟩
        · rw [z]
          exact ⟨rho_lt (by omega), by rw [rho_rho (by omega)]; omega⟩
      · by_cases g : rho j < y
        · exact Or.inl ⟨z.1, g⟩
        · refine Or.inr ?_
          have : rho j = y := by omega
          rw [← this, rho_rho z.1]
    rcases a3 with z | z
    · rw [z.1]
      obtain ⟨fu2, rfl⟩ : ∃ f, fu = f + 1 := ⟨fu - 1, by omega⟩
      have last : f_M_isWithin_l9 0 (nI r) (fu2 + 1) A 0 (nI (y + 1)) = some (A, 0) := by
        rw [f_M_isWithin_l9, if_pos rfl, ite_self]
      rw [last]
      refine ⟨A, congrArg (fun w => some (A, w)) (b1_f ?_).symm, gf_trans gN a2⟩
      intro w
      refine z.2 ⟨w.1 (rho y) (rho_lt (by omega)), in_mono w (fun i hi => ?_)⟩
      rcases hi with hi | hi
      · exact hi.1
      · rw [hi]; exact rho_lt (by omega)
    · rw [z.1]
      obtain ⟨p3', q1, q2, q3⟩ := z.2.2
      rw [Deq] at q3
      refine ih (y + 1) fu A (by omega) (by omega) (gf_trans gN a2) ⟨p3', q1, by omega, q3⟩ ?_
      intro i hi hi2
      by_cases g : rho i < y
      · exact hc i hi g
      · have e2 : i = rho y := by
          have : rho i = y := by omega
          rw [← this, rho_rho hi]
        rw [e2]
        exact z.2.1
theorem rwithin (h : ps_M M) (hk : kv M) {r : Nat} (hr : r < 401) : ∃ M1, f_M_isWithin M 0 (nI r) = some (M1, b1 (s_in (rv M r) (rv M 0))) ∧ rp M M1 := by
  unfold f_M_isWithin
  rw [st_eq]
  exact rwithin_l h hk hr 75 0 fuel (wI M 1 0 69 0) (by omega) (by unfold fuel; omega) (gf_I (Or.inl ⟨rfl, rfl, rfl⟩)) ⟨0, pI_same, by omega, pT_0 (if_pos rfl) (if_pos rfl) (fun i hi => by omega)⟩ (fun i hi h2 => by omega)
end RE
