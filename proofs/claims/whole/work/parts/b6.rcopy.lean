/-! PURE: the reference's rows: copied. -/
/-- ints at A and longs at B are changed, nothing else -/
def gf (A B : Nat → Nat → Nat → Prop) (M M1 : me_M) : Prop := mR M1 = mR M ∧ mN M1 = mN M ∧ mZ M1 = mZ M ∧ (∀ k j f, ¬ A k j f → mI M1 k j f = mI M k j f) ∧ ∀ k j f, ¬ B k j f → mL M1 k j f = mL M k j f
def gA (S T O : Nat → Prop) (k j f : Nat) : Prop := (iA k j ∧ S f) ∨ (k = 13 ∧ j = 10 ∧ T f) ∨ (k = 1 ∧ j = 0 ∧ O f)
def gB (S : Nat → Prop) (k j f : Nat) : Prop := k = 16 ∧ (6 ≤ j ∧ j ≤ 11) ∧ S f
/-- items of S, written of T, the reference's own ints of O -/
def rJ (S T O : Nat → Prop) (M M1 : me_M) : Prop := gf (gA S T O) (gB S) M M1
abbrev iR (r f : Nat) : Prop := 75 * r ≤ f ∧ f < 75 * r + 75
abbrev iW (r f : Nat) : Prop := 64 * r ≤ f ∧ f < 64 * r + 64
section GF
variable {M M1 M2 : me_M} {A B A2 B2 : Nat → Nat → Nat → Prop} {S T O S2 T2 O2 : Nat → Prop} {i : Nat} {w : Int32}
theorem gf_refl : gf A B M M := ⟨rfl, rfl, rfl, fun _ _ _ _ => rfl, fun _ _ _ _ => rfl⟩
theorem gf_trans (h : gf A B M M1) (g : gf A B M1 M2) : gf A B M M2 := ⟨g.1.trans h.1, g.2.1.trans h.2.1, g.2.2.1.trans h.2.2.1, fun k j f a => (g.2.2.2.1 k j f a).trans (h.2.2.2.1 k j f a), fun k j f a => (g.2.2.2.2 k j f a).trans (h.2.2.2.2 k j f a)⟩
theorem gf_mono (h : gf A B M M1) (g : ∀ k j f, A k j f → A2 k j f) (g2 : ∀ k j f, B k j f → B2 k j f) : gf A2 B2 M M1 := ⟨h.1, h.2.1, h.2.2.1, fun k j f a => h.2.2.2.1 k j f (fun z => a (g k j f z)), fun k j f a => h.2.2.2.2 k j f (fun z => a (g2 k j f z))⟩
theorem gf_I {k j f : Nat} {v : Int32} (h : A k j f) : gf A B M (wI M k j f v) := by
  refine ⟨rfl, rfl, rfl, ?_, fun _ _ _ _ => rfl⟩
  intro a b c z
  exact if_neg (fun q => z (by rw [q.1, q.2.1, q.2.2]; exact h))
theorem gf_L {k j f : Nat} {v : Int64} (h : B k j f) : gf A B M (wL M k j f v) := by
  refine ⟨rfl, rfl, rfl, fun _ _ _ _ => rfl, ?_⟩
  intro a b c z
  exact if_neg (fun q => z (by rw [q.1, q.2.1, q.2.2]; exact h))
theorem gf_ps (h : gf A B M M1) (g : ps_M M) : ps_M M1 := ps_M_of h.1 h.2.2.1 g
theorem rJ_refl : rJ S T O M M := gf_refl
theorem rJ_trans (h : rJ S T O M M1) (g : rJ S T O M1 M2) : rJ S T O M M2 := gf_trans h g
theorem rJ_mono (h : rJ S T O M M1) (a : ∀ i, S i → S2 i) (b : ∀ i, T i → T2 i) (c : ∀ i, O i → O2 i) : rJ S2 T2 O2 M M1 := gf_mono h (fun k j f z => by
  rcases z with z | z | z
  · exact Or.inl ⟨z.1, a f z.2⟩
  · exact Or.inr (Or.inl ⟨z.1, z.2.1, b f z.2.2⟩)
  · exact Or.inr (Or.inr ⟨z.1, z.2.1, c f z.2.2⟩)) (fun k j f z => ⟨z.1, z.2.1, a f z.2.2⟩)
theorem rJ_ps (h : rJ S T O M M1) (g : ps_M M) : ps_M M1 := gf_ps h g
theorem rJ_f (h : rf S T M M1) : rJ S T O M M1 := ⟨h.1, h.2.1, h.2.2.1, fun k j f a => h.2.2.2.1 k j f (fun z => a (Or.inl z)) (fun z => a (Or.inr (Or.inl z))), h.2.2.2.2⟩
theorem rJ_G (h : rG S T M M1) (g : O 59) : rJ S T O M M1 := ⟨h.1, h.2.1, h.2.2.1, fun k j f a => h.2.2.2.1 k j f (fun z => a (Or.inl z)) (fun z => a (Or.inr (Or.inl z))) (fun z => a (Or.inr (Or.inr ⟨z.1, z.2.1, by rw [z.2.2]; exact g⟩))), h.2.2.2.2⟩
theorem rJ_o {f : Nat} {v : Int32} (g : O f) : rJ S T O M (wI M 1 0 f v) := gf_I (Or.inr (Or.inr ⟨rfl, rfl, g⟩))
theorem rJ_rg (h : rJ S T O M M1) (g : ¬ S i) : rg M1 i = rg M i := by
  unfold rg
  rw [h.2.2.2.2 16 6 i (fun z => g z.2.2), h.2.2.2.2 16 7 i (fun z => g z.2.2), h.2.2.2.2 16 8 i (fun z => g z.2.2), h.2.2.2.2 16 9 i (fun z => g z.2.2), h.2.2.2.2 16 10 i (fun z => g z.2.2), h.2.2.2.2 16 11 i (fun z => g z.2.2)]
theorem gA_i {k j : Nat} (hk : ¬ k = 1) (hj : ¬ (k = 13 ∧ j = 10)) (g : ¬ S i) : ¬ gA S T O k j i := by
  rintro (z | z | z)
  · exact g z.2
  · exact hj ⟨z.1, z.2.1⟩
  · exact hk z.1
theorem rJ_it (h : rJ S T O M M1) (g : ¬ S i) : it M1 w i = it M w i := by
  unfold it
  rw [rJ_rg h g, h.2.2.2.1 14 8 i (gA_i (by decide) (by decide) g), h.2.2.2.1 13 6 i (gA_i (by decide) (by decide) g), h.2.2.2.1 13 7 i (gA_i (by decide) (by decide) g), h.2.2.2.1 13 8 i (gA_i (by decide) (by decide) g), h.2.2.2.1 13 9 i (gA_i (by decide) (by decide) g)]
theorem rJ_k (h : rJ S T O M M1) (g : ¬ S i) : mI M1 14 8 i = mI M 14 8 i := h.2.2.2.1 14 8 i (gA_i (by decide) (by decide) g)
theorem rJ_w (h : rJ S T O M M1) (g : ¬ T i) : mI M1 13 10 i = mI M 13 10 i := h.2.2.2.1 13 10 i (by
  rintro (z | z | z)
  · rcases z.1 with q | q
    · exact absurd q.1 (by decide)
    · omega
  · exact g z.2.2
  · exact absurd z.1 (by decide))
theorem rJ_1 (h : rJ S T O M M1) (g : ¬ O i) : mI M1 1 0 i = mI M 1 0 i := h.2.2.2.1 1 0 i (by
  rintro (z | z | z)
  · rcases z.1 with q | q <;> exact absurd q.1 (by decide)
  · exact absurd z.1 (by decide)
  · exact g z.2.2)
theorem rho_lt {j : Nat} (h : j < 75) : rho j < 75 := by unfold rho; split <;> omega
theorem rJ_rv {r : Nat} (h : rJ S T O M M1) (a : ∀ f, iR r f → ¬ S f) (b : ∀ f, iW r f → ¬ T f) : ∀ j, j < 75 → rv M1 r j = rv M r j := by
  intro j hj
  have := rho_lt hj
  unfold rv
  rw [rJ_it h (a (75 * r + rho j) (by omega))]
  by_cases g : j < 11
  · rw [if_pos g, if_pos g]
  · rw [if_neg g, if_neg g, rJ_w h (b _ (by omega))]
/-- one item of a row is changed -/
theorem rv_at {r x : Nat} (hx : x < 75) : ∃ j, j < 75 ∧ rho j = x := by
  by_cases g : x < 11
  · exact ⟨x, hx, by unfold rho; rw [if_pos g]⟩
  · exact ⟨85 - x, by omega, by unfold rho; rw [if_neg (by omega)]; omega⟩
end GF
section RR
variable {M M1 M2 : me_M} {a b : Nat}
theorem mul_nI {a b : Nat} : nI a * nI b = nI (a * b) := by
  unfold nI
  exact (Int32.ofNat_mul a b).symm
theorem row_n {a y : Nat} : (75 : Int32) * nI a + nI y = nI (75 * a + y) := by
  rw [show (75 : Int32) = nI 75 from rfl, mul_nI, nI_add]
theorem wrow_n {a y : Nat} : (64 : Int32) * nI a + nI y = nI (64 * a + y) := by
  rw [show (64 : Int32) = nI 64 from rfl, mul_nI, nI_add]
theorem rcopy_w (ha : a < 401) (hb : b < 401) (hab : ¬ a = b) : ∀ (k y fu : Nat) (N : me_M), ps_M N → rf (iR b) (iW b) M N → kv N → (∀ x, x < 75 → ∀ w, it N w (75 * b + x) = it M w (75 * a + x)) → (∀ x, x < y → mI N 13 10 (64 * b + x) = mI M 13 10 (64 * a + x)) → y + k = 64 → k < fu → ∃ M1, f_M_copyState_l32 0 (nI a) (nI b) fu N (nI y) = some M1 ∧ rf (iR b) (iW b) M M1 ∧ kv M1 ∧ (∀ x, x < 75 → ∀ w, it M1 w (75 * b + x) = it M w (75 * a + x)) ∧ (∀ x, x < 64 → mI M1 13 10 (64 * b + x) = mI M 13 10 (64 * a + x)) := by
  intro k
  induction k with
  | zero =>
    intro y fu N hN gN kN i1 i2 e hf
    obtain ⟨fu, rfl⟩ : ∃ f, fu = f + 1 := ⟨fu - 1, by omega⟩
    rw [f_M_copyState_l32, if_pos (by rw [show (64 : Int32) = nI 64 from rfl, nI_lei (by omega) (by omega)]; omega)]
    exact ⟨N, rfl, gN, kN, i1, fun x hx => i2 x (by omega)⟩
  | succ k ih =>
    intro y fu N hN gN kN i1 i2 e hf
    obtain ⟨fu, rfl⟩ : ∃ f, fu = f + 1 := ⟨fu - 1, by omega⟩
    have e0 : mI N 13 10 (64 * a + y) = mI M 13 10 (64 * a + y) := gN.2.2.2.1 13 10 _ (fun z => by
      rcases z.1 with q | q
      · exact absurd q.1 (by decide)
      · omega) (fun z => by have := z.2.2; omega)
    rw [f_M_copyState_l32, if_neg (by rw [show (64 : Int32) = nI 64 from rfl, nI_lei (by omega) (by omega)]; omega), rs_58 hN, bd_some, wrow_n, wrow_n, rz_13_10 hN, gd_pos (ix_ok (by omega) (by decide)), gd_pos (ix_ok (by omega) (by decide)), nI_tn (by omega), nI_tn (by omega), st_eq, nI_s, e0]
    refine ih (y + 1) fu _ (ps_W hN) (rf_trans gN (rf_W (by show 64 * b ≤ 64 * b + y ∧ _; omega))) (kv_W kN) (fun x hx w => by rw [it_W]; exact i1 x hx w) ?_ (by omega) (by omega)
    intro x hx
    by_cases g : x = y
    · rw [g, pI_same]
    · rw [pI_place (by omega)]
      exact i2 x (by omega)
theorem rcopy_i (ha : a < 401) (hb : b < 401) (hab : ¬ a = b) : ∀ (k y fu : Nat) (N : me_M), ps_M N → rf (iR b) (iW b) M N → kv N → (∀ x, x < y → ∀ w, it N w (75 * b + x) = it M w (75 * a + x)) → y + k = 75 → k < fu → ∃ M1, f_M_copyState_l2 0 (nI a) (nI b) fu N (nI y) = some M1 ∧ rf (iR b) (iW b) M M1 ∧ kv M1 ∧ (∀ x, x < 75 → ∀ w, it M1 w (75 * b + x) = it M w (75 * a + x)) ∧ (∀ x, x < 64 → mI M1 13 10 (64 * b + x) = mI M 13 10 (64 * a + x)) := by
  intro k
  induction k with
  | zero =>
    intro y fu N hN gN kN i1 e hf
    obtain ⟨fu, rfl⟩ : ∃ f, fu = f + 1 := ⟨fu - 1, by omega⟩
    rw [f_M_copyState_l2, if_pos (by rw [show (75 : Int32) = nI 75 from rfl, nI_lei (by omega) (by omega)]; omega), show (0 : Int32) = nI 0 from rfl]
    exact rcopy_w ha hb hab 64 0 fuel N hN gN kN (fun x hx => i1 x (by omega)) (fun x hx => by omega) (by omega) (by unfold fuel; omega)
  | succ k ih =>
    intro y fu N hN gN kN i1 e hf
    obtain ⟨fu, rfl⟩ : ∃ f, fu = f + 1 := ⟨fu - 1, by omega⟩
    have eA : ∀ w, it N w (75 * a + y) = it M w (75 * a + y) := fun w => rf_it gN (fun z => by omega)
    unfold f_M_copyState_l2 f_M_rowOf
    rw [if_neg (by rw [show (75 : Int32) = nI 75 from rfl, nI_lei (by omega) (by omega)]; omega), bd_some, bd_some, row_n, row_n, pi_copy hN (kv_b kN) (ok_n (show 75 * a + y < 30081 by omega)) (ok_n (show 75 * b + y < 30081 by omega)), bd_some, nI_s]
    have fN : rf (fun f => f = 75 * b + y) mT N (rt (ii N (75 * b + y) (mI N 14 8 (75 * a + y)) (mI N 13 6 (75 * a + y)) (mI N 13 7 (75 * a + y)) (mI N 13 8 (75 * a + y)) (mI N 13 9 (75 * a + y))) (75 * b + y) (rg N (75 * a + y))) := rf_trans (rf_ii rfl) (rf_rt rfl)
    have iN : ∀ w, it (rt (ii N (75 * b + y) (mI N 14 8 (75 * a + y)) (mI N 13 6 (75 * a + y)) (mI N 13 7 (75 * a + y)) (mI N 13 8 (75 * a + y)) (mI N 13 9 (75 * a + y))) (75 * b + y) (rg N (75 * a + y))) w (75 * b + y) = it M w (75 * a + y) := by
      intro w
      rw [it_both, ← eA w]
      rfl
    have kN2 : kv (rt (ii N (75 * b + y) (mI N 14 8 (75 * a + y)) (mI N 13 6 (75 * a + y)) (mI N 13 7 (75 * a + y)) (mI N 13 8 (75 * a + y)) (mI N 13 9 (75 * a + y))) (75 * b + y) (rg N (75 * a + y))) := by
      obtain ⟨n, hn, en⟩ := kN (75 * a + y)
      rw [en]
      exact kv_rt (kv_ii kN hn)
    have hN2 : ps_M (rt (ii N (75 * b + y) (mI N 14 8 (75 * a + y)) (mI N 13 6 (75 * a + y)) (mI N 13 7 (75 * a + y)) (mI N 13 8 (75 * a + y)) (mI N 13 9 (75 * a + y))) (75 * b + y) (rg N (75 * a + y))) := ps_t (ps_ii hN)
    generalize rt (ii N (75 * b + y) (mI N 14 8 (75 * a + y)) (mI N 13 6 (75 * a + y)) (mI N 13 7 (75 * a + y)) (mI N 13 8 (75 * a + y)) (mI N 13 9 (75 * a + y))) (75 * b + y) (rg N (75 * a + y)) = P at fN iN kN2 hN2
    refine ih (y + 1) fu P hN2 (rf_trans gN (rf_mono fN (fun j z => by show 75 * b ≤ j ∧ _; omega) (fun j z => z.elim))) kN2 ?_ (by omega) (by omega)
    intro x hx w
    by_cases g : x = y
    · rw [g]; exact iN w
    · rw [rf_it fN (by omega)]
      exact i1 x (by omega) w
/-- row a into row b -/
theorem rcopy (h : ps_M M) (hk : kv M) (ha : a < 401) (hb : b < 401) (hab : ¬ a = b) : ∃ M1, f_M_copyState M 0 (nI a) (nI b) = some M1 ∧ rf (iR b) (iW b) M M1 ∧ kv M1 ∧ ∀ j, j < 75 → rv M1 b j = rv M a j := by
  unfold f_M_copyState
  obtain ⟨M1, a1, a2, a3, a4, a5⟩ := rcopy_i (M := M) ha hb hab 75 0 fuel M h rf_refl hk (fun x hx => by omega) (by omega) (by unfold fuel; omega)
  refine ⟨M1, a1, a2, a3, ?_⟩
  intro j hj
  unfold rv
  rw [a4 (rho j) (rho_lt hj)]
  by_cases g : j < 11
  · rw [if_pos g, if_pos g]
  · rw [if_neg g, if_neg g, a5 (74 - j) (by omega)]
end RR
