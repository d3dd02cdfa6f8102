/-! PURE: the class reads and writes bytes of an area. -/
section CBY
variable {M N : me_M} {ja A n : Nat} {v : Int64}
theorem crd_l (hR : mR M 5 0 18 = some ja) (hA : mI M 5 0 19 = nI A) (hZ : mZ M 14 ja ≤ 100000) (hn : A + n ≤ mZ M 14 ja) : ∀ (i fu : Nat) (v : Int64), i ≤ n → i < fu → f_Machine_readBytes_l7 0 fu M v (nI i + -1) = some (M, yn (mI M 14 ja) A i v) := by
  intro i
  induction i with
  | zero =>
    intro fu v _ hf
    obtain ⟨fu, rfl⟩ : ∃ f, fu = f + 1 := ⟨fu - 1, by omega⟩
    rw [f_Machine_readBytes_l7, if_pos (show nI 0 + -1 < 0 by decide)]
    rfl
  | succ i ih =>
    intro fu v hi hf
    obtain ⟨fu, rfl⟩ : ∃ f, fu = f + 1 := ⟨fu - 1, by omega⟩
    rw [nI_dec, f_Machine_readBytes_l7, if_neg (nI_ps (by omega)), hR, bd_some, hA, nI_add, nI_tn (by omega), gd_pos (show ¬ (nI (A + i) < 0 ∨ mZ M 14 ja ≤ A + i) from fun z => z.elim (nI_ps (by omega)) (fun q => by omega)), st_eq, ih fu _ (by omega) (by omega)]
    rfl
theorem crd (hR : mR M 5 0 18 = some ja) (hA : mI M 5 0 19 = nI A) (hZ : mZ M 14 ja ≤ 100000) (hn : A + n ≤ mZ M 14 ja) (h8 : n ≤ 8) : f_Machine_readBytes M 0 (nI n) = some (M, yn (mI M 14 ja) A n 0) := by
  unfold f_Machine_readBytes
  rw [st_eq, show nI n - 1 = nI n + -1 from Int32.sub_eq_add_neg ..]
  exact crd_l hR hA hZ hn n fuel 0 (Nat.le_refl _) (by unfold fuel; omega)
theorem cwr_l (hR : mR M 5 0 18 = some ja) (hA : mI M 5 0 19 = nI A) (hZ : mZ M 14 ja ≤ 100000) (hn : A + n ≤ mZ M 14 ja) : ∀ (k i fu : Nat) (N : me_M), i + k = n → k < fu → fr (fun k j => k = 14 ∧ j = ja) M N → (∀ x, mI N 14 ja x = wrb (mI M 14 ja) A i v x) → ∃ N1, f_Machine_writeBytes_l3 0 (nI n) v fu N (nI i) = some N1 ∧ fr (fun k j => k = 14 ∧ j = ja) M N1 ∧ ∀ x, mI N1 14 ja x = wrb (mI M 14 ja) A n v x := by
  intro k
  induction k with
  | zero =>
    intro i fu N e hf g hx
    obtain ⟨fu, rfl⟩ : ∃ f, fu = f + 1 := ⟨fu - 1, by omega⟩
    rw [f_Machine_writeBytes_l3, if_pos (show nI n ≤ nI i from (nI_lei (by omega) (by omega)).mpr (by omega))]
    rw [show i = n by omega] at hx
    exact ⟨N, rfl, g, hx⟩
  | succ k ih =>
    intro i fu N e hf g hx
    obtain ⟨fu, rfl⟩ : ∃ f, fu = f + 1 := ⟨fu - 1, by omega⟩
    have e5 : mI N 5 0 = mI M 5 0 := g.2.2.2.1 5 0 (fun z => absurd z.1 (by decide))
    rw [f_Machine_writeBytes_l3, if_neg (show ¬ nI n ≤ nI i from fun z => by have := (nI_lei (by omega) (by omega)).mp z; omega), g.1, hR, bd_some, e5, hA, nI_add, nI_tn (by omega), g.2.2.1, gd_pos (show ¬ (nI (A + i) < 0 ∨ mZ M 14 ja ≤ A + i) from fun z => z.elim (nI_ps (by omega)) (fun q => by omega)), st_eq, nI_s]
    refine ih (i + 1) fu _ (by omega) (by omega) (fr_trans g (fr_I ⟨rfl, rfl⟩)) ?_
    intro x
    by_cases ex : x = A + i
    · rw [ex, pI_same, nar_b]
      unfold wrb
      rw [if_pos (by omega), show A + i - A = i by omega]
      rfl
    · rw [pI_place ex, hx x]
      unfold wrb
      by_cases c : A ≤ x ∧ x < A + i
      · rw [if_pos c, if_pos (by omega)]
      · rw [if_neg c, if_neg (by omega)]
theorem cwr (hR : mR M 5 0 18 = some ja) (hA : mI M 5 0 19 = nI A) (hZ : mZ M 14 ja ≤ 100000) (hn : A + n ≤ mZ M 14 ja) (h8 : n ≤ 8) : ∃ N1, f_Machine_writeBytes M 0 (nI n) v = some N1 ∧ fr (fun k j => k = 14 ∧ j = ja) M N1 ∧ ∀ x, mI N1 14 ja x = wrb (mI M 14 ja) A n v x := by
  unfold f_Machine_writeBytes
  exact cwr_l hR hA hZ hn n 0 fuel M (by omega) (by unfold fuel; omega) fr_refl (fun x => by unfold wrb; rw [if_neg (by omega)])
end CBY
