/-! PURE: a new map of the reference. -/
section JRM
variable {R S : me_M} {nm e : Nat} {t x2 x3 : Int32}
def rth (t : Int32) (e b : Nat) : Int32 := if t = 0 then (if e ≤ b then 0 else 1) else 0
theorem r152 (hp : ps_M R) (h3 : mI R 1 0 3 = nI nm) (hn : nm < 4) (he : e ≤ 64) : ∀ (k i fu : Nat) (S : me_M), i + k = 64 → k < fu → gf (fun k j q => k = 15 ∧ j = 0 ∧ 64 * nm ≤ q) (fun _ _ _ => False) R S → (∀ b, b < i → mI S 15 0 (64 * nm + b) = rth t e b) → ∃ S1, f_M_map_l152 0 t (nI e) fu S (nI i) = some (wI S1 1 0 3 (nI (nm + 1)), nI nm) ∧ gf (fun k j q => k = 15 ∧ j = 0 ∧ 64 * nm ≤ q) (fun _ _ _ => False) R S1 ∧ ∀ b, b < 64 → mI S1 15 0 (64 * nm + b) = rth t e b := by
  intro k
  induction k with
  | zero =>
    intro i fu S e1 hf g1 g2
    obtain ⟨fu, rfl⟩ : ∃ q, fu = q + 1 := ⟨fu - 1, by omega⟩
    have : i = 64 := by omega
    rw [this] at g2 ⊢
    refine ⟨S, ?_, g1, g2⟩
    have e3 : mI S 1 0 3 = nI nm := by rw [g1.2.2.2.1 1 0 3 (fun z => absurd z.1 (by decide))]; exact h3
    have em : ∀ q, q < 4 → nI (q + 1) - 1 = nI q := by decide
    rw [f_M_map_l152, if_pos (by decide), st_eq, pI_same, e3, nI_s, em nm hn]
  | succ k ih =>
    intro i fu S e1 hf g1 g2
    obtain ⟨fu, rfl⟩ : ∃ q, fu = q + 1 := ⟨fu - 1, by omega⟩
    have hps := gf_ps g1 hp
    have e3 : mI S 1 0 3 = nI nm := by rw [g1.2.2.2.1 1 0 3 (fun z => absurd z.1 (by decide))]; exact h3
    obtain ⟨S1, n1, n2⟩ := ih (i + 1) fu (wI S 15 0 (64 * nm + i) (rth t e i)) (by omega) (by omega) (gf_trans g1 (gf_I ⟨rfl, rfl, by omega⟩)) (fun b hb => by
      by_cases q : b = i
      · rw [q]; exact pI_same
      · rw [pI_place (by omega)]; exact g2 b (by omega))
    refine ⟨S1, ?_, n2⟩
    rw [← n1, f_M_map_l152, if_neg (show ¬ (64 : Int32) ≤ nI i from fun z => by have := (nI_lei (a := 64) (by omega) (by omega)).mp z; omega), rs_9 hps, bd_some, e3, ix_h, nI_tn (by omega), rz_15_0 hps, nI_s]
    unfold rth
    by_cases q : t = 0
    · rw [if_pos q, if_pos q]
      by_cases r : e ≤ i
      · rw [if_pos ((nI_lei (by omega) (by omega)).mpr r), if_pos r, gd_pos (ix_t (by omega) (by omega)), st_eq]; rfl
      · rw [if_neg (fun z => r ((nI_lei (by omega) (by omega)).mp z)), if_neg r, gd_pos (ix_t (by omega) (by omega)), st_eq]; rfl
    · rw [if_neg q, if_neg q, gd_pos (ix_t (by omega) (by omega)), st_eq]; rfl
def rN (R : me_M) (nm : Nat) (t x2 x3 x4 : Int32) : me_M := wI (wI (wI (wI (wI R 1 0 0 0) 13 0 nm t) 13 1 nm x2) 13 2 nm x3) 13 3 nm x4
theorem rN_g {x4 : Int32} : gf (fun k j q => (k = 13 ∧ j ≤ 3 ∧ q = nm) ∨ (k = 1 ∧ j = 0 ∧ q = 0)) (fun _ _ _ => False) R (rN R nm t x2 x3 x4) := by
  unfold rN
  exact gf_trans (gf_I (Or.inr ⟨rfl, rfl, rfl⟩)) (gf_trans (gf_I (Or.inl ⟨rfl, by decide, rfl⟩)) (gf_trans (gf_I (Or.inl ⟨rfl, by decide, rfl⟩)) (gf_trans (gf_I (Or.inl ⟨rfl, by decide, rfl⟩)) (gf_I (Or.inl ⟨rfl, by decide, rfl⟩)))))
theorem rN_0 {x4 : Int32} : mI (rN R nm t x2 x3 x4) 13 0 nm = t := by
  unfold rN
  rw [wI_j (fun z => absurd z.2 (by decide)), wI_j (fun z => absurd z.2 (by decide)), wI_j (fun z => absurd z.2 (by decide)), pI_same]
theorem rN_1 {x4 : Int32} : mI (rN R nm t x2 x3 x4) 13 1 nm = x2 := by
  unfold rN
  rw [wI_j (fun z => absurd z.2 (by decide)), wI_j (fun z => absurd z.2 (by decide)), pI_same]
theorem rN_2 {x4 : Int32} : mI (rN R nm t x2 x3 x4) 13 2 nm = x3 := by
  unfold rN
  rw [wI_j (fun z => absurd z.2 (by decide)), pI_same]
theorem rN_3 {x4 : Int32} : mI (rN R nm t x2 x3 x4) 13 3 nm = x4 := by
  unfold rN
  rw [pI_same]
theorem rmap0 (hp : ps_M R) (h3 : mI R 1 0 3 = nI nm) (hn : nm < 4) (he : e ≤ 64) : ∃ S, f_M_map_b96 0 t x2 x3 (nI e) R 0 0 = some (wI S 1 0 3 (nI (nm + 1)), nI nm) ∧ gf (fun k j q => k = 15 ∧ j = 0 ∧ 64 * nm ≤ q) (fun _ _ _ => False) (rN R nm t x2 x3 (nI e)) S ∧ ∀ b, b < 64 → mI S 15 0 (64 * nm + b) = rth t e b := by
  have hps : ps_M (rN R nm t x2 x3 (nI e)) := gf_ps rN_g hp
  have h3' : mI (rN R nm t x2 x3 (nI e)) 1 0 3 = nI nm := by rw [rN_g.2.2.2.1 1 0 3 (by omega)]; exact h3
  obtain ⟨S, s1, s2, s3⟩ := r152 (t := t) (e := e) hps h3' hn he 64 0 fuel _ (by omega) (by unfold fuel; omega) gf_refl (fun b hb => by omega)
  refine ⟨S, ?_, s2, s3⟩
  have k3 : mI (wI R 1 0 0 0) 1 0 3 = nI nm := by rw [pI_place (by decide)]; exact h3
  have k4 : mI (wI (wI R 1 0 0 0) 13 0 nm t) 1 0 3 = nI nm := by rw [wI_j (fun z => absurd z.1 (by decide))]; exact k3
  have k5 : mI (wI (wI (wI R 1 0 0 0) 13 0 nm t) 13 1 nm x2) 1 0 3 = nI nm := by rw [wI_j (fun z => absurd z.1 (by decide))]; exact k4
  have k6 : mI (wI (wI (wI (wI R 1 0 0 0) 13 0 nm t) 13 1 nm x2) 13 2 nm x3) 1 0 3 = nI nm := by rw [wI_j (fun z => absurd z.1 (by decide))]; exact k5
  have tn : (nI nm).toNatClampNeg = nm := nI_tn (by omega)
  have ix : ¬ (nI nm < 0 ∨ 4 ≤ nm) := ix_t (by omega) (by omega)
  unfold f_M_map_b96
  rw [st_eq, pI_same, if_pos (by decide), rs_5 hp, bd_some, k3, tn, rz_13_0 hp, gd_pos ix, st_eq, rs_6 hp, bd_some, k4, tn, rz_13_1 hp, gd_pos ix, st_eq, rs_7 hp, bd_some, k5, tn, rz_13_2 hp, gd_pos ix, st_eq, rs_8 hp, bd_some, k6, tn, rz_13_3 hp, gd_pos ix, st_eq]
  exact s1
end JRM
