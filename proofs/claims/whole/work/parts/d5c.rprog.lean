/-! PURE: a program is given: the reference. -/
def pA (k j f : Nat) : Prop := (k = 14 ∧ j = 8) ∨ (k = 13 ∧ 4 ≤ j) ∨ (k = 15 ∧ 1 ≤ j) ∨ (k = 1 ∧ j = 0 ∧ (f = 0 ∨ f = 2 ∨ f = 4 ∨ f = 12 ∨ f = 14 ∨ f = 15 ∨ (18 ≤ f ∧ f ≤ 26) ∨ (59 ≤ f ∧ f < 74)))
def pB (k j _f : Nat) : Prop := k = 16 ∧ ¬ j = 4 ∧ ¬ j = 5
abbrev gP (M M1 : me_M) : Prop := gf pA pB M M1
/-- what the reference holds of a program that was given -/
def rPr (p : Nat → Int64) (n : Nat) (g : Int32 × Int32 × xT) (R1 : me_M) : Prop := mI R1 1 0 20 = g.1 ∧ mI R1 1 0 21 = g.2.1 ∧ mI R1 1 0 18 = 1 ∧ mI R1 1 0 19 = b1 (g.1 = 0) ∧ (mI R1 1 0 23 = nI (xKn g.2.2) ∧ mI R1 1 0 22 = nI (xVi g.2.2) ∧ mI R1 1 0 24 = nI (xMw g.2.2) ∧ mI R1 1 0 25 = nI (xPa g.2.2)) ∧ rFac n R1 (xFa g.2.2) ∧ mI R1 1 0 12 = nI n ∧ (g.1 = 0 → mI R1 1 0 14 = nI n ∧ (∀ s, s < n → mL R1 16 1 s = p s) ∧ mI R1 1 0 15 = nI (z_np p (xFa g.2.2) n n) ∧ mI R1 1 0 26 = nI (z_np p (xFa g.2.2) n n) ∧ ∀ t, t < n → z_S p (xFa g.2.2) n t → mL R1 16 2 (z_np p (xFa g.2.2) n t) = z_wd p (xFa g.2.2) n t) ∧ (¬ g.1 = 0 → mI R1 1 0 26 = 0)
section HP
variable {p : Nat → Int64} {n nm B tn : Nat} {kb vb : Int32 → Int32} {R M N : me_M}
theorem gP_kv {A C : Nat → Nat → Nat → Prop} (g : gf A C M N) (h : ∀ f, ¬ A 14 8 f) (k : kv M) : kv N := kv_eq k (fun q => g.2.2.2.1 14 8 q (h q))
theorem gP_1 {f : Nat} {v : Int32} (h : f = 0 ∨ f = 2 ∨ f = 4 ∨ f = 12 ∨ f = 14 ∨ f = 15 ∨ (18 ≤ f ∧ f ≤ 26) ∨ (59 ≤ f ∧ f < 74)) : gP M (wI M 1 0 f v) := gf_I (Or.inr (Or.inr (Or.inr ⟨rfl, rfl, h⟩)))
theorem rcopyp (hn : n ≤ 2000) : ∀ (k s fu : Nat) (N : me_M), s + k = n → k < fu → gf (fun _ _ _ => False) (fun k j _ => k = 16 ∧ j = 1) M N → ps_M M → (∀ t, t < n → mL M 16 0 t = p t) → (∀ t, t < s → mL N 16 1 t = p t) → ∃ N1, f_M_program_l212 0 (nI n) fu N (nI s) = bd (f_M_shorten N1 0 (nI n)) (fun M2 => some (M2, (0 : Int32))) ∧ gf (fun _ _ _ => False) (fun k j _ => k = 16 ∧ j = 1) M N1 ∧ ∀ t, t < n → mL N1 16 1 t = p t := by
  intro k
  induction k with
  | zero =>
    intro s fu N e hf g hM hp hs
    obtain ⟨fu, rfl⟩ : ∃ f, fu = f + 1 := ⟨fu - 1, by omega⟩
    rw [f_M_program_l212, if_pos (show nI n ≤ nI s from (nI_lei (by omega) (by omega)).mpr (by omega))]
    exact ⟨N, rfl, g, fun t ht => hs t (by omega)⟩
  | succ k ih =>
    intro s fu N e hf g hM hp hs
    obtain ⟨fu, rfl⟩ : ∃ f, fu = f + 1 := ⟨fu - 1, by omega⟩
    have hN := gf_ps g hM
    rw [f_M_program_l212, if_neg (show ¬ nI n ≤ nI s from fun z => by have := (nI_lei (by omega) (by omega)).mp z; omega), rs_16 hN, bd_some, rs_13 hN, bd_some, rz_16_0 hN, gd_pos (ix_ok (by omega) (by decide)), rz_16_1 hN, nI_tn (by omega), gd_pos (ix_t (by omega) (by decide)), st_eq, nI_s]
    refine ih (s + 1) fu _ (by omega) (by omega) (gf_trans g (gf_L ⟨rfl, rfl⟩)) hM hp (fun t ht => ?_)
    by_cases et : t = s
    · rw [et, pL_same, g.2.2.2.2 16 0 s (by rintro ⟨_, z⟩; omega)]
      exact hp s (by omega)
    · rw [pL_place et]; exact hs t (by omega)
theorem rFac_g {A C : Nat → Nat → Nat → Prop} {F : xF} (g : gf A C M N) (h : ∀ f, ¬ A 13 4 f ∧ ¬ A 13 5 f ∧ ¬ A 15 1 f ∧ ¬ A 15 2 f ∧ ¬ C 16 3 f) (hF : rFac n M F) : rFac n N F := by
  intro s hs
  obtain ⟨h1, h2, h3, h4, h5⟩ := h s
  rw [g.2.2.2.1 13 4 s h1, g.2.2.2.1 13 5 s h2, g.2.2.2.1 15 1 s h3, g.2.2.2.1 15 2 s h4, g.2.2.2.2 16 3 s h5]
  exact hF s hs
/-- the end: accepted or not -/
theorem rpr_end {X : xT} {f fs : Int32} (hn : n ≤ 2000) (hf : f = 0 ∨ 0 < f) (hM : ps_M M) (hk : kv M) (h20 : mI M 1 0 20 = f) (h21 : ¬ f = 0 → mI M 1 0 21 = fs) (hfs : f = 0 → fs = -1) (h18 : mI M 1 0 18 = 1) (h19 : mI M 1 0 19 = 0) (hN : mI M 1 0 23 = nI (xKn X) ∧ mI M 1 0 22 = nI (xVi X) ∧ mI M 1 0 24 = nI (xMw X) ∧ mI M 1 0 25 = nI (xPa X)) (hF : rFac n M (xFa X)) (h12 : mI M 1 0 12 = nI n) (hp : ∀ s, s < n → mL M 16 0 s = p s) (h26 : mI M 1 0 26 = 0) (hg : f = 0 → pF p n (f_sec p) nm ∧ ∀ t, t < n → mI M 15 3 t = b1 (f_sec p t)) : ∃ R1, f_M_program_b177 0 (nI n) M = some (R1, f) ∧ ps_M R1 ∧ kv R1 ∧ gP M R1 ∧ mI R1 1 0 0 = mI M 1 0 0 ∧ mI R1 1 0 2 = mI M 1 0 2 ∧ mI R1 1 0 4 = (if f = 0 then 1 else mI M 1 0 4) ∧ rPr p n (f, fs, X) R1 := by
  unfold f_M_program_b177
  rw [h20]
  by_cases z : f = 0
  · rw [if_pos (show f ≤ 0 by rw [z]; decide), st_eq, st_eq, st_eq, st_eq]
    obtain ⟨A, hA⟩ : ∃ A, A = wI (wI (wI (wI M 1 0 21 (-1)) 1 0 19 1) 1 0 4 1) 1 0 14 (nI n) := ⟨_, rfl⟩
    rw [← hA]
    have gA : gf (fun k j q => k = 1 ∧ j = 0 ∧ (q = 21 ∨ q = 19 ∨ q = 4 ∨ q = 14)) (fun _ _ _ => False) M A := by
      rw [hA]
      exact gf_trans (gf_I ⟨rfl, rfl, by omega⟩) (gf_trans (gf_I ⟨rfl, rfl, by omega⟩) (gf_trans (gf_I ⟨rfl, rfl, by omega⟩) (gf_I ⟨rfl, rfl, by omega⟩)))
    have iA : ∀ q, ¬ (q = 21 ∨ q = 19 ∨ q = 4 ∨ q = 14) → mI A 1 0 q = mI M 1 0 q := fun q hq => gA.2.2.2.1 1 0 q (fun w => hq w.2.2)
    have pA' : ∀ s, s < n → mL A 16 0 s = p s := fun s hs => by rw [gA.2.2.2.2 16 0 s (fun w => w)]; exact hp s hs
    obtain ⟨C, c1, c2, c3⟩ := rcopyp (M := A) (p := p) hn n 0 fuel A (by omega) (by unfold fuel; omega) gf_refl (gf_ps gA hM) pA' (fun t ht => by omega)
    obtain ⟨pf, sec⟩ := hg z
    have zb : rzB p n (xFa X) C := ⟨gf_ps c2 (gf_ps gA hM), fun s hs => by rw [c2.2.2.2.2 16 0 s (by rintro ⟨_, w⟩; omega)]; exact pA' s hs, fun t ht => by rw [c2.2.2.2.1 15 3 t (fun w => w), gA.2.2.2.1 15 3 t (fun w => absurd w.1 (by decide))]; exact sec t ht, rFac_g c2 (fun f => ⟨fun w => w, fun w => w, fun w => w, fun w => w, fun w => by omega⟩) (rFac_g gA (fun f => ⟨fun w => absurd w.1 (by decide), fun w => absurd w.1 (by decide), fun w => absurd w.1 (by decide), fun w => absurd w.1 (by decide), fun w => w⟩) hF)⟩
    obtain ⟨D, d1, d2, d3, d4, d5, d6⟩ := rshort hn pf zb
    rw [show f_M_program_l212 0 (nI n) fuel A (0 : Int32) = _ from c1, d1, bd_some, z]
    have iD : ∀ q, ¬ (q = 15 ∨ q = 26) → mI D 1 0 q = mI A 1 0 q := fun q hq => by
      rw [d2.2.2.2.1 1 0 q (by rintro (w | w | w) <;> omega), c2.2.2.2.1 1 0 q (fun w => w)]
    have a19 : mI A 1 0 19 = 1 := by rw [hA, pI_place (by decide), pI_place (by decide), pI_same]
    have a21 : mI A 1 0 21 = -1 := by rw [hA, pI_place (by decide), pI_place (by decide), pI_place (by decide), pI_same]
    have a4 : mI A 1 0 4 = 1 := by rw [hA, pI_place (by decide), pI_same]
    have a14 : mI A 1 0 14 = nI n := by rw [hA, pI_same]
    refine ⟨D, rfl, d3.1, ?_, ?_, ?_, ?_, ?_, ?_, ?_, ?_, ?_, ⟨?_, ?_, ?_, ?_⟩, d3.2.2.2, ?_, fun _ => ⟨?_, ?_, d4, d5, d6⟩, fun w => absurd rfl w⟩
    · exact gP_kv d2 (fun f => by rintro (w | w | w) <;> omega) (gP_kv c2 (fun f w => w) (gP_kv gA (fun f w => absurd w.1 (by decide)) hk))
    · refine gf_trans (gf_mono gA (fun k j f w => Or.inr (Or.inr (Or.inr ⟨w.1, w.2.1, by have := w.2.2; omega⟩))) (fun _ _ _ w => w.elim)) (gf_trans (gf_mono c2 (fun _ _ _ w => w.elim) (fun k j f w => ⟨w.1, by omega, by omega⟩)) (gf_mono d2 (fun k j f w => ?_) (fun k j f w => ⟨w.1, by have := w.2; omega, by have := w.2; omega⟩)))
      rcases w with w | w | w
      · exact Or.inr (Or.inr (Or.inl ⟨w.1, by omega⟩))
      · exact Or.inr (Or.inl ⟨w.1, by omega⟩)
      · exact Or.inr (Or.inr (Or.inr ⟨w.1, w.2.1, by have := w.2.2; omega⟩))
    · rw [iD 0 (by decide), iA 0 (by decide)]
    · rw [iD 2 (by decide), iA 2 (by decide)]
    · rw [iD 4 (by decide), a4, if_pos rfl]
    · rw [iD 20 (by decide), iA 20 (by decide), h20]; exact z
    · rw [iD 21 (by decide), a21]; exact (hfs z).symm
    · rw [iD 18 (by decide), iA 18 (by decide)]; exact h18
    · rw [iD 19 (by decide), a19, b1_t rfl]
    · rw [iD 23 (by decide), iA 23 (by decide)]; exact hN.1
    · rw [iD 22 (by decide), iA 22 (by decide)]; exact hN.2.1
    · rw [iD 24 (by decide), iA 24 (by decide)]; exact hN.2.2.1
    · rw [iD 25 (by decide), iA 25 (by decide)]; exact hN.2.2.2
    · rw [iD 12 (by decide), iA 12 (by decide)]; exact h12
    · rw [iD 14 (by decide), a14]
    · intro s hs
      rw [d2.2.2.2.2 16 1 s (by rintro ⟨_, w⟩; omega)]
      exact c3 s hs
  · have pos : 0 < f := hf.elim (fun w => absurd w z) id
    rw [if_neg (fun w => by
      rw [Int32.lt_iff_toInt_lt] at pos
      rw [Int32.le_iff_toInt_le] at w
      omega)]
    exact ⟨M, rfl, hM, hk, gf_refl, rfl, rfl, by rw [if_neg z], h20, h21 z, h18, by rw [h19]; exact (b1_f z).symm, hN, hF, h12, fun w => absurd w z, fun _ => h26⟩
end HP
