/-! PURE: slots are taken from the tape; facts are forgotten. -/
/-- the word of 8 bytes, from i bytes on -/
def w_l (T : Nat → Int32) (s : Nat) : Nat → Int64 → Int64
  | 0, v => v
  | i + 1, v => w_l T s i (jlshl v 8 ||| ((T (8 * s + i)).toInt64 &&& 255))
def w_ld (T : Nat → Int32) (s : Nat) : Int64 := w_l T s 8 0
theorem w_cong {T U : Nat → Int32} {s : Nat} (h : ∀ i, i < 8 → T (8 * s + i) = U (8 * s + i)) : w_ld T s = w_ld U s := by
  have key : ∀ k v, k ≤ 8 → w_l T s k v = w_l U s k v := by
    intro k
    induction k with
    | zero => intro v _; rfl
    | succ k ih =>
      intro v hk
      show w_l T s k (jlshl v 8 ||| ((T (8 * s + k)).toInt64 &&& 255)) = w_l U s k (jlshl v 8 ||| ((U (8 * s + k)).toInt64 &&& 255))
      rw [h k (by omega), ih _ (by omega)]
  exact key 8 0 (Nat.le_refl _)
section LD
variable {p : Nat → Int64} {n : Nat} {M N : me_M} {jt : Nat}
theorem i8_n {s i : Nat} : (8 : Int32) * nI s + nI i = nI (8 * s + i) := by
  rw [show (8 : Int32) = nI 8 from rfl, mul_nI, nI_add]
theorem and_64 {x : Int32} : (x &&& 255).toInt64 = x.toInt64 &&& 255 := by
  rw [Int32.toInt64_and]
  rfl
abbrev ldP (k j : Nat) : Prop := (k = 16 ∧ j = 0) ∨ (k = 15 ∧ (j = 0 ∨ j = 1))
theorem cld_w {k12 : me_M → Int32 → Option me_M} {x2 : Int32} {s : Nat} (hs : s < 2000) (hR : mR M 2 0 0 = some 0) (hZ : mZ M 16 0 = 2000) (hR1 : mR M 2 0 1 = some 0) (hZ1 : mZ M 15 0 = 2000) (hR2 : mR M 2 0 2 = some 1) (hZ2 : mZ M 15 1 = 2000) (hT : 8 * s + 8 ≤ mZ M 14 jt) : ∀ (i fu : Nat) (v : Int64), i ≤ 8 → i < fu → f_Code_load_l24 k12 0 jt x2 fu M (nI s) v (nI i + -1) = k12 (wI (wI (wL M 16 0 s (w_l (mI M 14 jt) s i v)) 15 0 s 0) 15 1 s 0) (nI s + 1) := by
  intro i
  induction i with
  | zero =>
    intro fu v h1 h2
    obtain ⟨fu, rfl⟩ : ∃ f, fu = f + 1 := ⟨fu - 1, by omega⟩
    rw [f_Code_load_l24, if_pos (show nI 0 + -1 < 0 by decide), hR, bd_some, hZ, gd_pos (ix_ok (by omega) (by decide)), nI_tn (by omega), st_eq, hR1, bd_some, hZ1, gd_pos (ix_t (by omega) (by decide)), st_eq, hR2, bd_some, hZ2, gd_pos (ix_t (by omega) (by decide)), st_eq]
    rfl
  | succ i ih =>
    intro fu v h1 h2
    obtain ⟨fu, rfl⟩ : ∃ f, fu = f + 1 := ⟨fu - 1, by omega⟩
    rw [nI_dec, f_Code_load_l24, if_neg (nI_ps (by omega)), i8_n, nI_tn (by omega), gd_pos (show ¬ (nI (8 * s + i) < 0 ∨ mZ M 14 jt ≤ 8 * s + i) from fun z => z.elim (nI_ps (by omega)) (fun q => by omega)), st_eq, and_64, ih fu _ (by omega) (by omega)]
    rfl
theorem cld_l (hn : n ≤ 2000) : ∀ (k s fu : Nat) (N : me_M), s + k = n → k < fu → fr ldP M N → mR M 2 0 0 = some 0 → mZ M 16 0 = 2000 → mR M 2 0 1 = some 0 → mZ M 15 0 = 2000 → mR M 2 0 2 = some 1 → mZ M 15 1 = 2000 → 8 * n ≤ mZ M 14 jt → (∀ t, t < s → mL N 16 0 t = w_ld (mI M 14 jt) t ∧ mI N 15 0 t = 0 ∧ mI N 15 1 t = 0) → ∃ N1, f_Code_load_l12 0 jt (nI n) fu N (nI s) = some N1 ∧ fr ldP M N1 ∧ ∀ t, t < n → mL N1 16 0 t = w_ld (mI M 14 jt) t ∧ mI N1 15 0 t = 0 ∧ mI N1 15 1 t = 0 := by
  intro k
  induction k with
  | zero =>
    intro s fu N e hf g a b c d e' f h hs
    obtain ⟨fu, rfl⟩ : ∃ f, fu = f + 1 := ⟨fu - 1, by omega⟩
    rw [f_Code_load_l12, if_pos (show nI n ≤ nI s from (nI_lei (by omega) (by omega)).mpr (by omega))]
    exact ⟨N, rfl, g, fun t ht => hs t (by omega)⟩
  | succ k ih =>
    intro s fu N e hf g a b c d e' f h hs
    obtain ⟨fu, rfl⟩ : ∃ f, fu = f + 1 := ⟨fu - 1, by omega⟩
    rw [f_Code_load_l12, if_neg (show ¬ nI n ≤ nI s from fun z => by have := (nI_lei (by omega) (by omega)).mp z; omega)]
    have w := cld_w (M := N) (jt := jt) (k12 := f_Code_load_l12 0 jt (nI n) fu) (x2 := nI n) (s := s) (by omega) (by rw [g.1]; exact a) (by rw [g.2.2.1]; exact b) (by rw [g.1]; exact c) (by rw [g.2.2.1]; exact d) (by rw [g.1]; exact e') (by rw [g.2.2.1]; exact f) (by rw [g.2.2.1]; omega) 8 fuel 0 (Nat.le_refl _) (by unfold fuel; omega)
    rw [show f_Code_load_l24 (f_Code_load_l12 0 jt (nI n) fu) 0 jt (nI n) fuel N (nI s) (0 : Int64) (7 : Int32) = _ from w, nI_s]
    have e14 : mI N 14 jt = mI M 14 jt := g.2.2.2.1 14 jt (by rintro (z | z) <;> omega)
    rw [e14]
    refine ih (s + 1) fu _ (by omega) (by omega) (fr_trans g (fr_trans (fr_L1 (Or.inl ⟨rfl, rfl⟩)) (fr_trans (fr_I (Or.inr ⟨rfl, Or.inl rfl⟩)) (fr_I (Or.inr ⟨rfl, Or.inr rfl⟩))))) a b c d e' f h (fun t ht => ?_)
    by_cases et : t = s
    · rw [et, pL_I, pL_I, pL_same, wI_j (by decide), pI_same, pI_same]
      exact ⟨rfl, rfl, rfl⟩
    · rw [pL_I, pL_I, pL_place et, wI_j (by decide), pI_place et, pI_L, pI_place et, wI_j (by decide), pI_L]
      exact hs t (by omega)
/-- the class loads a program -/
theorem cload (hn : n ≤ 2000) (a : mR M 2 0 0 = some 0) (b : mZ M 16 0 = 2000) (c : mR M 2 0 1 = some 0) (d : mZ M 15 0 = 2000) (e : mR M 2 0 2 = some 1) (f : mZ M 15 1 = 2000) (h : 8 * n ≤ mZ M 14 jt) : ∃ N1, f_Code_load M 0 jt (nI n) = some N1 ∧ fr (fun k j => ldP k j ∨ (k = 2 ∧ j = 0)) M N1 ∧ mI N1 2 0 3 = nI n ∧ ∀ t, t < n → mL N1 16 0 t = w_ld (mI M 14 jt) t ∧ mI N1 15 0 t = 0 ∧ mI N1 15 1 t = 0 := by
  unfold f_Code_load
  rw [st_eq, st_eq]
  have e14 : mI (wI (wI M 2 0 3 (nI n)) 2 0 4 (-1)) 14 jt = mI M 14 jt := by
    funext q
    rw [wI_j (fun z => absurd z.1 (by decide)), wI_j (fun z => absurd z.1 (by decide))]
  obtain ⟨N1, q1, q2, q3⟩ := cld_l (M := wI (wI M 2 0 3 (nI n)) 2 0 4 (-1)) (jt := jt) hn n 0 fuel _ (by omega) (by unfold fuel; omega) fr_refl a b c d e f h (fun t ht => by omega)
  rw [show f_Code_load_l12 0 jt (nI n) fuel (wI (wI M 2 0 3 (nI n)) 2 0 4 (-1)) (0 : Int32) = some N1 from q1]
  rw [e14] at q3
  refine ⟨N1, rfl, fr_trans (fr_trans (fr_I (Or.inr ⟨rfl, rfl⟩)) (fr_I (Or.inr ⟨rfl, rfl⟩))) (fr_mono q2 (fun k j z => Or.inl z)), ?_, q3⟩
  rw [q2.2.2.2.1 2 0 (by rintro (z | z) <;> omega), pI_place (by decide), pI_same]
abbrev fcP (k j : Nat) : Prop := (k = 13 ∧ (j = 0 ∨ j = 1)) ∨ (k = 15 ∧ (j = 4 ∨ j = 5)) ∨ (k = 16 ∧ j = 2)
/-- the class forgets facts -/
theorem cclear_l (hn : n ≤ 2000) (hr : mR M 3 0 0 = some 0 ∧ mR M 3 0 1 = some 4 ∧ mR M 3 0 2 = some 5 ∧ mR M 3 0 3 = some 1 ∧ mR M 3 0 4 = some 2 ∧ mZ M 13 0 = 2000 ∧ mZ M 13 1 = 2000 ∧ mZ M 15 4 = 2000 ∧ mZ M 15 5 = 2000 ∧ mZ M 16 2 = 2000) : ∀ (k s fu : Nat) (N : me_M), s + k = n → k < fu → fr fcP M N → (∀ t, t < s → mI N 13 0 t = 0 ∧ mI N 15 4 t = 0 ∧ mI N 15 5 t = 0 ∧ mI N 13 1 t = 0) → ∃ N1, f_Facts_clear_l2 0 (nI n) fu N (nI s) = some N1 ∧ fr fcP M N1 ∧ ∀ t, t < n → mI N1 13 0 t = 0 ∧ mI N1 15 4 t = 0 ∧ mI N1 15 5 t = 0 ∧ mI N1 13 1 t = 0 := by
  obtain ⟨y0, y1, y2, y3, y4, y5, y6, y7, y8, y9⟩ := hr
  intro k
  induction k with
  | zero =>
    intro s fu N e hf g hs
    obtain ⟨fu, rfl⟩ : ∃ f, fu = f + 1 := ⟨fu - 1, by omega⟩
    rw [f_Facts_clear_l2, if_pos (show nI n ≤ nI s from (nI_lei (by omega) (by omega)).mpr (by omega))]
    exact ⟨N, rfl, g, fun t ht => hs t (by omega)⟩
  | succ k ih =>
    intro s fu N e hf g hs
    obtain ⟨fu, rfl⟩ : ∃ f, fu = f + 1 := ⟨fu - 1, by omega⟩
    rw [f_Facts_clear_l2, if_neg (show ¬ nI n ≤ nI s from fun z => by have := (nI_lei (by omega) (by omega)).mp z; omega), g.1, g.2.2.1, y0, bd_some, y5, gd_pos (ix_ok (by omega) (by decide)), nI_tn (by omega), st_eq, y1, bd_some, y7, gd_pos (ix_t (by omega) (by decide)), st_eq, y2, bd_some, y8, gd_pos (ix_t (by omega) (by decide)), st_eq, y3, bd_some, y6, gd_pos (ix_t (by omega) (by decide)), st_eq, y4, bd_some, y9, gd_pos (ix_t (by omega) (by decide)), st_eq, nI_s]
    refine ih (s + 1) fu _ (by omega) (by omega) (fr_trans g (fr_trans (fr_I (Or.inl ⟨rfl, Or.inl rfl⟩)) (fr_trans (fr_I (Or.inr (Or.inl ⟨rfl, Or.inl rfl⟩))) (fr_trans (fr_I (Or.inr (Or.inl ⟨rfl, Or.inr rfl⟩))) (fr_trans (fr_I (Or.inl ⟨rfl, Or.inr rfl⟩)) (fr_L1 (Or.inr (Or.inr ⟨rfl, rfl⟩)))))))) (fun t ht => ?_)
    rw [pI_L]
    by_cases et : t = s
    · rw [et]
      refine ⟨?_, ?_, ?_, pI_same⟩
      · rw [wI_j (by decide), wI_j (by decide), wI_j (by decide), pI_same]
      · rw [wI_j (by decide), wI_j (by decide), pI_same]; rfl
      · rw [wI_j (by decide), pI_same]; rfl
    · obtain ⟨a1, a2, a3, a4⟩ := hs t (by omega)
      refine ⟨?_, ?_, ?_, ?_⟩
      · rw [pI_place et, pI_place et, pI_place et, pI_place et]; exact a1
      · rw [pI_place et, pI_place et, pI_place et, pI_place et]; exact a2
      · rw [pI_place et, pI_place et, pI_place et, pI_place et]; exact a3
      · rw [pI_place et, pI_place et, pI_place et, pI_place et]; exact a4
theorem cclear (hn : n ≤ 2000) (hr : mR M 3 0 0 = some 0 ∧ mR M 3 0 1 = some 4 ∧ mR M 3 0 2 = some 5 ∧ mR M 3 0 3 = some 1 ∧ mR M 3 0 4 = some 2 ∧ mZ M 13 0 = 2000 ∧ mZ M 13 1 = 2000 ∧ mZ M 15 4 = 2000 ∧ mZ M 15 5 = 2000 ∧ mZ M 16 2 = 2000) : ∃ N1, f_Facts_clear M 0 (nI n) = some N1 ∧ fr fcP M N1 ∧ cFac n N1 (xFa x_0) := by
  unfold f_Facts_clear
  obtain ⟨N1, q1, q2, q3⟩ := cclear_l hn hr n 0 fuel M (by omega) (by unfold fuel; omega) fr_refl (fun t ht => by omega)
  refine ⟨N1, q1, q2, fun s hs => ?_⟩
  obtain ⟨a1, a2, a3, a4⟩ := q3 s hs
  exact ⟨a1, by rw [a2]; exact (b1_f id).symm, by rw [a3]; exact (b1_f id).symm, a4, fun z => absurd (show (0 : Int32) = 1 from z) (by decide), Or.inl rfl⟩
end LD
