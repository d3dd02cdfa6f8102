/-! PURE: the shorter program as a function; the class's first pass. -/
noncomputable def z_see (p : Nat → Int64) (F : xF) (s : Nat) : Int32 := ic (f_sec p s) (F.1 (s - 1)) (F.1 s)
def z_st (p : Nat → Int64) (F : xF) (s : Nat) : Prop := 0 < z_see p F s ∧ ¬ (¬ f_sec p s ∧ d_fam (p s) = 8 ∧ F.2.2.1 s ∧ ¬ F.2.1 s)
noncomputable def z_bc (p : Nat → Int64) (F : xF) (s : Nat) : Int64 := ic (¬ f_sec p s ∧ d_fam (p s) = 8 ∧ F.2.1 s ∧ ¬ F.2.2.1 s) (5 ||| (p s &&& 4294901760)) (ic (¬ f_sec p s ∧ d_fam (p s) = 6 ∧ F.2.2.2.1 s = 1 ∧ F.2.2.2.2 s = (F.2.2.2.2 s).toInt32.toInt64) (z_mv (p s) (F.2.2.2.2 s)) (p s))
def z_j (p : Nat → Int64) (F : xF) (s : Nat) : Prop := ¬ f_sec p s ∧ d_fam (z_bc p F s) = 7
noncomputable def z_t (p : Nat → Int64) (F : xF) (s : Nat) : Nat := (nI s + 1 + d_off (z_bc p F s)).toNatClampNeg
/-- jumps that lead to what comes next are left out, from the last on -/
noncomputable def z_lv (p : Nat → Int64) (F : xF) (n : Nat) : Nat → (Nat → Prop)
  | 0 => z_st p F
  | j + 1 => fup (z_lv p F n j) (n - 1 - j) (z_lv p F n j (n - 1 - j) ∧ ¬ (z_j p F (n - 1 - j) ∧ n - 1 - j < z_t p F (n - 1 - j) ∧ ∀ t, n - 1 - j < t → t < z_t p F (n - 1 - j) → ¬ z_lv p F n j t))
def z_S (p : Nat → Int64) (F : xF) (n : Nat) : Nat → Prop := z_lv p F n n
noncomputable def z_np (p : Nat → Int64) (F : xF) (n : Nat) : Nat → Nat
  | 0 => 0
  | s + 1 => z_np p F n s + ic (z_S p F n s) 1 0
noncomputable def z_wd (p : Nat → Int64) (F : xF) (n : Nat) (s : Nat) : Int64 := ic (¬ f_sec p s ∧ (d_fam (z_bc p F s) = 7 ∨ d_fam (z_bc p F s) = 8)) (z_off (z_bc p F s) (nI (z_np p F n (z_t p F s)) - nI (z_np p F n s) - 1)) (z_bc p F s)
section ZS
variable {p : Nat → Int64} {F : xF} {n nm : Nat} {sec : Nat → Prop} {M N N1 : me_M}
theorem bc_78 {s : Nat} (h : d_fam (z_bc p F s) = 7 ∨ d_fam (z_bc p F s) = 8) : (d_fam (p s) = 7 ∨ d_fam (p s) = 8) ∧ d_off (z_bc p F s) = d_off (p s) := by
  unfold z_bc at h ⊢
  by_cases a : (¬ f_sec p s ∧ d_fam (p s) = 8 ∧ F.2.1 s ∧ ¬ F.2.2.1 s)
  · rw [ic_t a]
    exact ⟨Or.inr a.2.1, jmp_off⟩
  rw [ic_f a] at h ⊢
  by_cases b : (¬ f_sec p s ∧ d_fam (p s) = 6 ∧ F.2.2.2.1 s = 1 ∧ F.2.2.2.2 s = (F.2.2.2.2 s).toInt32.toInt64)
  · rw [ic_t b, mv_fam] at h
    rcases h with z | z <;> exact absurd z (by decide)
  · rw [ic_f b] at h ⊢
    exact ⟨h, rfl⟩
theorem z_tn (hp : pF p n (f_sec p) nm) {s : Nat} (hs : s < n) (h1 : ¬ f_sec p s) (h : d_fam (z_bc p F s) = 7 ∨ d_fam (z_bc p F s) = 8) : nI s + 1 + d_off (z_bc p F s) = nI (z_t p F s) ∧ z_t p F s < n ∧ ¬ f_sec p (z_t p F s) := by
  obtain ⟨a, b⟩ := bc_78 h
  obtain ⟨q1, q2, q3⟩ := (hp.2.2.2 s hs h1).2.2.2.2.1 a
  unfold z_t
  rw [b]
  exact ⟨q3, q1, q2⟩
theorem np_le {s : Nat} : z_np p F n s ≤ s := by
  induction s with
  | zero => exact Nat.le_refl _
  | succ s ih =>
    show z_np p F n s + ic (z_S p F n s) 1 0 ≤ s + 1
    by_cases h : z_S p F n s
    · rw [ic_t h]; omega
    · rw [ic_f h]; omega
/-- what the class has for making it -/
def zBs (p : Nat → Int64) (n : Nat) (F : xF) (M : me_M) : Prop := cB p n M ∧ (∀ t, t < n → mI M 15 0 t = b1 (f_sec p t)) ∧ (mR M 3 0 0 = some 0 ∧ mR M 3 0 1 = some 4 ∧ mR M 3 0 2 = some 5 ∧ mR M 3 0 3 = some 1 ∧ mR M 3 0 4 = some 2 ∧ mZ M 13 0 = 2000 ∧ mZ M 13 1 = 2000 ∧ mZ M 15 4 = 2000 ∧ mZ M 15 5 = 2000 ∧ mZ M 16 2 = 2000) ∧ cFac n M F ∧ (mR M 2 1 0 = some 1 ∧ mZ M 16 1 = 2000 ∧ mR M 3 0 5 = some 6 ∧ mZ M 15 6 = 2000 ∧ mR M 3 0 6 = some 2 ∧ mZ M 13 2 = 2001)
abbrev zP (k j : Nat) : Prop := (k = 2 ∧ (j = 0 ∨ j = 1)) ∨ (k = 15 ∧ j = 6) ∨ (k = 13 ∧ j = 2) ∨ (k = 16 ∧ j = 1)
theorem zBs_f (h : zBs p n F M) (g : fr zP M N) (h3 : mI N 2 0 3 = mI M 2 0 3) : zBs p n F N := by
  obtain ⟨h1, h2, h4, h5, h6⟩ := h
  have o : ∀ k j, ¬ zP k j → mI N k j = mI M k j := g.2.2.2.1
  refine ⟨?_, ?_, ?_, ?_, ?_⟩
  · unfold cB at h1 ⊢
    rw [g.1, g.2.2.1, h3, g.2.2.2.2 16 0 (by rintro (z | z | z | z) <;> omega)]
    exact h1
  · rw [o 15 0 (by rintro (z | z | z | z) <;> omega)]; exact h2
  · rw [g.1, g.2.2.1]; exact h4
  · intro s hs
    rw [o 13 0 (by rintro (z | z | z | z) <;> omega), o 13 1 (by rintro (z | z | z | z) <;> omega), o 15 4 (by rintro (z | z | z | z) <;> omega), o 15 5 (by rintro (z | z | z | z) <;> omega), g.2.2.2.2 16 2 (by rintro (z | z | z | z) <;> omega)]
    exact h5 s hs
  · rw [g.1, g.2.2.1]; exact h6
theorem fr_L1 {P : Nat → Nat → Prop} {k j f : Nat} {v : Int64} (h : P k j) : fr P M (wL M k j f v) := by
  refine ⟨rfl, rfl, rfl, fun _ _ _ => rfl, fun a b hh => ?_⟩
  funext q
  rw [pL_L, if_neg (fun z => hh (by rw [z.1, z.2.1]; exact h))]
/-- what a slot becomes -/
theorem c_chg (hB : zBs p n F M) (hn : n ≤ 2000) {y : Nat} (hy : y < n) (hl : lk M 0 (p y)) (ns : ¬ f_sec p y) : f_Facts_changed M 0 0 (nI y) = some (M, z_bc p F y) := by
  obtain ⟨h1, h2, ⟨y0, y1, y2, y3, y4, y5, y6, y7, y8, y9⟩, h5, h6⟩ := hB
  obtain ⟨l1, l2, l3, l4, l5, l6, l7, l8, l9, l10, l11⟩ := hl
  obtain ⟨b1', b2', b3', b4', b5', b6'⟩ := h5 y hy
  unfold f_Facts_changed
  have b44 : ¬ (¬ f_sec p y ∧ d_fam (p y) = 8 ∧ F.2.1 y ∧ ¬ F.2.2.1 y) → f_Facts_changed_b44 0 0 (nI y) M = some (M, z_bc p F y) := by
    intro nj
    unfold f_Facts_changed_b44 z_bc
    rw [ic_f nj, y4, bd_some, y9, gd_pos (ix_ok (by omega) (by decide)), nI_tn (by omega), st_eq, l6]
    by_cases f6 : d_fam (p y) = 6
    · rw [if_pos f6, y3, bd_some, y6, gd_pos (ix_t (by omega) (by decide)), b4']
      by_cases e1 : F.2.2.2.1 y = 1
      · rw [if_pos e1, b5' e1]
        by_cases e2 : F.2.2.2.2 y = (F.2.2.2.2 y).toInt32.toInt64
        · rw [if_pos e2, st_eq, l2, ic_t ⟨ns, f6, e1, e2⟩]
          rfl
        · rw [if_neg e2, h1.2.1, bd_some, h1.2.2.1, gd_pos (ix_t (by omega) (by decide)), h1.2.2.2.2.2.2.2 y hy, ic_f (fun z => e2 z.2.2.2)]
      · rw [if_neg e1, h1.2.1, bd_some, h1.2.2.1, gd_pos (ix_t (by omega) (by decide)), h1.2.2.2.2.2.2.2 y hy, ic_f (fun z => e1 z.2.2.1)]
    · rw [if_neg f6, h1.2.1, bd_some, h1.2.2.1, gd_pos (ix_t (by omega) (by decide)), h1.2.2.2.2.2.2.2 y hy, ic_f (fun z => f6 z.2.1)]
  rw [l6]
  by_cases f8 : d_fam (p y) = 8
  · rw [if_pos f8, y1, bd_some, y7, gd_pos (ix_ok (by omega) (by decide)), nI_tn (by omega), b2']
    by_cases g : F.2.1 y
    · rw [if_neg (b1_n0 g), y2, bd_some, y8, gd_pos (ix_t (by omega) (by decide)), b3']
      by_cases f : F.2.2.1 y
      · rw [if_neg (b1_n0 f)]
        exact b44 (fun z => z.2.2.2 f)
      · rw [if_pos (b1_f f), l4, off_word]
        unfold z_bc
        rw [ic_t ⟨ns, f8, g, f⟩]
    · rw [if_pos (b1_f g)]
      exact b44 (fun z => g z.2.2.1)
  · rw [if_neg f8]
    exact b44 (fun z => f8 z.2.1)
/-- the class's first pass -/
theorem cza (hn : n ≤ 2000) : ∀ (k y fu : Nat) (N : me_M), y + k = n → k < fu → fr zP M N → zBs p n F N → mI N 2 1 3 = nI n → (∀ t, t < y → mI N 15 6 t = b1 (z_st p F t) ∧ mL N 16 1 t = z_bc p F t) → ∃ N1 fu1, f_Facts_shorten_l10 0 0 1 fu N (nI y) = f_Facts_shorten_l10 0 0 1 (fu1 + 1) N1 (nI n) ∧ fr zP M N1 ∧ zBs p n F N1 ∧ mI N1 2 1 3 = nI n ∧ ∀ t, t < n → mI N1 15 6 t = b1 (z_st p F t) ∧ mL N1 16 1 t = z_bc p F t := by
  intro k
  induction k with
  | zero =>
    intro y fu N e hf g hB hz hs
    obtain ⟨fu, rfl⟩ : ∃ f, fu = f + 1 := ⟨fu - 1, by omega⟩
    rw [show y = n by omega] at hs ⊢
    exact ⟨N, fu, rfl, g, hB, hz, hs⟩
  | succ k ih =>
    intro y fu N e hf g hB hz hs
    obtain ⟨fu, rfl⟩ : ∃ f, fu = f + 1 := ⟨fu - 1, by omega⟩
    have hy : y < n := by omega
    obtain ⟨h1, h2, ⟨y0, y1, y2, y3, y4, y5, y6, y7, y8, y9⟩, h5, w1, w2, w3, w4, w5, w6⟩ := hB
    rw [f_Facts_shorten_l10, h1.1, if_neg (show ¬ nI n ≤ nI y from fun z => by have := (nI_lei (by omega) (by omega)).mp z; omega), h1.2.2.2.1, bd_some, h1.2.2.2.2.1, gd_pos (ix_ok (by omega) (by decide)), nI_tn (by omega), h2 y hy]
    -- a row more
    have row : ∀ N2, fr zP N N2 → mI N2 2 0 3 = mI N 2 0 3 → mI N2 2 1 3 = nI n → mI N2 15 6 y = b1 (z_st p F y) → mL N2 16 1 y = z_bc p F y → (∀ t, t < y → mI N2 15 6 t = mI N 15 6 t ∧ mL N2 16 1 t = mL N 16 1 t) → ∃ N1 fu1, f_Facts_shorten_l10 0 0 1 fu N2 (nI (y + 1)) = f_Facts_shorten_l10 0 0 1 (fu1 + 1) N1 (nI n) ∧ fr zP M N1 ∧ zBs p n F N1 ∧ mI N1 2 1 3 = nI n ∧ ∀ t, t < n → mI N1 15 6 t = b1 (z_st p F t) ∧ mL N1 16 1 t = z_bc p F t := by
      intro N2 g2 a1 a2 a3 a4 a5
      refine ih (y + 1) fu N2 (by omega) (by omega) (fr_trans g g2) (zBs_f ⟨h1, h2, ⟨y0, y1, y2, y3, y4, y5, y6, y7, y8, y9⟩, h5, w1, w2, w3, w4, w5, w6⟩ g2 a1) a2 (fun t ht => ?_)
      by_cases et : t = y
      · rw [et]; exact ⟨a3, a4⟩
      · rw [(a5 t (by omega)).1, (a5 t (by omega)).2]; exact hs t (by omega)
    by_cases sy : f_sec p y
    · obtain ⟨y', ey⟩ : ∃ y', y = y' + 1 := by
        cases y with
        | zero => exact absurd sy (fun z => z)
        | succ y' => exact ⟨y', rfl⟩
      have em : nI y - 1 = nI y' := by rw [ey, ← nI_s, Int32.add_sub_cancel]
      rw [if_neg (b1_n0 sy), w3, bd_some, em, w4, gd_pos (ix_ok (by omega) (by decide)), gd_pos (ix_t (by omega) (by decide)), nI_tn (by omega), st_eq, w1, bd_some, h1.2.1, bd_some, h1.2.2.1, gd_pos (ix_t (by omega) (by decide)), w2, gd_pos (ix_t (by omega) (by decide)), pL_I, h1.2.2.2.2.2.2.2 y hy, st_eq, nI_s, (hs y' (by omega)).1, nar_b1]
      have sy2 := sy
      rw [ey] at sy2
      have est : z_st p F y ↔ z_st p F y' := by
        unfold z_st z_see
        rw [ic_t sy, ic_f sy2.1, show y - 1 = y' by omega]
        exact ⟨fun z => ⟨z.1, fun w => by rw [sy2.2] at w; exact absurd w.2.1 (by decide)⟩, fun z => ⟨z.1, fun w => w.1 sy⟩⟩
      have ebc : z_bc p F y = p y := by
        unfold z_bc
        rw [ic_f (fun z => z.1 sy), ic_f (fun z => z.1 sy)]
      refine row _ (fr_trans (fr_I (Or.inr (Or.inl ⟨rfl, rfl⟩))) (fr_L1 (Or.inr (Or.inr (Or.inr ⟨rfl, rfl⟩))))) ?_ ?_ ?_ ?_ ?_
      · rw [pI_L, wI_j (by decide)]
      · rw [pI_L, wI_j (by decide)]; exact hz
      · rw [pI_L, pI_same, b1_c est]
      · rw [pL_same, ebc]
      · intro t ht
        rw [pI_L, pI_place (by omega), pL_place (by omega), pL_I]
        exact ⟨rfl, rfl⟩
    rw [if_pos (b1_f sy)]
    obtain ⟨L, q1, q2, q3, q4, q5⟩ := clook h1 hn hy
    rw [q1, bd_some, w3, bd_some, y0, bd_some, y5, gd_pos (ix_t (by omega) (by decide))]
    have gL : fr zP N L := fr_mono q5 (fun k j z => Or.inl ⟨z.1, Or.inl z.2⟩)
    have oL : ∀ k j, ¬ (k = 2 ∧ j = 0) → mI L k j = mI N k j := q5.2.2.2.1
    have bL : zBs p n F L := zBs_f ⟨h1, h2, ⟨y0, y1, y2, y3, y4, y5, y6, y7, y8, y9⟩, h5, w1, w2, w3, w4, w5, w6⟩ gL (by rw [q3.1, h1.1])
    obtain ⟨f1, f2, f3, f4, f5, f6⟩ := bL.2.2.2.1 y hy
    -- stays or not
    have b78 : ∀ v : Prop, (v ↔ z_st p F y) → ∃ N1 fu1, f_Facts_shorten_b78 (f_Facts_shorten_l10 0 0 1 fu) 0 0 1 L (nI y) (b1 v) (nI y) 6 = f_Facts_shorten_l10 0 0 1 (fu1 + 1) N1 (nI n) ∧ fr zP M N1 ∧ zBs p n F N1 ∧ mI N1 2 1 3 = nI n ∧ ∀ t, t < n → mI N1 15 6 t = b1 (z_st p F t) ∧ mL N1 16 1 t = z_bc p F t := by
      intro v hv
      unfold f_Facts_shorten_b78
      have g6 : fr zP L (wI L 15 6 y (b1 v)) := fr_I (Or.inr (Or.inl ⟨rfl, rfl⟩))
      have B6 : zBs p n F (wI L 15 6 y (b1 v)) := zBs_f bL g6 (wI_j (by decide))
      have l6 : lk (wI L 15 6 y (b1 v)) 0 (p y) := by
        have e2 : mI (wI L 15 6 y (b1 v)) 2 0 = mI L 2 0 := by funext q; exact wI_j (by decide)
        unfold lk at q2 ⊢
        rw [e2]
        exact q2
      rw [bL.2.2.2.2.2.2.2.1, gd_pos (ix_ok (by omega) (by decide)), nI_tn (by omega), nar_b1, st_eq, bL.2.2.2.2.1, bd_some, c_chg B6 hn hy l6 sy, b2_some, bL.2.2.2.2.2.1, gd_pos (ix_t (by omega) (by decide)), st_eq, nI_s]
      refine row _ (fr_trans gL (fr_trans g6 (fr_L1 (Or.inr (Or.inr (Or.inr ⟨rfl, rfl⟩)))))) ?_ ?_ ?_ ?_ ?_
      · rw [pI_L, wI_j (by decide), q3.1, h1.1]
      · rw [pI_L, wI_j (by decide), oL 2 1 (by decide)]; exact hz
      · rw [pI_L, pI_same, b1_c hv]
      · rw [pL_same]
      · intro t ht
        rw [pI_L, pI_place (by omega), pL_place (by omega), pL_I, oL 15 6 (by decide), q5.2.2.2.2 16 1 (fun z => absurd z.1 (by decide))]
        exact ⟨rfl, rfl⟩
    have see : z_see p F y = F.1 y := ic_f sy
    unfold f_Facts_shorten_b77 f_Facts_shorten_b73
    rw [f1, q2.2.2.2.2.2.1]
    by_cases v0 : F.1 y ≤ 0
    · rw [if_pos v0, show (0 : Int32) = b1 False by rw [b1_f id]]
      refine b78 False ⟨fun z => z.elim, fun z => ?_⟩
      have := z.1
      rw [see] at this
      exact (nlt_le.mpr v0) this
    have vp : 0 < F.1 y := by
      rw [Int32.le_iff_toInt_le] at v0
      rw [Int32.lt_iff_toInt_lt]
      omega
    rw [if_neg v0]
    by_cases f8 : d_fam (p y) = 8
    · rw [if_pos f8, y2, bd_some, y8, gd_pos (ix_t (by omega) (by decide)), f3]
      by_cases f : F.2.2.1 y
      · rw [if_neg (b1_n0 f), y1, bd_some, y7, gd_pos (ix_t (by omega) (by decide)), f2]
        by_cases w : F.2.1 y
        · rw [if_neg (b1_n0 w), show (1 : Int32) = b1 True by rw [b1_t trivial]]
          exact b78 True ⟨fun _ => ⟨by rw [see]; exact vp, fun z => z.2.2.2 w⟩, fun _ => trivial⟩
        · rw [if_pos (b1_f w), show (0 : Int32) = b1 False by rw [b1_f id]]
          exact b78 False ⟨fun z => z.elim, fun z => z.2 ⟨sy, f8, f, w⟩⟩
      · rw [if_pos (b1_f f), show (1 : Int32) = b1 True by rw [b1_t trivial]]
        exact b78 True ⟨fun _ => ⟨by rw [see]; exact vp, fun z => f z.2.2.1⟩, fun _ => trivial⟩
    · rw [if_neg f8, show (1 : Int32) = b1 True by rw [b1_t trivial]]
      exact b78 True ⟨fun _ => ⟨by rw [see]; exact vp, fun z => f8 z.2.1⟩, fun _ => trivial⟩
end ZS
