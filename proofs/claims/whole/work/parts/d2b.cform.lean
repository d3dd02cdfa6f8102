/-! PURE: the class finds the faults of form. -/
theorem flt_w {c w w2 : Int64} {l : Prop} {m : Int32} (h : ¬ l) : f_flt c w l m = f_flt c w2 l m := by
  have e : f_shp c w l ↔ f_shp c w2 l := by
    unfold f_shp
    by_cases f1 : d_fam c = 1
    · rw [if_pos f1, if_pos f1]
      exact ⟨fun z => absurd z.2.2.1 h, fun z => absurd z.2.2.1 h⟩
    · rw [if_neg f1, if_neg f1]
  unfold f_flt
  rw [propext e]
/-- the Code with n slots p -/
def cB (p : Nat → Int64) (n : Nat) (M : me_M) : Prop := mI M 2 0 3 = nI n ∧ mR M 2 0 0 = some 0 ∧ mZ M 16 0 = 2000 ∧ mR M 2 0 1 = some 0 ∧ mZ M 15 0 = 2000 ∧ mR M 2 0 2 = some 1 ∧ mZ M 15 1 = 2000 ∧ ∀ s, s < n → mL M 16 0 s = p s
abbrev fP (k j : Nat) : Prop := (k = 2 ∧ j = 0) ∨ (k = 15 ∧ (j = 0 ∨ j = 1))
section CF
variable {p : Nat → Int64} {n nm : Nat} {m : Int32} {M N N1 : me_M}
theorem cB_f (h : cB p n M) (g : fr fP M N) (h3 : mI N 2 0 3 = mI M 2 0 3) : cB p n N := by
  unfold cB at h ⊢
  rw [g.1, g.2.2.1, h3, g.2.2.2.2 16 0 (by rintro (z | z) <;> omega)]
  exact h
theorem flt_p (h : cB p n M) {y : Nat} (hy : y < n) : f_flt (p y) (mL M 16 0 (y + 1)) (y + 1 < n) m = f_flt (p y) (p (y + 1)) (y + 1 < n) m := by
  by_cases l : y + 1 < n
  · rw [h.2.2.2.2.2.2.2 _ l]
  · exact flt_w l
theorem clook (h : cB p n M) (hn : n ≤ 2000) {y : Nat} (hy : y < n) : ∃ N, f_Code_look M 0 (nI y) = some N ∧ lk N 0 (p y) ∧ cB p n N ∧ mI N 2 0 4 = mI M 2 0 4 ∧ fr (fun k j => k = 2 ∧ j = 0) M N := by
  obtain ⟨b1', b2', b3', b4', b5', b6', b7', b8'⟩ := h
  obtain ⟨N, q1, q2, q3, q4, q5⟩ := lk_look b2' b3' b1' hn hy
  rw [b8' y hy] at q2
  exact ⟨N, q1, q2, cB_f ⟨b1', b2', b3', b4', b5', b6', b7', b8'⟩ (fr_mono q5 (fun k j z => Or.inl z)) q3, q4, q5⟩
theorem b1_1 {P : Prop} (h : P) : vp_nar .boolean (1 : Int32) = b1 P := by rw [b1_t h]; decide
/-- the second pass -/
theorem cpass2 (hn : n ≤ 2000) {last : Nat} (hl : last < n) : ∀ (k y fu : Nat) (N : me_M), y + k = n → k < fu → fr fP M N → cB p n N → (∀ t, t < n → mI N 15 0 t = b1 (f_sec p t)) → (∀ t, t < n → mI N 15 1 t = b1 (f_mk p y t)) → ∃ N1 r, f_Code_faultOfForm_l66 0 fu N (nI last) (nI y) = some (N1, r) ∧ fr fP M N1 ∧ mI N1 2 0 3 = nI n ∧ ((r = (f_p2 p n (k + 1) y).1 ∧ ¬ r = 0 ∧ mI N1 2 0 4 = nI (f_p2 p n (k + 1) y).2) ∨ ((f_p2 p n (k + 1) y).1 = 0 ∧ ((d_fam (p last) = 10 ∨ d_fam (p last) = 7) → r = 0 ∧ cB p n N1 ∧ (∀ t, t < n → mI N1 15 0 t = b1 (f_sec p t)) ∧ ∀ t, t < n → mI N1 15 1 t = b1 (f_mk p n t)) ∧ (¬ (d_fam (p last) = 10 ∨ d_fam (p last) = 7) → r = 6 ∧ mI N1 2 0 4 = nI last))) := by
  intro k
  induction k with
  | zero =>
    intro y fu N e hf g hB hs hm
    obtain ⟨fu, rfl⟩ : ∃ f, fu = f + 1 := ⟨fu - 1, by omega⟩
    have ey : y = n := by omega
    rw [f_Code_faultOfForm_l66, hB.1, if_pos (show nI n ≤ nI y from (nI_lei (by omega) (by omega)).mpr (by omega))]
    have p2 : (f_p2 p n (0 + 1) y).1 = 0 := by rw [f_p2, if_pos (by omega)]
    obtain ⟨L, q1, q2, q3, q4, q5⟩ := clook hB hn hl
    rw [q1, bd_some, q2.2.2.2.2.2.1]
    have gL : fr fP M L := fr_trans g (fr_mono q5 (fun k j z => Or.inl z))
    have o : ∀ j, mI L 15 j = mI N 15 j := fun j => q5.2.2.2.1 15 j (fun z => absurd z.1 (by decide))
    have good : (∀ t, t < n → mI L 15 0 t = b1 (f_sec p t)) ∧ ∀ t, t < n → mI L 15 1 t = b1 (f_mk p n t) := ⟨fun t ht => by rw [o]; exact hs t ht, fun t ht => by rw [o, ← ey]; exact hm t ht⟩
    by_cases f10 : d_fam (p last) = 10
    · rw [if_pos f10]
      exact ⟨L, 0, rfl, gL, q3.1, Or.inr ⟨p2, fun _ => ⟨rfl, q3, good⟩, fun z => absurd (Or.inl f10) z⟩⟩
    rw [if_neg f10]
    by_cases f7 : d_fam (p last) = 7
    · rw [if_pos f7]
      exact ⟨L, 0, rfl, gL, q3.1, Or.inr ⟨p2, fun _ => ⟨rfl, q3, good⟩, fun z => absurd (Or.inr f7) z⟩⟩
    rw [if_neg f7, st_eq]
    exact ⟨_, _, rfl, fr_trans gL (fr_I (Or.inl ⟨rfl, rfl⟩)), by rw [pI_place (by decide)]; exact q3.1, Or.inr ⟨p2, fun z => (z.elim f10 f7).elim, fun _ => ⟨rfl, pI_same⟩⟩⟩
  | succ k ih =>
    intro y fu N e hf g hB hs hm
    obtain ⟨fu, rfl⟩ : ∃ f, fu = f + 1 := ⟨fu - 1, by omega⟩
    have hy : y < n := by omega
    rw [f_Code_faultOfForm_l66, hB.1, if_neg (show ¬ nI n ≤ nI y from fun z => by have := (nI_lei (by omega) (by omega)).mp z; omega)]
    obtain ⟨L, q1, q2, q3, q4, q5⟩ := clook hB hn hy
    have gL : fr fP M L := fr_trans g (fr_mono q5 (fun k j z => Or.inl z))
    have o : ∀ j, mI L 15 j = mI N 15 j := fun j => q5.2.2.2.1 15 j (fun z => absurd z.1 (by decide))
    have hsL : ∀ t, t < n → mI L 15 0 t = b1 (f_sec p t) := fun t ht => by rw [o]; exact hs t ht
    have hmL : ∀ t, t < n → mI L 15 1 t = b1 (f_mk p y t) := fun t ht => by rw [o]; exact hm t ht
    rw [q1, bd_some, hB.2.2.2.1, bd_some, hB.2.2.2.2.1, gd_pos (ix_ok (by omega) (by decide)), nI_tn (by omega), hsL y hy, nI_s]
    rw [f_p2, if_neg (show ¬ n ≤ y by omega)]
    -- no jump here
    have nxt : ¬ f_jmp p y → ∃ N1 r, f_Code_faultOfForm_l66 0 fu L (nI last) (nI (y + 1)) = some (N1, r) ∧ fr fP M N1 ∧ mI N1 2 0 3 = nI n ∧ ((r = (ic (f_jmp p y ∧ ¬ f_tok p n y) (5, y) (f_p2 p n (k + 1) (y + 1))).1 ∧ ¬ r = 0 ∧ mI N1 2 0 4 = nI (ic (f_jmp p y ∧ ¬ f_tok p n y) (5, y) (f_p2 p n (k + 1) (y + 1))).2) ∨ ((ic (f_jmp p y ∧ ¬ f_tok p n y) (5, y) (f_p2 p n (k + 1) (y + 1))).1 = 0 ∧ ((d_fam (p last) = 10 ∨ d_fam (p last) = 7) → r = 0 ∧ cB p n N1 ∧ (∀ t, t < n → mI N1 15 0 t = b1 (f_sec p t)) ∧ ∀ t, t < n → mI N1 15 1 t = b1 (f_mk p n t)) ∧ (¬ (d_fam (p last) = 10 ∨ d_fam (p last) = 7) → r = 6 ∧ mI N1 2 0 4 = nI last))) := by
      intro nj
      rw [ic_f (fun z => nj z.1)]
      refine ih (y + 1) fu L (by omega) (by omega) gL q3 hsL (fun t ht => ?_)
      rw [hmL t ht]
      refine b1_c ⟨fun z => ?_, fun z => ?_⟩
      · obtain ⟨s, a, b⟩ := z; exact ⟨s, by omega, b⟩
      · obtain ⟨s, a, b, c⟩ := z
        refine ⟨s, ?_, b, c⟩
        rcases Nat.lt_or_ge s y with r | r
        · exact r
        · rw [show s = y by omega] at b; exact absurd b nj
    by_cases sy : f_sec p y
    · rw [if_neg (b1_n0 sy)]
      exact nxt (fun z => z.1 sy)
    rw [if_pos (b1_f sy)]
    unfold f_Code_isJump f_Code_target
    rw [q2.2.2.2.2.2.1]
    -- a jump here
    have jmp : (d_fam (p y) = 7 ∨ d_fam (p y) = 8) → ∃ N1 r, b2 (some (L, nI y + 1 + mI L 2 0 8)) (fun (M15 : me_M) (r16 : Int32) => b2 (f_Code_markTarget M15 0 r16) (fun (M17 : me_M) (r18 : Int32) => (if r18 = 0 then st (wI M17 2 0 4 (nI y)) (fun (M20 : me_M) => some (M20, (5 : Int32))) else f_Code_faultOfForm_l66 0 fu M17 (nI last) (nI (y + 1))))) = some (N1, r) ∧ fr fP M N1 ∧ mI N1 2 0 3 = nI n ∧ ((r = (ic (f_jmp p y ∧ ¬ f_tok p n y) (5, y) (f_p2 p n (k + 1) (y + 1))).1 ∧ ¬ r = 0 ∧ mI N1 2 0 4 = nI (ic (f_jmp p y ∧ ¬ f_tok p n y) (5, y) (f_p2 p n (k + 1) (y + 1))).2) ∨ ((ic (f_jmp p y ∧ ¬ f_tok p n y) (5, y) (f_p2 p n (k + 1) (y + 1))).1 = 0 ∧ ((d_fam (p last) = 10 ∨ d_fam (p last) = 7) → r = 0 ∧ cB p n N1 ∧ (∀ t, t < n → mI N1 15 0 t = b1 (f_sec p t)) ∧ ∀ t, t < n → mI N1 15 1 t = b1 (f_mk p n t)) ∧ (¬ (d_fam (p last) = 10 ∨ d_fam (p last) = 7) → r = 6 ∧ mI N1 2 0 4 = nI last))) := by
      intro f78
      have J : f_jmp p y := ⟨sy, f78⟩
      rw [b2_some, q2.2.2.2.1]
      show ∃ N1 r, b2 (f_Code_markTarget L 0 (f_to p y)) _ = some (N1, r) ∧ _
      have bad : ¬ f_tok p n y → f_Code_markTarget L 0 (f_to p y) = some (L, 0) := by
        intro nt
        unfold f_Code_markTarget
        rw [q3.1]
        by_cases a : f_to p y < 0
        · rw [if_pos a]
        rw [if_neg a]
        by_cases b : nI n ≤ f_to p y
        · rw [if_pos b]
        rw [if_neg b]
        have et := tc_nI a
        have bt' : (f_to p y).toNatClampNeg < 2147483648 := by
          have e : (f_to p y).toNatClampNeg = (f_to p y).toInt.toNat := rfl
          have := Int32.toInt_lt (f_to p y)
          omega
        have lt : (f_to p y).toNatClampNeg < n := by
          rw [et] at b
          have : ¬ n ≤ (f_to p y).toNatClampNeg := fun z => b ((nI_lei (by omega) bt').mpr z)
          omega
        have sec : f_sec p (f_to p y).toNatClampNeg := Classical.byContradiction (fun z => nt ⟨a, b, z⟩)
        rw [q3.2.2.2.1, bd_some, q3.2.2.2.2.1, gd_pos (show ¬ (f_to p y < 0 ∨ 2000 ≤ (f_to p y).toNatClampNeg) from fun z => z.elim a (fun q => by omega)), hsL _ lt, if_neg (b1_n0 sec)]
      by_cases tk : f_tok p n y
      · obtain ⟨a, b, sec⟩ := tk
        have et := tc_nI a
        have bt' : (f_to p y).toNatClampNeg < 2147483648 := by
          have e : (f_to p y).toNatClampNeg = (f_to p y).toInt.toNat := rfl
          have := Int32.toInt_lt (f_to p y)
          omega
        have lt : (f_to p y).toNatClampNeg < n := by
          rw [et] at b
          have : ¬ n ≤ (f_to p y).toNatClampNeg := fun z => b ((nI_lei (by omega) bt').mpr z)
          omega
        have good : f_Code_markTarget L 0 (f_to p y) = some (wI L 15 1 (f_to p y).toNatClampNeg 1, 1) := by
          unfold f_Code_markTarget
          rw [q3.1, if_neg a, if_neg b, q3.2.2.2.1, bd_some, q3.2.2.2.2.1, gd_pos (show ¬ (f_to p y < 0 ∨ 2000 ≤ (f_to p y).toNatClampNeg) from fun z => z.elim a (fun q => by omega)), hsL _ lt, if_pos (b1_f sec), q3.2.2.2.2.2.1, bd_some, q3.2.2.2.2.2.2.1, gd_pos (show ¬ (f_to p y < 0 ∨ 2000 ≤ (f_to p y).toNatClampNeg) from fun z => z.elim a (fun q => by omega)), st_eq]
          rfl
        rw [good, b2_some, if_neg (by decide), ic_f (fun z => z.2 ⟨a, b, sec⟩)]
        have g2 : fr fP M (wI L 15 1 (f_to p y).toNatClampNeg 1) := fr_trans gL (fr_I (Or.inr ⟨rfl, Or.inr rfl⟩))
        refine ih (y + 1) fu _ (by omega) (by omega) g2 (cB_f q3 (fr_I (Or.inr ⟨rfl, Or.inr rfl⟩)) (wI_j (by decide))) (fun t ht => by rw [wI_j (by decide)]; exact hsL t ht) (fun t ht => ?_)
        by_cases e2 : t = (f_to p y).toNatClampNeg
        · rw [e2, pI_same, b1_t ⟨y, by omega, J, rfl⟩]
        · rw [pI_place e2, hmL t ht]
          refine b1_c ⟨fun z => ?_, fun z => ?_⟩
          · obtain ⟨s, a, b⟩ := z; exact ⟨s, by omega, b⟩
          · obtain ⟨s, a, b, c⟩ := z
            refine ⟨s, ?_, b, c⟩
            rcases Nat.lt_or_ge s y with r | r
            · exact r
            · rw [show s = y by omega] at c; exact absurd c.symm e2
      · rw [bad tk, b2_some, if_pos rfl, st_eq, ic_t ⟨J, tk⟩]
        exact ⟨_, _, rfl, fr_trans gL (fr_I (Or.inl ⟨rfl, rfl⟩)), by rw [pI_place (by decide)]; exact q3.1, Or.inl ⟨rfl, by decide, pI_same⟩⟩
    by_cases f7 : d_fam (p y) = 7
    · rw [if_pos f7, b2_some, if_neg (by decide)]
      exact jmp (Or.inl f7)
    rw [if_neg f7]
    by_cases f8 : d_fam (p y) = 8
    · rw [if_pos f8, b2_some, if_neg (by decide)]
      exact jmp (Or.inr f8)
    rw [if_neg f8, b2_some, if_pos rfl]
    exact nxt (fun z => z.2.elim f7 f8)
/-- what the form comes to -/
def cFo (p : Nat → Int64) (n : Nat) (m : Int32) (M N1 : me_M) (r : Int32) (a b : Int32 × Nat) : Prop := fr fP M N1 ∧ mI N1 2 0 3 = nI n ∧ ((¬ a.1 = 0 ∧ r = a.1 ∧ mI N1 2 0 4 = nI a.2) ∨ (a.1 = 0 ∧ ((r = b.1 ∧ ¬ r = 0 ∧ mI N1 2 0 4 = nI b.2) ∨ (b.1 = 0 ∧ ((d_fam (p a.2) = 10 ∨ d_fam (p a.2) = 7) → r = 0 ∧ cB p n N1 ∧ (∀ t, t < n → mI N1 15 0 t = b1 (f_sec p t)) ∧ ∀ t, t < n → mI N1 15 1 t = b1 (f_mk p n t)) ∧ (¬ (d_fam (p a.2) = 10 ∨ d_fam (p a.2) = 7) → r = 6 ∧ mI N1 2 0 4 = nI a.2)))))
theorem cpass1 (hn : n ≤ 2000) (h0 : 0 < n) : ∀ (k y last fu fv : Nat) (N : me_M), y + k = n → k < fu → k < fv → (y = 0 ∨ last < y) → ¬ f_sec p y → (y = 0 → last = 0) → fr fP M N → cB p n N → (∀ t, t < n → mI N 15 0 t = b1 (f_sec p t ∧ t ≤ y)) → (∀ t, t < n → mI N 15 1 t = 0) → ∃ N1 r, f_Code_faultOfForm_l4 0 m fu N (nI last) (nI y) = some (N1, r) ∧ cFo p n m M N1 r (f_p1 p n m fv y last) (f_p2 p n (n + 1) 0) := by
  intro k
  induction k using Nat.strongRecOn with
  | ind k ih =>
    intro y last fu fv N e hf hv hl ns hl0 g hB hs hm
    obtain ⟨fu, rfl⟩ : ∃ f, fu = f + 1 := ⟨fu - 1, by omega⟩
    obtain ⟨fv, rfl⟩ : ∃ f, fv = f + 1 := ⟨fv - 1, by omega⟩
    rw [f_Code_faultOfForm_l4, hB.1, f_p1]
    by_cases ge : n ≤ y
    · rw [if_pos (show nI n ≤ nI y from (nI_lei (by omega) (by omega)).mpr ge), if_pos ge]
      have hl2 : last < n := by omega
      obtain ⟨N1, r, q1, q2, q2b, q3⟩ := cpass2 (M := M) (p := p) hn hl2 n 0 fuel N (by omega) (by unfold fuel; omega) g hB (fun t ht => by
        rw [hs t ht]
        exact b1_c ⟨fun z => z.1, fun z => ⟨z, by omega⟩⟩) (fun t ht => by
        rw [hm t ht, b1_f (fun z => by obtain ⟨s, a, _⟩ := z; omega)])
      exact ⟨N1, r, q1, q2, q2b, Or.inr ⟨rfl, q3⟩⟩
    have hy : y < n := by omega
    rw [if_neg (show ¬ nI n ≤ nI y from fun z => by have := (nI_lei (by omega) (by omega)).mp z; omega), if_neg ge]
    obtain ⟨L, q1, q2, q3, q4, q5⟩ := clook hB hn hy
    have gL : fr fP M L := fr_trans g (fr_mono q5 (fun k j z => Or.inl z))
    have o : ∀ j, mI L 15 j = mI N 15 j := fun j => q5.2.2.2.1 15 j (fun z => absurd z.1 (by decide))
    have hsL : ∀ t, t < n → mI L 15 0 t = b1 (f_sec p t ∧ t ≤ y) := fun t ht => by rw [o]; exact hs t ht
    have hmL : ∀ t, t < n → mI L 15 1 t = 0 := fun t ht => by rw [o]; exact hm t ht
    rw [q1, bd_some, c_flt (m := m) q2 q3.1 q3.2.1 q3.2.2.1 hy hn, b2_some, flt_p q3 hy]
    by_cases f : f_flt (p y) (p (y + 1)) (y + 1 < n) m = 0
    · rw [if_pos f, if_pos f, q2.2.2.2.2.2.1]
      by_cases f1 : d_fam (p y) = 1
      · have lt : y + 1 < n := shp_l (flt_1 f) f1
        obtain ⟨s1, s2⟩ := sec_2 ns f1
        rw [if_pos f1, if_pos f1, hB.2.2.2.1, bd_some, nI_s, hB.2.2.2.2.1, gd_pos (ix_ok (by omega) (by decide)), nI_tn (by omega), st_eq, nI_s]
        refine ih (k - 2) (by omega) (y + 2) y fu fv _ (by omega) (by omega) (by omega) (Or.inr (by omega)) s2 (fun z => by omega) (fr_trans gL (fr_I (Or.inr ⟨rfl, Or.inl rfl⟩))) (cB_f q3 (fr_I (Or.inr ⟨rfl, Or.inl rfl⟩)) (wI_j (by decide))) (fun t ht => ?_) (fun t ht => by rw [wI_j (by decide)]; exact hmL t ht)
        by_cases e1 : t = y + 1
        · rw [e1, pI_same]
          exact b1_1 ⟨s1, by omega⟩
        · rw [pI_place e1, hsL t ht]
          refine b1_c ⟨fun z => ⟨z.1, by omega⟩, fun z => ⟨z.1, ?_⟩⟩
          by_cases e2 : t = y + 2
          · rw [e2] at z; exact absurd z.1 s2
          · have := z.2; omega
      · rw [if_neg f1, if_neg f1, nI_s]
        refine ih (k - 1) (by omega) (y + 1) y fu fv _ (by omega) (by omega) (by omega) (Or.inr (by omega)) (sec_1 f1) (fun z => by omega) gL q3 (fun t ht => ?_) hmL
        rw [hsL t ht]
        refine b1_c ⟨fun z => ⟨z.1, by omega⟩, fun z => ⟨z.1, ?_⟩⟩
        by_cases e2 : t = y + 1
        · rw [e2] at z; exact absurd z.1 (sec_1 f1)
        · have := z.2; omega
    · rw [if_neg f, if_neg f, st_eq]
      exact ⟨_, _, rfl, fr_trans gL (fr_I (Or.inl ⟨rfl, rfl⟩)), by rw [pI_place (by decide)]; exact q3.1, Or.inl ⟨f, rfl, pI_same⟩⟩
theorem cform (hn : n ≤ 2000) (h0 : 0 < n) (hB : cB p n M) (hs : ∀ t, t < n → mI M 15 0 t = 0) (hm : ∀ t, t < n → mI M 15 1 t = 0) : ∃ N1, f_Code_faultOfForm M 0 m = some (N1, (f_form p n m).1) ∧ fr fP M N1 ∧ mI N1 2 0 3 = nI n ∧ (¬ (f_form p n m).1 = 0 → mI N1 2 0 4 = nI (f_form p n m).2) ∧ ((f_form p n m).1 = 0 → cB p n N1 ∧ (∀ t, t < n → mI N1 15 0 t = b1 (f_sec p t)) ∧ ∀ t, t < n → mI N1 15 1 t = b1 (f_mk p n t)) := by
  unfold f_Code_faultOfForm
  obtain ⟨N1, r, q1, q2, q2b, q3⟩ := cpass1 (M := M) (p := p) (m := m) hn h0 n 0 0 fuel (n + 1) M (by omega) (by unfold fuel; omega) (by omega) (Or.inl rfl) (fun z => z) (fun _ => rfl) fr_refl hB (fun t ht => by
    rw [hs t ht, b1_f (fun z => by
      have e : t = 0 := by have := z.2; omega
      rw [e] at z
      exact z.1)]) hm
  rw [show f_Code_faultOfForm_l4 0 m fuel M (0 : Int32) (0 : Int32) = some (N1, r) from q1]
  unfold f_form
  rcases q3 with ⟨a1, a2, a3⟩ | ⟨a1, ⟨b1', b2', b3'⟩ | ⟨b1', b2', b3'⟩⟩
  · rw [if_neg a1, a2]
    exact ⟨N1, rfl, q2, q2b, fun _ => a3, fun z => absurd z a1⟩
  · rw [if_pos a1, if_neg (by rw [← b1']; exact b2'), b1']
    exact ⟨N1, rfl, q2, q2b, fun _ => b3', fun z => absurd (b1'.trans z) b2'⟩
  · rw [if_pos a1, if_pos b1']
    by_cases c : (d_fam (p (f_p1 p n m (n + 1) 0 0).2) = 10 ∨ d_fam (p (f_p1 p n m (n + 1) 0 0).2) = 7)
    · rw [if_pos c, (b2' c).1]
      exact ⟨N1, rfl, q2, q2b, fun z => absurd rfl z, fun _ => (b2' c).2⟩
    · rw [if_neg c, (b3' c).1]
      exact ⟨N1, rfl, q2, q2b, fun _ => (b3' c).2, fun z => absurd z (by decide : ¬ (6 : Int32) = 0)⟩
end CF
