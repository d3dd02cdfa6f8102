/-! PURE: the reference's items. -/
def iA (k j : Nat) : Prop := (k = 14 ∧ j = 8) ∨ (k = 13 ∧ 6 ≤ j ∧ j ≤ 9)
/-- only items at places of S, and what is written of slots of T, are changed -/
def rf (S T : Nat → Prop) (M M1 : me_M) : Prop := mR M1 = mR M ∧ mN M1 = mN M ∧ mZ M1 = mZ M ∧ (∀ k j f, ¬ (iA k j ∧ S f) → ¬ (k = 13 ∧ j = 10 ∧ T f) → mI M1 k j f = mI M k j f) ∧ ∀ k j f, ¬ (k = 16 ∧ (6 ≤ j ∧ j ≤ 11) ∧ S f) → mL M1 k j f = mL M k j f
/-- kinds are bytes -/
def bI (M : me_M) : Prop := ∀ x, vp_nar .byte (mI M 14 8 x) = mI M 14 8 x
theorem nar_nar (x : Int32) : vp_nar .byte (vp_nar .byte x) = vp_nar .byte x := by
  have e : ∀ y : Int32, vp_nar .byte y = y.toInt8.toInt32 := fun y => rfl
  rw [e, e]
  congr 1
  exact Int8.toInt8_toInt32 _
theorem nar_k : ∀ k, k < 9 → vp_nar .byte (nI k) = nI k := by decide
def it (M : me_M) (w : Int32) (x : Nat) : sC := cn (mI M 14 8 x) (mI M 13 6 x) (mI M 13 7 x) (mI M 13 8 x) (mI M 13 9 x) w (rg M x)
def ii (M : me_M) (x : Nat) (k p m i r : Int32) : me_M := wI (wI (wI (wI (wI M 14 8 x k) 13 6 x p) 13 7 x m) 13 8 x i) 13 9 x r
section RI
variable {M M1 M2 : me_M} {S S2 T T2 : Nat → Prop} {x y : Int32} {i j q : Nat} {k p m d r w : Int32} {z : fn_N}
theorem rf_refl : rf S T M M := ⟨rfl, rfl, rfl, fun _ _ _ _ _ => rfl, fun _ _ _ _ => rfl⟩
theorem rf_trans (h : rf S T M M1) (g : rf S T M1 M2) : rf S T M M2 := ⟨g.1.trans h.1, g.2.1.trans h.2.1, g.2.2.1.trans h.2.2.1, fun k j f a b => (g.2.2.2.1 k j f a b).trans (h.2.2.2.1 k j f a b), fun k j f a => (g.2.2.2.2 k j f a).trans (h.2.2.2.2 k j f a)⟩
theorem rf_mono (h : rf S T M M1) (g : ∀ i, S i → S2 i) (g2 : ∀ i, T i → T2 i) : rf S2 T2 M M1 := ⟨h.1, h.2.1, h.2.2.1, fun k j f a b => h.2.2.2.1 k j f (fun z => a ⟨z.1, g f z.2⟩) (fun z => b ⟨z.1, z.2.1, g2 f z.2.2⟩), fun k j f a => h.2.2.2.2 k j f (fun z => a ⟨z.1, z.2.1, g f z.2.2⟩)⟩
theorem rf_q (h : rq S M M1) : rf S T M M1 := ⟨h.2.1, h.2.2.1, h.2.2.2.1, fun k j f _ _ => by rw [h.1], h.2.2.2.2⟩
theorem rf_I {a b f : Nat} {v : Int32} (h : iA a b) (g : S f) : rf S T M (wI M a b f v) := by
  refine ⟨rfl, rfl, rfl, ?_, fun _ _ _ _ => rfl⟩
  intro k j e c1 _
  refine if_neg (fun z => c1 ⟨?_, ?_⟩)
  · rw [z.1, z.2.1]; exact h
  · rw [z.2.2]; exact g
theorem rf_W {f : Nat} {v : Int32} (g : T f) : rf S T M (wI M 13 10 f v) := by
  refine ⟨rfl, rfl, rfl, ?_, fun _ _ _ _ => rfl⟩
  intro k j e _ c2
  exact if_neg (fun z => c2 ⟨z.1, z.2.1, by rw [z.2.2]; exact g⟩)
theorem rf_ps (h : rf S T M M1) (g : ps_M M) : ps_M M1 := ps_M_of h.1 h.2.2.1 g
theorem iA0 : iA 14 8 := Or.inl ⟨rfl, rfl⟩
theorem iA6 : iA 13 6 := Or.inr ⟨rfl, by decide, by decide⟩
theorem iA7 : iA 13 7 := Or.inr ⟨rfl, by decide, by decide⟩
theorem iA8 : iA 13 8 := Or.inr ⟨rfl, by decide, by decide⟩
theorem iA9 : iA 13 9 := Or.inr ⟨rfl, by decide, by decide⟩
theorem rf_ii (h : S i) : rf S T M (ii M i k p m d r) := rf_trans (rf_trans (rf_trans (rf_trans (rf_I iA0 h) (rf_I iA6 h)) (rf_I iA7 h)) (rf_I iA8 h)) (rf_I iA9 h)
theorem rf_rt (h : S i) : rf S T M (rt M i z) := rf_q (rq_t h)
theorem rf_rg (h : rf S T M M1) (g : ¬ S i) : rg M1 i = rg M i := by
  unfold rg
  rw [h.2.2.2.2 16 6 i (fun z => g z.2.2), h.2.2.2.2 16 7 i (fun z => g z.2.2), h.2.2.2.2 16 8 i (fun z => g z.2.2), h.2.2.2.2 16 9 i (fun z => g z.2.2), h.2.2.2.2 16 10 i (fun z => g z.2.2), h.2.2.2.2 16 11 i (fun z => g z.2.2)]
theorem rf_it (h : rf S T M M1) (g : ¬ S i) : it M1 w i = it M w i := by
  unfold it
  rw [rf_rg h g, h.2.2.2.1 14 8 i (fun z => g z.2) (fun z => absurd z.1 (by decide)), h.2.2.2.1 13 6 i (fun z => g z.2) (fun z => absurd z.2.1 (by decide)), h.2.2.2.1 13 7 i (fun z => g z.2) (fun z => absurd z.2.1 (by decide)), h.2.2.2.1 13 8 i (fun z => g z.2) (fun z => absurd z.2.1 (by decide)), h.2.2.2.1 13 9 i (fun z => g z.2) (fun z => absurd z.2.1 (by decide))]
theorem bI_k {b f : Nat} {v : Int32} {a : Nat} (h : bI M) (g : ¬ (a = 14 ∧ b = 8)) : bI (wI M a b f v) := by
  intro q
  have e : mI (wI M a b f v) 14 8 q = mI M 14 8 q := if_neg (fun z => g ⟨z.1.symm, z.2.1.symm⟩)
  rw [e]
  exact h q
theorem bI_w {f : Nat} {v : Int32} (h : bI M) (g : vp_nar .byte v = v) : bI (wI M 14 8 f v) := by
  intro q
  rw [pI_I]
  by_cases e : (14 : Nat) = 14 ∧ (8 : Nat) = 8 ∧ q = f
  · rw [if_pos e]; exact g
  · rw [if_neg e]; exact h q
theorem bI_ii (h : bI M) (g : vp_nar .byte k = k) : bI (ii M i k p m d r) := bI_k (bI_k (bI_k (bI_k (bI_w h g) (by decide)) (by decide)) (by decide)) (by decide)
theorem bI_rt (h : bI M) : bI (rt M i z) := h
theorem ps_ii (h : ps_M M) : ps_M (ii M i k p m d r) := ps_M_of rfl rfl h
theorem rg_ii : rg (ii M i k p m d r) q = rg M q := rfl
theorem it_ii : it (ii M i k p m d r) w i = cn k p m d r w (rg M i) := by
  unfold it
  rw [rg_ii]
  unfold ii
  simp [pI_I]
theorem it_rt : it (rt M i z) w i = cn (mI M 14 8 i) (mI M 13 6 i) (mI M 13 7 i) (mI M 13 8 i) (mI M 13 9 i) w z := by
  unfold it
  rw [rg_t]
  rfl
theorem it_both : it (rt (ii M i k p m d r) i z) w i = cn k p m d r w z := by
  rw [it_rt]
  unfold ii
  simp [pI_I]
theorem pi_clear (h : ps_M M) (hx : ok x i) : f_M_clear M 0 x = some (ii M i 0 0 0 0 0) := by
  unfold f_M_clear
  simp only [rs_47 h, rs_48 h, rs_49 h, rs_50 h, rs_51 h, bd_some, st_eq, rz_14_8 h, rz_13_6 h, rz_13_7 h, rz_13_8 h, rz_13_9 h, hx.2.1, ok_g hx, gd, if_true]
  rfl
theorem pi_kind (h : ps_M M) (hx : ok x i) : f_M_setKind M 0 x k = some (wI (ii M i 0 0 0 0 0) 14 8 i (vp_nar .byte k.toInt8.toInt32)) := by
  unfold f_M_setKind
  rw [pi_clear h hx, bd_some, rs_47 h, bd_some, rz_14_8 h, hx.2.1]
  simp only [ok_g hx, gd, if_true, st_eq]
theorem ii_k {k2 : Int32} : wI (ii M i k p m d r) 14 8 i k2 = ii M i k2 p m d r := by
  unfold ii
  refine me_ext ?_ rfl rfl rfl rfl
  funext a b c
  simp only [pI_I]
  by_cases e : a = 14 ∧ b = 8 ∧ c = i
  · have n1 : ¬ (a = 13 ∧ b = 9 ∧ c = i) := fun z => absurd (e.1.symm.trans z.1) (by decide)
    have n2 : ¬ (a = 13 ∧ b = 8 ∧ c = i) := fun z => absurd (e.1.symm.trans z.1) (by decide)
    have n3 : ¬ (a = 13 ∧ b = 7 ∧ c = i) := fun z => absurd (e.1.symm.trans z.1) (by decide)
    have n4 : ¬ (a = 13 ∧ b = 6 ∧ c = i) := fun z => absurd (e.1.symm.trans z.1) (by decide)
    rw [if_pos e, if_neg n1, if_neg n2, if_neg n3, if_neg n4, if_pos e]
  · simp only [if_neg e]
theorem pi_setKind (h : ps_M M) (hx : ok x i) {n : Nat} (hn : n < 9) : f_M_setKind M 0 x (nI n) = some (ii M i (nI n) 0 0 0 0) := by
  have e : vp_nar .byte (nI n).toInt8.toInt32 = nI n := by
    have : ∀ n, n < 9 → vp_nar .byte (nI n).toInt8.toInt32 = nI n := by decide
    exact this n hn
  rw [pi_kind h hx, e, ii_k]
theorem pi_toNumber (h : ps_M M) (hx : ok x i) {v : Int64} : f_M_toNumber M 0 x v = some (rt (ii M i 1 0 0 0 0) i (fn_ex v)) := by
  unfold f_M_toNumber
  rw [show (1 : Int32) = nI 1 from rfl, pi_setKind h hx (by decide), bd_some, pm_exact (ps_ii h) hx, bd_some]
theorem pi_toAny (h : ps_M M) (hx : ok x i) : f_M_toAny M 0 x = some (rt (ii M i 1 0 0 0 0) i fn_any) := by
  unfold f_M_toAny
  rw [show (1 : Int32) = nI 1 from rfl, pi_setKind h hx (by decide), bd_some, pm_any (ps_ii h) hx, bd_some]
theorem any_it : fn_it 3 fn_any = some fn_any := by decide +kernel
theorem pi_toRead (h : ps_M M) (hx : ok x i) {n : Int32} (hn : n = 1 ∨ n = 2 ∨ n = 4 ∨ n = 8) : f_M_toRead M 0 x n = some (rt (ii M i 1 0 0 0 0) i (fn_rd n)) := by
  unfold f_M_toRead fn_rd
  rw [pi_toAny h hx, bd_some]
  have hp : ps_M (rt (ii M i 1 0 0 0 0) i fn_any) := ps_t (ps_ii h)
  by_cases g : 8 ≤ n
  · rw [if_pos g, if_pos g, pm_settle_some (z := fn_any) hp hx (by rw [rg_t]; exact any_it), b2_some, rt_two]
  · rw [if_neg g, if_neg g, rs_55 h, bd_some, rz_16_9 h, hx.2.1]
    simp only [ok_g hx, gd, if_true, st_eq]
    have hn2 : n = 1 ∨ n = 2 ∨ n = 4 := by
      rcases hn with r | r | r | r
      · exact Or.inl r
      · exact Or.inr (Or.inl r)
      · exact Or.inr (Or.inr r)
      · exact absurd (by rw [r]; decide) g
    obtain ⟨z, hz⟩ := fn_rd_it n hn2
    have e1 : wL (rt (ii M i 1 0 0 0 0) i fn_any) 16 9 i (jlshl 1 (8 * n) - 1) = rt (ii M i 1 0 0 0 0) i (0, -1, 0, jlshl 1 (8 * n) - 1, -9223372036854775808, 9223372036854775807) := rn_w3
    rw [e1, pm_settle_some (z := z) (ps_t (ps_ii h)) hx (by rw [rg_t]; exact hz), b2_some, rt_two]
    unfold fn_fin
    rw [hz]
    rfl
theorem kA {f c n l : Nat} {v : Int32} : mI (wI M 14 l f v) 13 n c = mI M 13 n c := by rw [pI_I, if_neg (fun z => absurd z.1 (by decide))]
theorem kB {f c n l : Nat} {v : Int32} (g : ¬ n = l) : mI (wI M 13 l f v) 13 n c = mI M 13 n c := by rw [pI_I, if_neg (fun z => g z.2.1)]
theorem pi_copy (h : ps_M M) (hb : bI M) (hx : ok x i) (hy : ok y j) : f_M_copyItem M 0 x y = some (rt (ii M j (mI M 14 8 i) (mI M 13 6 i) (mI M 13 7 i) (mI M 13 8 i) (mI M 13 9 i)) j (rg M i)) := by
  have e : ∀ N : me_M, N = ii M j (mI M 14 8 i) (mI M 13 6 i) (mI M 13 7 i) (mI M 13 8 i) (mI M 13 9 i) → f_M_copyNumber N 0 x y = some (rt N j (rg M i)) := by
    intro N hN
    subst hN
    rw [pm_copy (ps_ii h) hx hy, rg_ii]
  unfold f_M_copyItem
  generalize f_M_copyNumber = cp at e
  simp only [rs_47 h, rs_48 h, rs_49 h, rs_50 h, rs_51 h, bd_some, st_eq, rz_14_8 h, rz_13_6 h, rz_13_7 h, rz_13_8 h, rz_13_9 h, hx.2.1, hy.2.1, ok_g hx, ok_g hy, gd, if_true, hb i, kA, kB, Nat.reduceEqDiff, not_false_iff]
  show bd (cp (ii M j (mI M 14 8 i) (mI M 13 6 i) (mI M 13 7 i) (mI M 13 8 i) (mI M 13 9 i)) 0 x y) (fun M26 => some M26) = _
  rw [e _ rfl, bd_some]
/-- what is asked of an item -/
theorem pi_isNumber (h : ps_M M) (hx : ok x i) : f_M_isNumber M 0 x = some (M, if mI M 14 8 i = 1 then 1 else 0) := by
  unfold f_M_isNumber
  rw [rs_47 h, bd_some, rz_14_8 h, hx.2.1]
  simp only [ok_g hx, gd, if_true]
  split <;> rfl
theorem in_k : ∀ n, n < 9 → f_M_in (nI n).toInt64 2 4 = some (if nI n = 2 ∨ nI n = 3 ∨ nI n = 4 then 1 else 0) := by decide
theorem pi_isPointer (h : ps_M M) (hx : ok x i) {n : Nat} (hn : n < 9) (hk : mI M 14 8 i = nI n) : f_M_isPointer M 0 x = some (M, if nI n = 2 ∨ nI n = 3 ∨ nI n = 4 ∨ nI n = 7 then 1 else 0) := by
  unfold f_M_isPointer
  rw [rs_47 h, bd_some, rz_14_8 h, hx.2.1, hk, in_k n hn]
  simp only [ok_g hx, gd, if_true, bd_some]
  by_cases g : nI n = 2 ∨ nI n = 3 ∨ nI n = 4
  · rw [if_pos g, if_neg (by decide), if_pos (g.elim Or.inl (fun z => z.elim (fun q => Or.inr (Or.inl q)) (fun q => Or.inr (Or.inr (Or.inl q)))))]
  · rw [if_neg g, if_pos rfl]
    by_cases g7 : nI n = 7
    · rw [if_pos g7, if_pos (Or.inr (Or.inr (Or.inr g7)))]
    · rw [if_neg g7, if_neg (fun z => z.elim (fun q => g (Or.inl q)) (fun z => z.elim (fun q => g (Or.inr (Or.inl q))) (fun z => z.elim (fun q => g (Or.inr (Or.inr q))) g7)))]
theorem pi_isZero (h : ps_M M) (hx : ok x i) : f_M_isZero M 0 x = some (M, if mI M 14 8 i = 1 ∧ (rg M i).2.1 = 0 ∧ (rg M i).1 = 0 then 1 else 0) := by
  unfold f_M_isZero
  rw [pi_isNumber h hx, b2_some, pm_isExact h hx, rs_52 h]
  by_cases g : mI M 14 8 i = 1
  · rw [if_pos g, if_neg (by decide), b2_some]
    by_cases g2 : (rg M i).2.1 = 0
    · rw [if_pos g2, if_neg (by decide), bd_some, rz_16_6 h, hx.2.1]
      simp only [ok_g hx, gd, if_true]
      by_cases g3 : mL M 16 6 i = 0
      · rw [if_pos g3, if_pos ⟨g, g2, g3⟩]
      · rw [if_neg g3, if_neg (fun z => g3 z.2.2)]
    · rw [if_neg g2, if_pos rfl, if_neg (fun z => g2 z.2.1)]
  · rw [if_neg g, if_pos rfl, if_neg (fun z => g z.1)]
end RI
