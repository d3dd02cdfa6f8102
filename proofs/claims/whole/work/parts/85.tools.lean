/-! PURE: reads over writes, and how a function goes on. -/
theorem me_ext {M M1 : me_M} (h1 : mI M1 = mI M) (h2 : mL M1 = mL M) (h3 : mR M1 = mR M) (h4 : mN M1 = mN M) (h5 : mZ M1 = mZ M) : M1 = M := Prod.ext h1 (Prod.ext h2 (Prod.ext h3 (Prod.ext h4 h5)))
section PU
variable {M : me_M} {k j f a b c : Nat} {v : Int32} {w : Int64} {r : Option Nat}
theorem pI_I : mI (wI M k j f v) a b c = if a = k ∧ b = j ∧ c = f then v else mI M a b c := rfl
theorem pI_L : mI (wL M k j f w) = mI M := rfl
theorem pI_R : mI (wR M k j f r) = mI M := rfl
theorem pL_I : mL (wI M k j f v) = mL M := rfl
theorem pL_L : mL (wL M k j f w) a b c = if a = k ∧ b = j ∧ c = f then w else mL M a b c := rfl
theorem pL_R : mL (wR M k j f r) = mL M := rfl
theorem pR_I : mR (wI M k j f v) = mR M := rfl
theorem pR_L : mR (wL M k j f w) = mR M := rfl
theorem pR_R : mR (wR M k j f r) a b c = if a = k ∧ b = j ∧ c = f then r else mR M a b c := rfl
theorem pN_I : mN (wI M k j f v) = mN M := rfl
theorem pN_L : mN (wL M k j f w) = mN M := rfl
theorem pN_R : mN (wR M k j f r) = mN M := rfl
theorem pZ_I : mZ (wI M k j f v) = mZ M := rfl
theorem pZ_L : mZ (wL M k j f w) = mZ M := rfl
theorem pZ_R : mZ (wR M k j f r) = mZ M := rfl
theorem pL_same : mL (wL M k j f w) k j f = w := if_pos ⟨rfl, rfl, rfl⟩
theorem pI_same : mI (wI M k j f v) k j f = v := if_pos ⟨rfl, rfl, rfl⟩
theorem pL_thing (h : ¬ b = j) : mL (wL M k j f w) a b c = mL M a b c := if_neg (fun z => h z.2.1)
theorem pL_place (h : ¬ c = f) : mL (wL M k j f w) a b c = mL M a b c := if_neg (fun z => h z.2.2)
theorem pI_thing (h : ¬ b = j) : mI (wI M k j f v) a b c = mI M a b c := if_neg (fun z => h z.2.1)
theorem pI_place (h : ¬ c = f) : mI (wI M k j f v) a b c = mI M a b c := if_neg (fun z => h z.2.2)
/-- a write of what is there -/
theorem pL_id : wL M k j f (mL M k j f) = M := me_ext rfl (by
  funext x y z
  show (if x = k ∧ y = j ∧ z = f then mL M k j f else mL M x y z) = mL M x y z
  by_cases h : x = k ∧ y = j ∧ z = f
  · rw [if_pos h, h.1, h.2.1, h.2.2]
  · rw [if_neg h]) rfl rfl rfl
/-- two writes at one place -/
theorem pL_two {w2 : Int64} : wL (wL M k j f w) k j f w2 = wL M k j f w2 := me_ext rfl (by
  funext x y z
  show (if x = k ∧ y = j ∧ z = f then w2 else if x = k ∧ y = j ∧ z = f then w else mL M x y z) = if x = k ∧ y = j ∧ z = f then w2 else mL M x y z
  by_cases h : x = k ∧ y = j ∧ z = f
  · rw [if_pos h, if_pos h]
  · rw [if_neg h, if_neg h, if_neg h]) rfl rfl rfl
/-- writes at two places of a thing -/
theorem pL_swap {g : Nat} {w2 : Int64} (h : ¬ f = g) : wL (wL M k j f w) k j g w2 = wL (wL M k j g w2) k j f w := me_ext rfl (by
  funext x y z
  show (if x = k ∧ y = j ∧ z = g then w2 else if x = k ∧ y = j ∧ z = f then w else mL M x y z) = if x = k ∧ y = j ∧ z = f then w else if x = k ∧ y = j ∧ z = g then w2 else mL M x y z
  by_cases h1 : x = k ∧ y = j ∧ z = f
  · rw [if_pos h1, if_pos h1, if_neg (fun q => h (h1.2.2.symm.trans q.2.2))]
  · rw [if_neg h1, if_neg h1]) rfl rfl rfl
end PU
theorem st_eq {α β : Type} (x : α) (f : α → β) : st x f = f x := rfl
theorem bd_some {α β : Type} (x : α) (f : α → Option β) : bd (some x) f = f x := rfl
theorem b2_some {α γ β : Type} (x : α) (y : γ) (f : α → γ → Option β) : b2 (some (x, y)) f = f x y := rfl
theorem gd_pos {β : Type} {c : Prop} [Decidable c] {x : Option β} (h : c) : gd c x = x := if_pos h
/-- a number (Num) as six longs -/
def pn_put (M : me_M) (j : Nat) (a b c d e f : Int64) : me_M := wL (wL (wL (wL (wL (wL M 11 j 0 a) 11 j 1 b) 11 j 2 c) 11 j 3 d) 11 j 4 e) 11 j 5 f
section PN
variable {M : me_M} {j i q : Nat} {a b c d e f x : Int64}
theorem pn_I : mI (pn_put M j a b c d e f) = mI M := rfl
theorem pn_R : mR (pn_put M j a b c d e f) = mR M := rfl
theorem pn_N : mN (pn_put M j a b c d e f) = mN M := rfl
theorem pn_Z : mZ (pn_put M j a b c d e f) = mZ M := rfl
theorem pn_L (h : ¬ i = j) : mL (pn_put M j a b c d e f) 11 i q = mL M 11 i q := by
  unfold pn_put
  rw [pL_thing h, pL_thing h, pL_thing h, pL_thing h, pL_thing h, pL_thing h]
theorem pn_0 : mL (pn_put M j a b c d e f) 11 j 0 = a := by
  unfold pn_put
  rw [pL_place (by decide), pL_place (by decide), pL_place (by decide), pL_place (by decide), pL_place (by decide), pL_same]
theorem pn_1 : mL (pn_put M j a b c d e f) 11 j 1 = b := by
  unfold pn_put
  rw [pL_place (by decide), pL_place (by decide), pL_place (by decide), pL_place (by decide), pL_same]
theorem pn_2 : mL (pn_put M j a b c d e f) 11 j 2 = c := by
  unfold pn_put
  rw [pL_place (by decide), pL_place (by decide), pL_place (by decide), pL_same]
theorem pn_3 : mL (pn_put M j a b c d e f) 11 j 3 = d := by
  unfold pn_put
  rw [pL_place (by decide), pL_place (by decide), pL_same]
theorem pn_4 : mL (pn_put M j a b c d e f) 11 j 4 = e := by
  unfold pn_put
  rw [pL_place (by decide), pL_same]
theorem pn_5 : mL (pn_put M j a b c d e f) 11 j 5 = f := by
  unfold pn_put
  rw [pL_same]
theorem pn_w5 : wL (pn_put M j a b c d e f) 11 j 5 x = pn_put M j a b c d e x := by
  unfold pn_put
  rw [pL_two]
theorem pn_w4 : wL (pn_put M j a b c d e f) 11 j 4 x = pn_put M j a b c d x f := by
  unfold pn_put
  rw [pL_swap (f := 5) (g := 4) (by decide), pL_two]
theorem pn_w3 : wL (pn_put M j a b c d e f) 11 j 3 x = pn_put M j a b c x e f := by
  unfold pn_put
  rw [pL_swap (f := 5) (g := 3) (by decide), pL_swap (f := 4) (g := 3) (by decide), pL_two]
theorem pn_w2 : wL (pn_put M j a b c d e f) 11 j 2 x = pn_put M j a b x d e f := by
  unfold pn_put
  rw [pL_swap (f := 5) (g := 2) (by decide), pL_swap (f := 4) (g := 2) (by decide), pL_swap (f := 3) (g := 2) (by decide), pL_two]
theorem pn_w1 : wL (pn_put M j a b c d e f) 11 j 1 x = pn_put M j a x c d e f := by
  unfold pn_put
  rw [pL_swap (f := 5) (g := 1) (by decide), pL_swap (f := 4) (g := 1) (by decide), pL_swap (f := 3) (g := 1) (by decide), pL_swap (f := 2) (g := 1) (by decide), pL_two]
theorem pn_w0 : wL (pn_put M j a b c d e f) 11 j 0 x = pn_put M j x b c d e f := by
  unfold pn_put
  rw [pL_swap (f := 5) (g := 0) (by decide), pL_swap (f := 4) (g := 0) (by decide), pL_swap (f := 3) (g := 0) (by decide), pL_swap (f := 2) (g := 0) (by decide), pL_swap (f := 1) (g := 0) (by decide), pL_two]
theorem pn_id : pn_put M j (mL M 11 j 0) (mL M 11 j 1) (mL M 11 j 2) (mL M 11 j 3) (mL M 11 j 4) (mL M 11 j 5) = M := by
  unfold pn_put
  rw [pL_id, pL_id, pL_id, pL_id, pL_id, pL_id]
theorem pn_two {a2 b2 c2 d2 e2 f2 : Int64} : pn_put (pn_put M j a b c d e f) j a2 b2 c2 d2 e2 f2 = pn_put M j a2 b2 c2 d2 e2 f2 := by
  rw [show pn_put (pn_put M j a b c d e f) j a2 b2 c2 d2 e2 f2 = wL (wL (wL (wL (wL (wL (pn_put M j a b c d e f) 11 j 0 a2) 11 j 1 b2) 11 j 2 c2) 11 j 3 d2) 11 j 4 e2) 11 j 5 f2 from rfl, pn_w0, pn_w1, pn_w2, pn_w3, pn_w4, pn_w5]
end PN
theorem pf_Num_exact (M : me_M) (j : Nat) (x : Int64) : f_Num_exact M j x = some (pn_put M j x 0 x x x x) := rfl
theorem pf_Num_any (M : me_M) (j : Nat) : f_Num_any M j = some (pn_put M j 0 (-1) 0 (-1) (-9223372036854775808) 9223372036854775807) := rfl
theorem pf_Num_copy {M : me_M} {j i : Nat} (h : ¬ i = j) : f_Num_copy M j i = some (pn_put M j (mL M 11 i 0) (mL M 11 i 1) (mL M 11 i 2) (mL M 11 i 3) (mL M 11 i 4) (mL M 11 i 5)) := by
  unfold f_Num_copy pn_put
  simp only [st_eq, pL_thing h]
