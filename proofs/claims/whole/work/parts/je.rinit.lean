/-! PURE: the reference's constructor. -/
def mz_0 : me_M := (fun _ _ _ => 0, fun _ _ _ => 0, fun _ _ _ => none, fun _ => 0, fun _ _ => 0)
/-- arrays are made, one after another, and kept in fields of one object -/
def mka (a b : Nat) (c : me_M → Option me_M) : List (Nat × Int32 × Nat) → me_M → Option me_M
  | [], M => c M
  | x :: l, M => gd (¬ x.2.1 < 0 ∧ x.2.1.toNatClampNeg ≤ me_sc x.1 ∧ me_fit M x.1) (st (nA M x.1 x.2.1.toNatClampNeg) (fun (M2 : me_M) => st (wR M2 a b x.2.2 (some (mN M x.1))) (fun (M4 : me_M) => mka a b c l M4)))
def mkA (a b : Nat) : List (Nat × Int32 × Nat) → me_M → me_M
  | [], M => M
  | x :: l, M => mkA a b l (wR (nA M x.1 x.2.1.toNatClampNeg) a b x.2.2 (some (mN M x.1)))
def mkc : List (Nat × Int32 × Nat) → Nat
  | [] => 0
  | x :: l => me_sc x.1 + mkc l
def mkg (x : Nat × Int32 × Nat) : Prop := (12 < x.1 ∧ x.1 < 20) ∧ ¬ x.2.1 < 0 ∧ x.2.1.toNatClampNeg ≤ me_sc x.1
section JRI
variable {M N : me_M} {a b : Nat} {c : me_M → Option me_M}
theorem mka_ok : ∀ (l : List (Nat × Int32 × Nat)) (M : me_M), (∀ x, x ∈ l → mkg x) → me_cN (mN M) + l.length ≤ me_CL → me_sN (mN M) + mkc l ≤ me_SL → mka a b c l M = c (mkA a b l M) := by
  intro l
  induction l with
  | nil => intro M _ _ _; rw [mka, mkA]
  | cons x l ih =>
    intro M h h1 h2
    obtain ⟨⟨g0, g1⟩, g2, g3⟩ := h x (List.mem_cons_self ..)
    have k1 : mkc (x :: l) = me_sc x.1 + mkc l := rfl
    have k2 : (x :: l).length = l.length + 1 := rfl
    rw [k1] at h2
    rw [k2] at h1
    have eN : mN (wR (nA M x.1 x.2.1.toNatClampNeg) a b x.2.2 (some (mN M x.1))) = me_N1 (mN M) x.1 := rfl
    rw [mka, gd_pos ⟨g2, g3, by omega, by omega⟩, st_eq, st_eq, mkA]
    exact ih _ (fun y hy => h y (List.mem_cons_of_mem _ hy)) (by rw [eN, me_cN1 (by omega)]; omega) (by rw [eN, me_sN1 (by omega)]; omega)
theorem mkA_I : ∀ (l : List (Nat × Int32 × Nat)) (M : me_M), (∀ k j f, mI M k j f = 0) → ∀ k j f, mI (mkA a b l M) k j f = 0
  | [], _, h => h
  | x :: l, M, h => mkA_I l _ (fun k j f => by
    rw [pI_R]
    show (if k = x.1 ∧ j = mN M x.1 then 0 else mI M k j f) = 0
    by_cases q : k = x.1 ∧ j = mN M x.1
    · rw [if_pos q]
    · rw [if_neg q]; exact h k j f)
theorem mkA_L : ∀ (l : List (Nat × Int32 × Nat)) (M : me_M), (∀ k j f, mL M k j f = 0) → ∀ k j f, mL (mkA a b l M) k j f = 0
  | [], _, h => h
  | x :: l, M, h => mkA_L l _ (fun k j f => by
    rw [pL_R]
    show (if k = x.1 ∧ j = mN M x.1 then 0 else mL M k j f) = 0
    by_cases q : k = x.1 ∧ j = mN M x.1
    · rw [if_pos q]
    · rw [if_neg q]; exact h k j f)
theorem mkA_Ro {f : Nat} (ha : a < 13) : ∀ (l : List (Nat × Int32 × Nat)) (M : me_M), (∀ x, x ∈ l → mkg x ∧ ¬ f = x.2.2) → mR (mkA a b l M) a b f = mR M a b f
  | [], _, _ => rfl
  | x :: l, M, h => by
    obtain ⟨⟨⟨g0, g1⟩, _⟩, g2⟩ := h x (List.mem_cons_self ..)
    rw [mkA, mkA_Ro ha l _ (fun y hy => h y (List.mem_cons_of_mem _ hy)), wR_p g2, nA_R (by omega)]
theorem mkA_Z {k j : Nat} : ∀ (l : List (Nat × Int32 × Nat)) (M : me_M), mN M k ≤ mN (mkA a b l M) k ∧ (mN (mkA a b l M) k ≤ j → mZ (mkA a b l M) k j = mZ M k j)
  | [], _ => ⟨Nat.le_refl _, fun _ => rfl⟩
  | x :: l, M => by
    obtain ⟨i1, i2⟩ := mkA_Z (k := k) (j := j) l (wR (nA M x.1 x.2.1.toNatClampNeg) a b x.2.2 (some (mN M x.1)))
    have e1 : mN M k ≤ mN (wR (nA M x.1 x.2.1.toNatClampNeg) a b x.2.2 (some (mN M x.1))) k := by
      show mN M k ≤ (if k = x.1 then mN M k + 1 else mN M k)
      by_cases q : k = x.1
      · rw [if_pos q]; omega
      · rw [if_neg q]; omega
    rw [mkA]
    refine ⟨Nat.le_trans e1 i1, fun h => (i2 h).trans ?_⟩
    rw [pZ_R, nA_Z]
    intro z
    have e2 : mN (wR (nA M x.1 x.2.1.toNatClampNeg) a b x.2.2 (some (mN M x.1))) k = mN M k + 1 := if_pos z.1
    have e3 : j = mN M k := by rw [z.2, z.1]
    omega
def r_st : List (Nat × Int32 × Nat) := [(14, 65536, 1), (13, 4, 5), (13, 4, 6), (13, 4, 7), (13, 4, 8), (15, 256, 9), (14, 4096, 10), (14, 16384, 11), (16, 2000, 13), (16, 2000, 16), (16, 2000, 17), (13, 2000, 27), (15, 2000, 28), (15, 2000, 29), (13, 2000, 30), (16, 2000, 31), (15, 2000, 32), (15, 2000, 33), (14, 2000, 35), (14, 64, 36), (16, 1000, 39), (16, 11, 43), (14, 512, 44), (14, 64, 45), (14, 64, 46), (14, 30081, 47), (13, 30081, 48), (13, 30081, 49), (13, 30081, 50), (13, 30081, 51), (16, 30081, 52), (16, 30081, 53), (16, 30081, 54), (16, 30081, 55), (16, 30081, 56), (16, 30081, 57), (13, 25664, 58), (13, 201, 60), (13, 201, 61), (13, 200, 63), (13, 200, 64), (13, 75, 66), (13, 75, 67), (15, 2001, 71), (16, 2000, 72), (13, 2001, 73)]
def RG_ : me_M := mkA 1 0 r_st (nO mz_0 1)
theorem r_gd : ∀ x, x ∈ r_st → mkg x := by
  unfold mkg
  decide +kernel
theorem r_init : f_M_init (nO mz_0 1) 0 = some RG_ := by
  have e : f_M_init (nO mz_0 1) 0 = mka 1 0 some r_st (nO mz_0 1) := rfl
  rw [e]
  exact mka_ok r_st _ r_gd (by decide +kernel) (by decide +kernel)
theorem getD_out {α : Type} {l : List α} {d : α} {n : Nat} (h : l.length ≤ n) : l.getD n d = d := by
  rw [List.getD_eq_getElem?_getD, List.getElem?_eq_none h]
  rfl
theorem mkA_No {k : Nat} (hk : 20 ≤ k) : ∀ (l : List (Nat × Int32 × Nat)) (M : me_M), (∀ x, x ∈ l → mkg x) → mN (mkA a b l M) k = mN M k := by
  intro l
  induction l with
  | nil => intro M _; rw [mkA]
  | cons x l ih =>
    intro M h
    have := (h x (List.mem_cons_self ..)).1.2
    rw [mkA, ih _ (fun y hy => h y (List.mem_cons_of_mem _ hy))]
    exact if_neg (by omega)
theorem tf_l : rf_tab.length = 75 := by decide
theorem tz_l : rz_tab.length = 20 := by decide
theorem RG_R (f : Nat) : mR RG_ 1 0 f = rf_tab.getD f none := by
  by_cases l : f < 75
  · have : ∀ f, f < 75 → mR RG_ 1 0 f = rf_tab.getD f none := by decide +kernel
    exact this f l
  · have t : ∀ x, x ∈ r_st → x.2.2 < 75 := by decide +kernel
    unfold RG_
    rw [mkA_Ro (by decide) r_st _ (fun x hx => ⟨r_gd x hx, by have := t x hx; omega⟩), getD_out (by rw [tf_l]; omega)]
    rfl
theorem RG_N (k : Nat) : mN RG_ k ≤ 18 := by
  by_cases l : k < 20
  · have : ∀ k, k < 20 → mN RG_ k ≤ 18 := by decide +kernel
    exact this k l
  · unfold RG_
    rw [mkA_No (by omega) r_st _ r_gd]
    show (if k = 1 then 0 + 1 else 0) ≤ 18
    rw [if_neg (by omega)]
    omega
theorem RG_Z (k j : Nat) : mZ RG_ k j = (rz_tab.getD k []).getD j 0 := by
  by_cases l : j < 18
  · by_cases l2 : k < 20
    · have : ∀ k, k < 20 → ∀ j, j < 18 → mZ RG_ k j = (rz_tab.getD k []).getD j 0 := by decide +kernel
      exact this k l2 j l
    · rw [getD_out (l := rz_tab) (by rw [tz_l]; omega)]
      unfold RG_
      rw [(mkA_Z (k := k) (j := j) r_st _).2 (by
        rw [mkA_No (by omega) r_st _ r_gd]
        show (if k = 1 then 0 + 1 else 0) ≤ j
        rw [if_neg (by omega)]
        omega)]
      rfl
  · have e := (mkA_Z (a := 1) (b := 0) (k := k) (j := j) r_st (nO mz_0 1)).2 (Nat.le_trans (RG_N k) (by omega))
    unfold RG_
    rw [e]
    have t : ∀ k, k < 20 → (rz_tab.getD k []).length ≤ 18 := by decide +kernel
    have t2 : (rz_tab.getD k []).length ≤ 18 := by
      by_cases l2 : k < 20
      · exact t k l2
      · rw [getD_out (l := rz_tab) (by rw [tz_l]; omega)]
        exact Nat.zero_le _
    rw [getD_out (by omega)]
    rfl
theorem RG_ps : ps_M RG_ := ⟨RG_R, RG_Z⟩
theorem RG_I (k j f : Nat) : mI RG_ k j f = 0 := mkA_I r_st _ (fun k j f => by show (if _ then (0 : Int32) else 0) = 0; exact ite_self _) k j f
theorem RG_L (k j f : Nat) : mL RG_ k j f = 0 := mkA_L r_st _ (fun k j f => by show (if _ then (0 : Int64) else 0) = 0; exact ite_self _) k j f
end JRI
