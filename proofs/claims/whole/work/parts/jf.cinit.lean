/-! PURE: the class's constructor. -/
def mkn (a b : Nat) (c : me_M → Option me_M) : List Nat → me_M → Option me_M
  | [], M => c M
  | f :: l, M => gd (me_fit M 11) (st (nO M 11) (fun (M2 : me_M) => bd (f_Num_init M2 (mN M 11)) (fun (M4 : me_M) => st (wR M4 a b f (some (mN M 11))) (fun (M5 : me_M) => mkn a b c l M5))))
def mkN (a b : Nat) : List Nat → me_M → me_M
  | [], M => M
  | f :: l, M => mkN a b l (wR (nO M 11) a b f (some (mN M 11)))
section JCI
variable {M N O : me_M} {a b : Nat} {c : me_M → Option me_M}
theorem mkn_ok : ∀ (l : List Nat) (M : me_M), me_cN (mN M) + l.length ≤ me_CL → me_sN (mN M) + 6 * l.length ≤ me_SL → mkn a b c l M = c (mkN a b l M) := by
  intro l
  induction l with
  | nil => intro M _ _; rw [mkn, mkN]
  | cons f l ih =>
    intro M h1 h2
    have s11 : me_sc 11 = 6 := by decide
    have k2 : (f :: l).length = l.length + 1 := rfl
    rw [k2] at h1 h2
    have eN : mN (wR (nO M 11) a b f (some (mN M 11))) = me_N1 (mN M) 11 := rfl
    rw [mkn, gd_pos ⟨by omega, by omega⟩, st_eq]
    unfold f_Num_init
    rw [bd_some, st_eq, mkN]
    exact ih _ (by rw [eN, me_cN1 (by omega)]; omega) (by rw [eN, me_sN1 (by omega), s11]; omega)
/-- alike, states aside -/
def ag (M N : me_M) : Prop := ∀ k, ¬ kS k → mN M k = mN N k ∧ mI M k = mI N k ∧ mL M k = mL N k ∧ mR M k = mR N k ∧ mZ M k = mZ N k
/-- states are alike -/
def bg (M N : me_M) : Prop := ∀ k, kS k → mN N k = mN M k ∧ mI N k = mI M k ∧ mL N k = mL M k ∧ mR N k = mR M k ∧ mZ N k = mZ M k
theorem ag_trans (h : ag M N) (g : ag N O) : ag M O := fun k hk => ⟨(h k hk).1.trans (g k hk).1, (h k hk).2.1.trans (g k hk).2.1, (h k hk).2.2.1.trans (g k hk).2.2.1, (h k hk).2.2.2.1.trans (g k hk).2.2.2.1, (h k hk).2.2.2.2.trans (g k hk).2.2.2.2⟩
theorem bg_trans (h : bg M N) (g : bg N O) : bg M O := fun k hk => ⟨(g k hk).1.trans (h k hk).1, (g k hk).2.1.trans (h k hk).2.1, (g k hk).2.2.1.trans (h k hk).2.2.1, (g k hk).2.2.2.1.trans (h k hk).2.2.2.1, (g k hk).2.2.2.2.trans (h k hk).2.2.2.2⟩
theorem ag_nfr (h : nfr M N) : ag N M := fun k hk => ⟨h.2 k hk, funext (fun j => (h.1 k j (Or.inr hk)).1), funext (fun j => (h.1 k j (Or.inr hk)).2.1), funext (fun j => (h.1 k j (Or.inr hk)).2.2.1), funext (fun j => (h.1 k j (Or.inr hk)).2.2.2)⟩
theorem ag_wR {k j f : Nat} {r : Option Nat} (h : ag M N) : ag (wR M k j f r) (wR N k j f r) := by
  intro q hq
  obtain ⟨h1, h2, h3, h4, h5⟩ := h q hq
  refine ⟨h1, h2, h3, ?_, h5⟩
  funext x y
  rw [pR_R, pR_R, h4]
theorem ag_wI {k j f : Nat} {v : Int32} (h : ag M N) : ag (wI M k j f v) (wI N k j f v) := by
  intro q hq
  obtain ⟨h1, h2, h3, h4, h5⟩ := h q hq
  refine ⟨h1, ?_, h3, h4, h5⟩
  funext x y
  rw [pI_I, pI_I, h2]
theorem ag_N1 {k : Nat} (h : ag M N) : ∀ q, ¬ kS q → me_N1 (mN M) k q = me_N1 (mN N) k q := fun q hq => by
  unfold me_N1
  rw [(h q hq).1]
theorem ag_nA {k n : Nat} (hk : ¬ kS k) (h : ag M N) : ag (nA M k n) (nA N k n) := by
  intro q hq
  obtain ⟨h1, h2, h3, h4, h5⟩ := h q hq
  have e := (h k hk).1
  refine ⟨ag_N1 h q hq, ?_, ?_, ?_, ?_⟩
  · funext x y
    show (if q = k ∧ x = mN M k then 0 else mI M q x y) = (if q = k ∧ x = mN N k then 0 else mI N q x y)
    rw [e, h2]
  · funext x y
    show (if q = k ∧ x = mN M k then 0 else mL M q x y) = (if q = k ∧ x = mN N k then 0 else mL N q x y)
    rw [e, h3]
  · funext x y
    show (if q = k ∧ x = mN M k then none else mR M q x y) = (if q = k ∧ x = mN N k then none else mR N q x y)
    rw [e, h4]
  · funext x
    show (if q = k ∧ x = mN M k then n else mZ M q x) = (if q = k ∧ x = mN N k then n else mZ N q x)
    rw [e, h5]
theorem ag_nO {k : Nat} (hk : ¬ kS k) (h : ag M N) : ag (nO M k) (nO N k) := by
  intro q hq
  obtain ⟨h1, h2, h3, h4, h5⟩ := h q hq
  have e := (h k hk).1
  refine ⟨ag_N1 h q hq, ?_, ?_, ?_, h5⟩
  · funext x y
    show (if q = k ∧ x = mN M k then 0 else mI M q x y) = (if q = k ∧ x = mN N k then 0 else mI N q x y)
    rw [e, h2]
  · funext x y
    show (if q = k ∧ x = mN M k then 0 else mL M q x y) = (if q = k ∧ x = mN N k then 0 else mL N q x y)
    rw [e, h3]
  · funext x y
    show (if q = k ∧ x = mN M k then none else mR M q x y) = (if q = k ∧ x = mN N k then none else mR N q x y)
    rw [e, h4]
theorem ag_mkA : ∀ (l : List (Nat × Int32 × Nat)) (M N : me_M), (∀ x, x ∈ l → ¬ kS x.1) → ag M N → ag (mkA a b l M) (mkA a b l N) := by
  intro l
  induction l with
  | nil => intro M N _ h; rw [mkA, mkA]; exact h
  | cons x l ih =>
    intro M N g h
    have hx := g x (List.mem_cons_self ..)
    rw [mkA, mkA, (h x.1 hx).1]
    exact ih _ _ (fun y hy => g y (List.mem_cons_of_mem _ hy)) (ag_wR (ag_nA hx h))
theorem bg_refl : bg M M := fun _ _ => ⟨rfl, rfl, rfl, rfl, rfl⟩
theorem bg_wR {k j f : Nat} {r : Option Nat} (hk : ¬ kS k) : bg M (wR M k j f r) := fun q hq => ⟨rfl, rfl, rfl, by
  funext x y
  rw [pR_R, if_neg (fun z => hk (by rw [← z.1]; exact hq))], rfl⟩
theorem bg_wI {k j f : Nat} {v : Int32} (hk : ¬ kS k) : bg M (wI M k j f v) := fun q hq => ⟨rfl, by
  funext x y
  rw [pI_I, if_neg (fun z => hk (by rw [← z.1]; exact hq))], rfl, rfl, rfl⟩
theorem bg_nA {k n : Nat} (hk : ¬ kS k) : bg M (nA M k n) := fun q hq => by
  have ne : ¬ q = k := fun z => hk (by rw [← z]; exact hq)
  exact ⟨if_neg ne, funext (fun x => nA_I (fun z => ne z.1)), funext (fun x => nA_L (fun z => ne z.1)), funext (fun x => nA_R (fun z => ne z.1)), funext (fun x => nA_Z (fun z => ne z.1))⟩
theorem bg_nO {k : Nat} (hk : ¬ kS k) : bg M (nO M k) := fun q hq => by
  have ne : ¬ q = k := fun z => hk (by rw [← z]; exact hq)
  exact ⟨if_neg ne, funext (fun x => nO_I (fun z => ne z.1)), funext (fun x => nO_L (fun z => ne z.1)), funext (fun x => nO_R (fun z => ne z.1)), rfl⟩
theorem bg_mkA : ∀ (l : List (Nat × Int32 × Nat)) (M : me_M), (∀ x, x ∈ l → ¬ kS x.1) → ¬ kS a → bg M (mkA a b l M) := by
  intro l
  induction l with
  | nil => intro M _ _; rw [mkA]; exact bg_refl
  | cons x l ih =>
    intro M g h
    rw [mkA]
    exact bg_trans (bg_trans (bg_nA (g x (List.mem_cons_self ..))) (bg_wR h)) (ih _ (fun y hy => g y (List.mem_cons_of_mem _ hy)) h)
theorem ss_b (h : bg M N) (g : ss M) : ss N := by
  have h9 := h 9 (by unfold kS; omega)
  have h10 := h 10 (by unfold kS; omega)
  have h18 := h 18 (by unfold kS; omega)
  unfold ss at g ⊢
  rw [h9.1, h9.2.2.2.1, h18.2.2.2.2, h18.2.2.2.1, h10.2.2.2.1]
  exact g
theorem cnt_b (h : bg M N) (g : cnt M) : cnt N := by
  have h9 := h 9 (by unfold kS; omega)
  have h10 := h 10 (by unfold kS; omega)
  have h11 := h 11 (by unfold kS; omega)
  have h18 := h 18 (by unfold kS; omega)
  unfold cnt at g ⊢
  rw [h9.1, h10.1, h11.1, h18.1]
  exact g
theorem us_b {s u : Nat} (h : bg M N) (g : us M s u) : us N s u := by
  have h9 := h 9 (by unfold kS; omega)
  have h10 := h 10 (by unfold kS; omega)
  have h11 := h 11 (by unfold kS; omega)
  exact us_k (fun j => by rw [h10.2.1]) (fun j => by rw [h9.2.1]) (fun j => by rw [h11.2.2.1]) g
theorem us_n {s u : Nat} (h : nfr M N) (hc : cnt M) (hs : s < mN M 9) (g : us M s u) : us N s u := by
  obtain ⟨u1, u2, u3, u4⟩ := g
  refine ⟨u1, u2, by rw [(h.1 9 s (Or.inl hs)).1]; exact u3, fun i hi hj => ?_⟩
  have := u4 i hi hj
  have e1 : 75 * s + i + 1 < mN M 10 := by rw [hc.2.1]; omega
  have e2 : nu (75 * s + i + 1) < mN M 11 := by
    unfold nu
    rw [if_neg (by omega), hc.2.2]
    omega
  unfold sv cv pg at this ⊢
  rw [(h.1 10 _ (Or.inl e1)).1, (h.1 11 _ (Or.inl e2)).2.1]
  exact this
end JCI
