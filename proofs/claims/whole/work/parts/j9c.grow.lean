/-! PURE: a longer tape. -/
section JGR
variable {nm nm2 g g2 tn jt j2 : Nat} {tb : Nat → Prop} {kb vb : Int32 → Int32} {en jk jv jh : Nat → Nat} {W : tyU} {M N R S : me_M}
theorem pI_c (hp : pI_ nm kb vb M R) (h0 : ∀ f, 9 ≤ f → f ≤ 13 → mI N 0 0 f = mI M 0 0 f) (h : ∀ k j, k = 2 ∨ k = 4 ∨ k = 13 → mI N k j = mI M k j) (h15 : ∀ j, j = 4 ∨ j = 5 → mI N 15 j = mI M 15 j) (h16 : ∀ j, mL N 16 j = mL M 16 j) : pI_ nm kb vb N R := by
  rcases hp with ⟨z1, z2, z3, z4, z5⟩ | ⟨p, n, B, gg, z1, z2, z3, z4⟩
  · exact Or.inl ⟨by rw [h0 11 (by omega) (by omega)]; exact z1, z2, by rw [h0 12 (by omega) (by omega)]; exact z3, z4, by rw [h 2 0 (by omega)]; exact z5⟩
  · exact Or.inr ⟨p, n, B, gg, z1, cPr_k z2 (fun f a b => h0 f a (by omega)) (fun j => by rw [h 2 j (by omega)]) (fun f => by rw [h 4 0 (by omega)]) (fun j _ => h 13 j (by omega)) h15 (fun j _ => h16 j), z3, fun z => ⟨(z4 z).1, by rw [h0 13 (by omega) (by omega)]; exact (z4 z).2⟩⟩
theorem pI_r (hp : pI_ nm kb vb M R) (h1 : ∀ f, f = 12 ∨ f = 14 ∨ f = 15 ∨ (18 ≤ f ∧ f ≤ 26) → mI S 1 0 f = mI R 1 0 f) (h : ∀ j, j = 4 ∨ j = 5 → mI S 13 j = mI R 13 j) (h15 : ∀ j, j = 1 ∨ j = 2 → mI S 15 j = mI R 15 j) (h16 : ∀ j, j = 1 ∨ j = 2 ∨ j = 3 → mL S 16 j = mL R 16 j) : pI_ nm kb vb M S := by
  rcases hp with ⟨z1, z2, z3, z4, z5⟩ | ⟨p, n, B, gg, z1, z2, z3, z4⟩
  · exact Or.inl ⟨z1, by rw [h1 18 (by omega)]; exact z2, z3, by rw [h1 19 (by omega)]; exact z4, z5⟩
  · exact Or.inr ⟨p, n, B, gg, z1, z2, rPr_k z3 h1 h h15 h16, z4⟩
def gwt (M : me_M) (jt L z : Nat) : me_M := wA (nA M 14 L) 14 (mN M 14) (va_cpy (mI (nA M 14 L) 14 jt) (mI (nA M 14 L) 14 (mN M 14)) 0 0 z)
theorem tl_u {q : Nat} (h : q < 6) : jimin (2 * nI (tl q)) 65536 = nI (tl (q + 1)) ∧ ¬ nI (tl (q + 1)) = nI (tl q) ∧ jimin (nI (tl q)) (nI (tl (q + 1))) = nI (tl q) ∧ tl q ≤ tl (q + 1) ∧ tl (q + 1) ≤ 65536 ∧ tl q + 20 ≤ tl (q + 1) := by
  have : ∀ q, q < 6 → jimin (2 * nI (tl q)) 65536 = nI (tl (q + 1)) ∧ ¬ nI (tl (q + 1)) = nI (tl q) ∧ jimin (nI (tl q)) (nI (tl (q + 1))) = nI (tl q) ∧ tl q ≤ tl (q + 1) ∧ tl (q + 1) ≤ 65536 ∧ tl q + 20 ≤ tl (q + 1) := by decide
  exact this q h
theorem fit_ (hc : cI_ nm g tn jt tb kb vb en jk jv jh W M) (hn : nm ≤ 4) : me_cN (mN M) ≤ 90000 ∧ me_sN (mN M) ≤ 2500000 := by
  have := room_of hc.2.2.2.1 hc.2.2.2.2.2.2.1.1 hn (cnt_ hc) (c402 hc)
  exact ⟨Nat.le_trans (Nat.le_add_right _ _) this.1, Nat.le_trans (Nat.le_add_right _ _) this.2⟩
theorem grow_f (hc : cI_ nm g tn jt tb kb vb en jk jv jh W M) (hn : nm ≤ 4) (hg : g < 6) : f_Arrays_copyOf M jt (jimin (2 * nI (tl g)) 65536) = some (gwt M jt (tl (g + 1)) (tl g), mN M 14) := by
  obtain ⟨t1, t2, t3, t4, t5, t6⟩ := tl_u hg
  have ft := fit_ hc hn
  have jl : jt < mN M 14 := hc.2.2.2.2.2.2.1.2.2.2.1
  have tz : mZ M 14 jt = tl g := hc.2.2.2.2.2.2.1.2.1
  have z1 : mZ (nA M 14 (tl (g + 1))) 14 jt = tl g := by rw [nA_Z (by omega)]; exact tz
  have s14 : me_sc 14 = 65536 := by decide
  have tt : (nI (tl (g + 1))).toNatClampNeg = tl (g + 1) := nI_tn (by omega)
  have t0 : (nI (tl g)).toNatClampNeg = tl g := nI_tn (by omega)
  unfold f_Arrays_copyOf
  rw [t1, tz, show Int32.ofNat (tl g) = nI (tl g) from rfl, if_neg t2, tt, gd_pos ⟨nI_ps (by omega), by rw [s14]; exact t5, by unfold me_CL; omega, by rw [s14]; unfold me_SL; omega⟩, st_eq, z1, show Int32.ofNat (tl g) = nI (tl g) from rfl, t3, t0, nA_Z0, gd_pos ⟨by decide, by decide, nI_ps (by omega), by show 0 + tl g ≤ tl g; omega, by show 0 + tl g ≤ tl (g + 1); omega⟩, st_eq]
  rfl
theorem gwt_o {L z : Nat} {r : Option Nat} (a b : Nat) (h : ¬ (a = 14 ∧ b = mN M 14)) : mI (wR (gwt M jt L z) 0 0 0 r) a b = mI M a b := by
  show mI (gwt M jt L z) a b = _
  unfold gwt
  rw [wA_o h, nA_I h]
theorem gwt_s {L z b : Nat} {r : Option Nat} (hj : jt < mN M 14) (hb : b < z) : mI (wR (gwt M jt L z) 0 0 0 r) 14 (mN M 14) b = mI M 14 jt b := by
  show mI (gwt M jt L z) 14 (mN M 14) b = _
  unfold gwt
  rw [wA_s, cpy_in (by omega), nA_I (by omega)]
  congr 1
  omega
theorem grow (hc : cI_ nm g tn jt tb kb vb en jk jv jh W M) (hb : bI_ nm tn jt tb kb vb en W M R) (hp : pI_ nm kb vb M R) (hg : g < 6) (hN : N = wR (gwt M jt (tl (g + 1)) (tl g)) 0 0 0 (some (mN M 14))) : cI_ nm (g + 1) tn (mN M 14) tb kb vb en jk jv jh W N ∧ bI_ nm tn (mN M 14) tb kb vb en W N R ∧ pI_ nm kb vb N R := by
  obtain ⟨t1, t2, t3, t4, t5, t6⟩ := tl_u hg
  have n4 : nm ≤ 4 := hb.1.2.2.1.1
  have jl : jt < mN M 14 := hc.2.2.2.2.2.2.1.2.2.2.1
  have nN : mN N = me_N1 (mN M) 14 := by rw [hN]; rfl
  have n1 : ∀ k, ¬ k = 14 → mN N k = mN M k := fun k hk => by rw [nN]; exact if_neg hk
  have n2 : mN N 14 = mN M 14 + 1 := by rw [nN]; exact if_pos rfl
  have eI : ∀ a b, ¬ (a = 14 ∧ b = mN M 14) → mI N a b = mI M a b := fun a b h => by rw [hN]; exact gwt_o a b h
  have eL : ∀ a b, ¬ (a = 14 ∧ b = mN M 14) → mL N a b = mL M a b := fun a b h => by rw [hN]; exact nA_L (n := tl (g + 1)) h
  have eZ : ∀ a b, ¬ (a = 14 ∧ b = mN M 14) → mZ N a b = mZ M a b := fun a b h => by rw [hN]; exact nA_Z (n := tl (g + 1)) h
  have eR : ∀ a b f, ¬ (a = 14 ∧ b = mN M 14) → ¬ (a = 0 ∧ b = 0 ∧ f = 0) → mR N a b f = mR M a b f := fun a b f h h2 => by
    rw [hN, pR_R, if_neg h2]
    exact congrFun (nA_R (n := tl (g + 1)) h) f
  have e0 : mR N 0 0 0 = some (mN M 14) := by rw [hN, pR_R, if_pos ⟨rfl, rfl, rfl⟩]
  have hC : cCt (g + 1) nm N := by
    obtain ⟨⟨k0, k1, k2, k3, k4, k5, k6, k7, k8⟩, k12, k13, k14, k15, k16, k17, k19⟩ := hc.2.2.2.1
    refine ⟨⟨?_, ?_, ?_, ?_, ?_, ?_, ?_, ?_, ?_⟩, ?_, ?_, ?_, ?_, ?_, ?_, ?_⟩
    · rw [n1 0 (by decide)]; exact k0
    · rw [n1 1 (by decide)]; exact k1
    · rw [n1 2 (by decide)]; exact k2
    · rw [n1 3 (by decide)]; exact k3
    · rw [n1 4 (by decide)]; exact k4
    · rw [n1 5 (by decide)]; exact k5
    · rw [n1 6 (by decide)]; exact k6
    · rw [n1 7 (by decide)]; exact k7
    · rw [n1 8 (by decide)]; exact k8
    · rw [n1 12 (by decide)]; exact k12
    · rw [n1 13 (by decide)]; exact k13
    · rw [n2, k14]; omega
    · rw [n1 15 (by decide)]; exact k15
    · rw [n1 16 (by decide)]; exact k16
    · rw [n1 17 (by decide)]; exact k17
    · rw [n1 19 (by decide)]; exact k19
  obtain ⟨a1, a2, a3⟩ := cN_k (N := N) hc (fun k j f a b _ _ _ => eR k j f (fun z => b z.1) a) (fun k j a _ => eZ k j (fun z => a ⟨z.1, Nat.le_of_eq z.2.symm⟩)) (fun k j a _ _ _ => eI k j (fun z => a ⟨z.1, Nat.le_of_eq z.2.symm⟩)) (fun k j _ b _ => eL k j (fun z => b z.1)) hC (by omega) n4 ⟨n1 9 (by decide), n1 10 (by decide), n1 11 (by decide), n1 18 (by decide)⟩ e0
  obtain ⟨_, _, c3, c4, _, ⟨c13, c14⟩, ⟨c15, c16, c17, c18, c19, c20⟩, c21⟩ := hc
  have e00 : mI N 0 0 = mI M 0 0 := eI 0 0 (by omega)
  refine ⟨⟨a1, a2, c3, hC, a3, ⟨by rw [e00]; exact c13, by rw [e00]; exact c14⟩, ⟨by omega, ?_, by omega, by omega, ?_, fun m hm => ?_⟩, fun m hm => ?_⟩, ⟨hb.1, fun b hb2 => ?_, ?_, ?_⟩, ?_⟩
  · rw [hN]; exact nA_Z0
  · have := c4.2.2.2.1; omega
  · have := c21 m hm; omega
  · have := c21 m hm
    rw [n2, n1 15 (by decide)]
    omega
  · have e : mI N 14 (mN M 14) b = mI M 14 jt b := by rw [hN]; exact gwt_s c18 (by omega)
    rw [e]; exact hb.2.1 b hb2
  · rw [eI 5 0 (by omega)]; exact hb.2.2.1
  · rw [e00]; exact hb.2.2.2
  · exact pI_c hp (fun f _ _ => by rw [e00]) (fun k j hk => eI k j (by omega)) (fun j _ => eI 15 j (by omega)) (fun j => eL 16 j (by omega))
end JGR
