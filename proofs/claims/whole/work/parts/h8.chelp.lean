/-! PURE: the class's Machine against the typed machine: helpers. -/
def mp1 (nm : Nat) (kb vb : Int32 → Int32) : Prop := ∀ m, m < nm → 1 ≤ (kb (nI m)).toInt ∧ 1 ≤ (vb (nI m)).toInt
section HCH
variable {nm : Nat} {tb : Nat → Prop} {kb vb : Int32 → Int32} {en jk jv jh : Nat → Nat} {T : tyT} {W : tyU} {M N O : me_M} {c v w pl : Int64} {jp i n : Nat} {t x : tyV} {rc : tyV → Int64} {reg : Nat → Int64} {stk pkt : Nat → Int32} {zs nt : Int32} {tel : Nat → Int64} {clk : Int64}
theorem mo_lost (h : mo rc T reg stk pkt zs nt tel clk) : mo rc (ty_lost T) reg stk pkt zs nt tel clk := by
  refine ⟨fun j hj hk => ?_, fun a ha => ?_, h.2.2⟩
  · by_cases e : 1 ≤ j ∧ j ≤ 5
    · have e1 : tyC (ty_lost T) j = (0, 0, 0, 0) := if_pos e
      rw [e1] at hk
      exact absurd rfl hk
    · have e1 : tyC (ty_lost T) j = tyC T j := if_neg e
      rw [e1] at hk ⊢
      exact h.1 j hj hk
  · have e1 : tyC (ty_lost T) (74 - a / 8) = tyC T (74 - a / 8) := if_neg (by omega)
    have := h.2.1 a ha
    unfold ys at this ⊢
    rw [e1]
    exact this
theorem tyI_lost (h : tyI nm en T) : tyI nm en (ty_lost T) := by
  intro j hj
  by_cases e : 1 ≤ j ∧ j ≤ 5
  · have e1 : tyC (ty_lost T) j = (0, 0, 0, 0) := if_pos e
    rw [e1] at hj
    exact absurd (show (0 : Int32) = 7 from hj) (by decide)
  · have e1 : tyC (ty_lost T) j = tyC T j := if_neg e
    rw [e1] at hj ⊢
    exact h j hj
theorem tyI_giv (h : tyI nm en T) (ht : t.1 = 7 → t.2.2.1 < nm ∧ t.2.2.2 < en t.2.2.1) : tyI nm en (ty_giv T t W) := tyI_set (T := ty_lost (ty_w T W)) (tyI_lost (T := ty_w T W) h) ht
theorem cRl_giv (h : cRl nm tb kb vb en jk jv jh (ty_w T W) M) (hv : ¬ t.1 = 0 → v = rc_ t) : cRl nm tb kb vb en jk jv jh (ty_giv T t W) (wL M 16 3 0 v) := by
  obtain ⟨h1, h2, h3, h4⟩ := h
  exact cRl_reg (T := ty_lost (ty_w T W)) ⟨h1, mo_lost h2, h3, h4⟩ (by decide) hv
/-- only the maps have changed -/
theorem cRl_st (h : cRl nm tb kb vb en jk jv jh T M) (hs : sgp nm jk jv jh M N) (hL : mL N = mL M) (h5 : mI N 5 0 = mI M 5 0) (h14 : ∀ j, j ≤ 3 → mI N 14 j = mI M 14 j) (hW : uP W = uP (tyW T) ∧ uZ W = uZ (tyW T) ∧ uC W = uC (tyW T) ∧ uT W = uT (tyW T) ∧ uN W = uN (tyW T) ∧ uL W = uL (tyW T)) (hm : mst nm tb kb vb en W (fun m => mI N 15 (jh m)) (fun m i b => mI N 14 (jk m) (i * kn kb m + b)) (fun m i b => mI N 14 (jv m) (i * kn vb m + b))) : cRl nm tb kb vb en jk jv jh (ty_w T W) N := by
  obtain ⟨h1, h2, h3, h4, h6⟩ := h
  obtain ⟨w1, w2, w3, w4, w5, w6⟩ := hW
  refine ⟨cSh_of hs h1, ?_, hm, ?_, ?_⟩
  · rw [hL, h5, h14 2 (by decide), h14 3 (by decide)]
    obtain ⟨a1, a2, a3, a4, a5, a6⟩ := h2
    refine ⟨a1, a2, ?_, ?_, ?_, ?_⟩
    · show ∀ a, a < 2000 → _ = uP W a
      rw [w1]; exact a3
    · show _ = nI (uZ W) ∧ uZ W ≤ 2000
      rw [w2]; exact a4
    · show _ = nI (uN W) ∧ uN W ≤ 1000 ∧ ∀ i, i < uN W → _ = uL W i
      rw [w5, w6]; exact a5
    · show _ = uT W
      rw [w4]; exact a6
  · show ∀ a, 16 ≤ a → a < 64 → mI N 14 1 a = uC W a
    rw [h14 1 (by decide), w3]
    exact h4
  · show ∀ i, i < 8 → mI N 14 1 i = yb 3298534883328 i ∧ mI N 14 1 (8 + i) = yb (3298534883328 + (nI (uZ W)).toInt64) i
    rw [h14 1 (by decide), w2]
    exact h6
theorem can_in (h : ty_can vb T t n) (hn : 1 ≤ n) : ty_ptr t ∧ ty_in vb T t t.2.1 n := by
  unfold ty_in
  rcases h with ⟨k, a, b, _⟩ | ⟨k, a⟩ | ⟨k, a⟩
  · rw [if_neg (by rw [k]; decide), if_pos k]
    exact ⟨Or.inr (Or.inl k), a, b⟩
  · rw [if_neg (by rw [k]; decide), if_neg (by rw [k]; decide), if_pos k]
    exact ⟨Or.inr (Or.inr (Or.inl k)), a.resolve_left (by omega)⟩
  · rw [if_neg (by rw [k]; decide), if_neg (by rw [k]; decide), if_neg (by rw [k]; decide)]
    exact ⟨Or.inr (Or.inr (Or.inr k)), k, a.resolve_left (by omega)⟩
theorem bit_1 {r : Nat} (h : r < 8) : ib (jishl 1 (nI r)) r = true := by
  rw [bit_tab r h r (by omega)]
  exact decide_eq_true rfl
/-- bytes that a helper reads -/
theorem key_rd (hR : cRl nm tb kb vb en jk jv jh T M) (hm : mpz nm kb vb en) (h7 : t.1 = 7 → t.2.2.1 < nm ∧ t.2.2.2 < en t.2.2.1) (h : ty_can vb T t n) : ∀ b, b < n → mI M 14 (ya jv t) (yA0 vb t t.2.1 + b) = ty_key T t b := by
  obtain ⟨hS, hmo, hst, hc1, hc2⟩ := hR
  intro b hb
  unfold ty_key ty_ar ty_ad ya yA0 ty_ad
  rcases h with ⟨k, a1, a2, a3⟩ | ⟨k, a⟩ | ⟨k, a⟩
  · have n2 : ¬ t.1 = 2 := by rw [k]; decide
    have n7 : ¬ t.1 = 7 := by rw [k]; decide
    have e5 : (t.2.1 + 512).toInt = t.2.1.toInt + 512 := by rw [l_add (by omega) (by omega) (by decide) (by decide)]; rfl
    have tp := tn_pos (pl := t.2.1 + 512) (by omega)
    rw [if_neg n2, if_pos k, if_neg n7, if_pos k, if_neg n2, if_pos k]
    exact ys_a (f := mI M 14 2) rc_1 (hmo.2.1 _ (by omega)) (a3 _ (by omega) (by omega)) (bit_1 (by omega))
  · have n2 : ¬ t.1 = 2 := by rw [k]; decide
    have n3 : ¬ t.1 = 3 := by rw [k]; decide
    have n7 : ¬ t.1 = 7 := by rw [k]; decide
    obtain ⟨a1, a2⟩ := a.resolve_left (by omega)
    have tp := tn_pos a1
    have z2 := hmo.2.2.2.1.2
    rw [if_neg n2, if_neg n3, if_pos k, if_neg n7, if_neg n3, if_neg n2, if_neg n3, if_pos k]
    exact hmo.2.2.1 _ (by omega)
  · have n2 : ¬ t.1 = 2 := by rw [k]; decide
    have n3 : ¬ t.1 = 3 := by rw [k]; decide
    have n4 : ¬ t.1 = 4 := by rw [k]; decide
    obtain ⟨a1, a2⟩ := a.resolve_left (by omega)
    obtain ⟨m1, m2⟩ := h7 k
    have tp := tn_pos a1
    have kp := (kn_pos hm m1).2
    rw [if_neg n2, if_neg n3, if_neg n4, if_pos k, if_neg n2, if_neg n3, if_neg n4, if_neg n3, Nat.add_assoc]
    exact (hst _ m1).2.1 _ m2 _ (by show _ < kn vb t.2.2.1; omega)
theorem mix_c {f g : Nat → Int32} {a b : Nat} : ∀ k, (∀ i, i < k → f (a + i) = g (b + i)) → y_mix f a k = y_mix g b k := by
  intro k
  induction k with
  | zero => intro _; rfl
  | succ k ih =>
    intro h
    rw [y_mix, y_mix, ih (fun i hi => h i (by omega)), h k (by omega)]
theorem cmix_l {ja A : Nat} (r6 : mR M 5 0 6 = some 3) (z4 : mZ M 16 3 = 16) (hw : w.toInt = (n : Int)) (hn : n ≤ 512) (hA : 1 ≤ n → mR M 5 0 18 = some ja ∧ mI M 5 0 19 = nI A ∧ A + n ≤ mZ M 14 ja ∧ mZ M 14 ja ≤ 100000) : ∀ (k i fu : Nat), i + k = n → k < fu → f_Machine_mix_l53 0 w fu M (y_mix (mI M 14 ja) A i) (nI i) = some (wL M 16 3 0 ((y_mix (mI M 14 ja) A n).toInt64 &&& 4294967295), 1) := by
  intro k
  induction k with
  | zero =>
    intro i fu e hf
    obtain ⟨fu, rfl⟩ : ∃ f, fu = f + 1 := ⟨fu - 1, by omega⟩
    rw [f_Machine_mix_l53, if_neg (by rw [i64_lt, nI_6 (by omega)]; omega), r6, bd_some, z4, gd_pos (show 0 < 16 by decide), st_eq, show i = n by omega]
  | succ k ih =>
    intro i fu e hf
    obtain ⟨fu, rfl⟩ : ∃ f, fu = f + 1 := ⟨fu - 1, by omega⟩
    obtain ⟨h1, h2, h3, h4⟩ := hA (by omega)
    rw [f_Machine_mix_l53, if_pos (by rw [i64_lt, nI_6 (by omega)]; omega), h1, bd_some, h2, nI_add, nI_tn (by omega), gd_pos (show ¬ (nI (A + i) < 0 ∨ mZ M 14 ja ≤ A + i) from fun z => z.elim (nI_ps (by omega)) (fun q => by omega)), st_eq, nI_s]
    exact ih (i + 1) fu (by omega) (by omega)
theorem kmix (hR : cRl nm tb kb vb en jk jv jh T M) (hI : tyI nm en T) (hm : mpz nm kb vb en) (k2 : (tyC T 2).1 = 1) (h1 : 0 ≤ (tyC T 2).2.1) (h2 : (tyC T 2).2.1 ≤ 512) (hc : ty_can vb T (tyC T 1) (tyC T 2).2.1.toNatClampNeg) : ∃ N, f_Machine_mix M 0 (mL M 16 3 2) = some (N, 1) ∧ cRl nm tb kb vb en jk jv jh (ty_giv T (ty_n ((y_mix (ty_ar T (tyC T 1)) (ty_ad (tyC T 1) (tyC T 1).2.1) (tyC T 2).2.1.toNatClampNeg).toInt64 &&& 4294967295)) (tyW T)) N ∧ sgp nm jk jv jh M N := by
  have hR2 := hR
  obtain ⟨hS, hmo, hst, hc1, hc2⟩ := hR2
  have hS2 := hS
  obtain ⟨⟨⟨r0, r1, r2, r3, r4, r5, r6, r7, r9⟩, ⟨z1, z2, z3, z4, z5⟩, _, hv⟩, _⟩ := hS2
  have hw : mL M 16 3 2 = (tyC T 2).2.1 := by rw [hmo.1 2 (by decide) (by rw [k2]; decide), rc_1 _ k2]
  rw [hw]
  generalize (tyC T 2).2.1 = w at h1 h2 hc ⊢
  rw [l_le] at h1 h2
  have h1 : 0 ≤ w.toInt := h1
  have h2 : w.toInt ≤ 512 := h2
  have tp := tn_pos h1
  obtain ⟨t, et⟩ : ∃ t, t = tyC T 1 := ⟨_, rfl⟩
  rw [← et] at hc ⊢
  have h7 : t.1 = 7 → t.2.2.1 < nm ∧ t.2.2.2 < en t.2.2.1 := by rw [et]; exact hI _
  generalize hn : w.toNatClampNeg = n at tp hc ⊢
  unfold f_Machine_mix
  by_cases e0 : w = 0
  · have n0 : n = 0 := by
      rw [e0, show (0 : Int64).toInt = 0 from rfl] at tp
      omega
    rw [if_pos e0, show (0 : Int32) = nI 0 from rfl, show (1 : Int32) = y_mix (mI M 14 0) 0 0 from rfl]
    rw [cmix_l (n := n) r6 z4 tp.symm (by omega) (fun z => by omega) n 0 fuel (by omega) (by unfold fuel; omega)]
    refine ⟨_, rfl, ?_, sgp_L (Or.inr ⟨rfl, Or.inl rfl⟩)⟩
    rw [n0]
    exact cRl_giv (W := tyW T) hR (fun _ => rfl)
  · have n1 : 1 ≤ n := by
      refine Nat.succ_le_of_lt (Nat.pos_of_ne_zero (fun z => e0 (Int64.toInt_inj.mp ?_)))
      rw [z] at tp
      exact tp.symm
    obtain ⟨l1, l2⟩ := can_in hc n1
    have hreg : mL M 16 3 1 = rc_ t := by
      rw [et]
      refine hmo.1 _ (by decide) ?_
      rw [← et]
      intro z
      rcases l1 with k | k | k | k <;> rw [k] at z <;> exact absurd z (by decide)
    have hloc := cloc (M := M) (T := T) (t := t) (L := t.2.1) (n := n) (a := rc_ t) hS.1 hmo.2.2.2.1.1 hmo.2.2.2.1.2 hm (by omega) l1 h7 l2 rfl
    obtain ⟨sz1, sz2⟩ := ar_sz hS hm hmo.2.2.2.1.2 l1 h7 l2
    have hkey := key_rd hR hm h7 hc
    have ew : w.toInt32 = nI n := Int32.toInt_inj.mp (by rw [i64_of (by omega) (by omega), nI_int (by omega), tp])
    obtain ⟨N0, eN0⟩ : ∃ N0, N0 = wI (wR M 5 0 18 (some (ya jv t))) 5 0 19 (nI (yA0 vb t t.2.1)) := ⟨_, rfl⟩
    rw [← eN0] at hloc
    have hR0 : cRl nm tb kb vb en jk jv jh T N0 := by rw [eN0]; exact cRl_loc hR
    have hs0 : sgp nm jk jv jh M N0 := by rw [eN0]; exact sgp_trans sgp_18 (sgp_5 (Or.inr rfl))
    have e18 : mR N0 5 0 18 = some (ya jv t) := by rw [eN0]; rfl
    have e19 : mI N0 5 0 19 = nI (yA0 vb t t.2.1) := by rw [eN0, pI_same]
    have e14 : ∀ j, mI N0 14 j = mI M 14 j := fun j => by rw [eN0]; exact wI_o (fun z => absurd z.1 (by decide))
    have eZ : mZ N0 = mZ M := hs0.2.1
    have g1 : 0 < w := by rw [i64_lt]; show 0 < w.toInt; omega
    have g2 : ¬ 512 < w := by rw [i64_lt]; show ¬ 512 < w.toInt; omega
    rw [if_neg e0, if_pos g1, if_neg g2, r6, bd_some, z4, gd_pos (show 1 < 16 by decide), hreg, ew, hloc, b2_some, if_neg (by decide)]
    have hl := cmix_l (M := N0) (ja := ya jv t) (A := yA0 vb t t.2.1) (n := n) (w := w) (by rw [hs0.2.2.1 5 0 6 (fun z => absurd z.2.2 (by decide))]; exact r6) (by rw [eZ]; exact z4) tp.symm (by omega) (fun _ => ⟨e18, e19, by rw [eZ]; exact sz1, by rw [eZ]; exact sz2⟩) n 0 fuel (by omega) (by unfold fuel; omega)
    have hl2 : f_Machine_mix_l53 0 w fuel N0 1 0 = _ := hl
    rw [hl2]
    refine ⟨_, rfl, ?_, sgp_trans hs0 (sgp_L (Or.inr ⟨rfl, Or.inl rfl⟩))⟩
    have em : y_mix (mI N0 14 (ya jv t)) (yA0 vb t t.2.1) n = y_mix (ty_ar T t) (ty_ad t t.2.1) n := mix_c n (fun i hi => by
      rw [e14]
      exact hkey i hi)
    rw [em]
    exact cRl_giv (W := tyW T) hR0 (fun _ => rfl)
end HCH
