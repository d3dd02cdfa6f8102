/-! PURE: the class's Machine against the typed machine: loads. -/
abbrev kn (kb : Int32 → Int32) (m : Nat) : Nat := (kb (nI m)).toNatClampNeg
def jDis (nm : Nat) (jk jv jh : Nat → Nat) : Prop := (∀ m, m < nm → 3 < jk m ∧ 3 < jv m ∧ 6 < jh m) ∧ (∀ m l, m < nm → l < nm → ¬ jk m = jv l) ∧ ∀ m l, m < nm → l < nm → ¬ m = l → ¬ jk m = jk l ∧ ¬ jv m = jv l ∧ ¬ jh m = jh l
def cSh (nm : Nat) (tb : Nat → Prop) (kb vb : Int32 → Int32) (en jk jv jh : Nat → Nat) (M : me_M) : Prop := cMs nm kb vb en jv M ∧ ∀ m, m < nm → sS M m (kn kb m) (kn vb m) (en m) (jk m) (jv m) (jh m) (tb m)
def cRl (nm : Nat) (tb : Nat → Prop) (kb vb : Int32 → Int32) (en jk jv jh : Nat → Nat) (T : tyT) (M : me_M) : Prop := cSh nm tb kb vb en jk jv jh M ∧ mo rc_ T (mL M 16 3) (mI M 14 2) (mI M 14 3) (mI M 5 0 8) (mI M 5 0 10) (mL M 16 4) (mL M 5 0 11) ∧ mst nm tb kb vb en (tyW T) (fun m => mI M 15 (jh m)) (fun m i b => mI M 14 (jk m) (i * kn kb m + b)) (fun m i b => mI M 14 (jv m) (i * kn vb m + b)) ∧ (∀ a, 16 ≤ a → a < 64 → mI M 14 1 a = uC (tyW T) a) ∧ ∀ i, i < 8 → mI M 14 1 i = yb 3298534883328 i ∧ mI M 14 1 (8 + i) = yb (3298534883328 + (nI (uZ (tyW T))).toInt64) i
/-- what a step leaves alone -/
def sgp (nm : Nat) (jk jv jh : Nat → Nat) (M N : me_M) : Prop := mN N = mN M ∧ mZ N = mZ M ∧ (∀ k j f, ¬ (k = 5 ∧ j = 0 ∧ f = 18) → mR N k j f = mR M k j f) ∧ (∀ k j, ¬ (k = 5 ∧ j = 0) → ¬ (k = 14 ∧ (j = 2 ∨ j = 3 ∨ ∃ m, m < nm ∧ (j = jk m ∨ j = jv m))) → ¬ (k = 15 ∧ ∃ m, m < nm ∧ j = jh m) → mI N k j = mI M k j) ∧ (∀ f, ¬ f = 10 → ¬ f = 19 → mI N 5 0 f = mI M 5 0 f) ∧ ∀ k j, ¬ (k = 5 ∧ j = 0) → ¬ (k = 16 ∧ (j = 3 ∨ j = 4)) → ¬ k = 14 → mL N k j = mL M k j
section HCM
variable {nm : Nat} {tb : Nat → Prop} {kb vb : Int32 → Int32} {en jk jv jh : Nat → Nat} {T U : tyT} {M N O : me_M} {c v pl : Int64} {jp i n : Nat} {t x : tyV}
theorem sgp_refl : sgp nm jk jv jh M M := ⟨rfl, rfl, fun _ _ _ _ => rfl, fun _ _ _ _ _ => rfl, fun _ _ _ => rfl, fun _ _ _ _ _ => rfl⟩
theorem sgp_trans (h : sgp nm jk jv jh M N) (g : sgp nm jk jv jh N O) : sgp nm jk jv jh M O := ⟨g.1.trans h.1, g.2.1.trans h.2.1, fun k j f z => (g.2.2.1 k j f z).trans (h.2.2.1 k j f z), fun k j a b d => (g.2.2.2.1 k j a b d).trans (h.2.2.2.1 k j a b d), fun f a b => (g.2.2.2.2.1 f a b).trans (h.2.2.2.2.1 f a b), fun k j a b d => (g.2.2.2.2.2 k j a b d).trans (h.2.2.2.2.2 k j a b d)⟩
theorem sgp_18 {o : Option Nat} : sgp nm jk jv jh M (wR M 5 0 18 o) := ⟨rfl, rfl, fun k j f z => if_neg z, fun _ _ _ _ _ => rfl, fun _ _ _ => rfl, fun _ _ _ _ _ => rfl⟩
theorem sgp_5 {f : Nat} {w : Int32} (hf : f = 10 ∨ f = 19) : sgp nm jk jv jh M (wI M 5 0 f w) := ⟨rfl, rfl, fun _ _ _ _ => rfl, fun k j a _ _ => wI_o a, fun g a b => pI_place (by omega), fun _ _ _ _ _ => rfl⟩
theorem sgp_L {k j f : Nat} {w : Int64} (hk : (k = 5 ∧ j = 0) ∨ (k = 16 ∧ (j = 3 ∨ j = 4))) : sgp nm jk jv jh M (wL M k j f w) := ⟨rfl, rfl, fun _ _ _ _ => rfl, fun _ _ _ _ _ => rfl, fun _ _ _ => rfl, fun k2 j2 a b _ => wL_o (fun z => by
  obtain ⟨z1, z2⟩ := z
  subst z1
  subst z2
  exact hk.elim a b)⟩
theorem sgp_fr {ja : Nat} (h : fr (fun k j => k = 14 ∧ j = ja) M N) (hj : ja = 2 ∨ ja = 3 ∨ ∃ m, m < nm ∧ (ja = jk m ∨ ja = jv m)) : sgp nm jk jv jh M N := by
  obtain ⟨h1, h2, h3, h4, h5⟩ := h
  refine ⟨h2, h3, fun k j f _ => by rw [h1], fun k j a b d => h4 k j (fun z => b ⟨z.1, by rw [z.2]; exact hj⟩), fun f _ _ => ?_, fun k j a b d => h5 k j (fun z => d z.1)⟩
  rw [h4 5 0 (fun z => absurd z.1 (by decide))]
theorem cSh_of0 (h2 : mZ N = mZ M) (h3 : ∀ k j f, ¬ (k = 5 ∧ j = 0 ∧ f = 18) → mR N k j f = mR M k j f) (e12 : ∀ m, mI N 12 m = mI M 12 m) (g : cSh nm tb kb vb en jk jv jh M) : cSh nm tb kb vb en jk jv jh N := by
  obtain ⟨⟨⟨r0, r1, r2, r3, r4, r5, r6, r7, r9⟩, z, ⟨s1, s2, s3⟩, hv⟩, hs⟩ := g
  have er : ∀ f, ¬ f = 18 → mR N 5 0 f = mR M 5 0 f := fun f hf => h3 5 0 f (fun z => hf z.2.2)
  have e19 : ∀ j f, mR N 19 j f = mR M 19 j f := fun j f => h3 19 j f (fun z => absurd z.1 (by decide))
  have e2 : ∀ j f, mR N 12 j f = mR M 12 j f := fun j f => h3 12 j f (fun z => absurd z.1 (by decide))
  refine ⟨⟨⟨?_, ?_, ?_, ?_, ?_, ?_, ?_, ?_, ?_⟩, by rw [h2]; exact z, ⟨s1, by rw [h2]; exact s2, fun m hm => ?_⟩, fun m hm => ?_⟩, fun m hm => ?_⟩
  · rw [er 0 (by decide)]; exact r0
  · rw [er 1 (by decide)]; exact r1
  · rw [er 2 (by decide)]; exact r2
  · rw [er 3 (by decide)]; exact r3
  · rw [er 4 (by decide)]; exact r4
  · rw [er 5 (by decide)]; exact r5
  · rw [er 6 (by decide)]; exact r6
  · rw [er 7 (by decide)]; exact r7
  · rw [er 9 (by decide)]; exact r9
  · rw [e19, e12]; exact s3 m hm
  · rw [e2, e12, h2]; exact hv m hm
  · have := hs m hm
    unfold sS at this ⊢
    rw [e2, e2, e2, e12, h2]
    exact this
theorem cSh_of (h : sgp nm jk jv jh M N) (g : cSh nm tb kb vb en jk jv jh M) : cSh nm tb kb vb en jk jv jh N := cSh_of0 h.2.1 h.2.2.1 (fun m => h.2.2.2.1 12 m (fun z => absurd z.1 (by decide)) (fun z => absurd z.1 (by decide)) (fun z => absurd z.1 (by decide))) g
theorem mst_e {H H2 : Nat → Nat → Int32} {K K2 V V2 : Nat → Nat → Nat → Int32} {W : tyU} (hm : mst nm tb kb vb en W H K V) (h1 : ∀ m, m < nm → ∀ i, i < en m → H2 m i = H m i) (h2 : ∀ m, m < nm → ∀ i, i < en m → ∀ b, b < kn kb m → K2 m i b = K m i b) (h3 : ∀ m, m < nm → ∀ i, i < en m → ∀ b, b < kn vb m → V2 m i b = V m i b) : mst nm tb kb vb en W H2 K2 V2 := fun m hl => ⟨fun i hi => by rw [h1 m hl i hi]; exact (hm m hl).1 i hi, fun i hi b hb => (h3 m hl i hi b hb).trans ((hm m hl).2.1 i hi b hb), fun ht i hi hu b hb => (h2 m hl i hi b hb).trans ((hm m hl).2.2 ht i hi hu b hb)⟩
theorem cRl_loc {o : Option Nat} {w : Int32} (h : cRl nm tb kb vb en jk jv jh T M) : cRl nm tb kb vb en jk jv jh T (wI (wR M 5 0 18 o) 5 0 19 w) := by
  obtain ⟨h1, h2, h3, h4⟩ := h
  refine ⟨cSh_of (sgp_trans sgp_18 (sgp_5 (Or.inr rfl))) h1, ?_, ?_, ?_⟩
  · rw [pL_I, pL_R, wI_o (fun z => absurd z.1 (by decide)), wI_o (fun z => absurd z.1 (by decide)), pI_place (by decide), pI_place (by decide)]
    exact h2
  · have e14 : ∀ j, mI (wI (wR M 5 0 18 o) 5 0 19 w) 14 j = mI M 14 j := fun j => wI_o (fun z => absurd z.1 (by decide))
    have e15 : ∀ j, mI (wI (wR M 5 0 18 o) 5 0 19 w) 15 j = mI M 15 j := fun j => wI_o (fun z => absurd z.1 (by decide))
    exact mst_e h3 (fun m _ i _ => by rw [e15]) (fun m _ i _ b _ => by rw [e14]) (fun m _ i _ b _ => by rw [e14])
  · have e14 : mI (wI (wR M 5 0 18 o) 5 0 19 w) 14 1 = mI M 14 1 := wI_o (fun z => absurd z.1 (by decide))
    rw [e14]
    exact h4
theorem cRl_at {w : Int32} (h : cRl nm tb kb vb en jk jv jh T M) : cRl nm tb kb vb en jk jv jh T (wI M 5 0 17 w) := by
  obtain ⟨h1, h2, h3, h4⟩ := h
  refine ⟨cSh_of0 rfl (fun _ _ _ _ => rfl) (fun m => wI_o (fun z => absurd z.1 (by decide))) h1, ?_, ?_, ?_⟩
  · rw [pL_I, wI_o (fun z => absurd z.1 (by decide)), wI_o (fun z => absurd z.1 (by decide)), pI_place (by decide), pI_place (by decide)]
    exact h2
  · have e14 : ∀ j, mI (wI M 5 0 17 w) 14 j = mI M 14 j := fun j => wI_o (fun z => absurd z.1 (by decide))
    have e15 : ∀ j, mI (wI M 5 0 17 w) 15 j = mI M 15 j := fun j => wI_o (fun z => absurd z.1 (by decide))
    exact mst_e h3 (fun m _ i _ => by rw [e15]) (fun m _ i _ b _ => by rw [e14]) (fun m _ i _ b _ => by rw [e14])
  · have e14 : mI (wI M 5 0 17 w) 14 1 = mI M 14 1 := wI_o (fun z => absurd z.1 (by decide))
    rw [e14]
    exact h4
theorem cRl_reg (h : cRl nm tb kb vb en jk jv jh T M) (hi : i < 11) (hv : ¬ t.1 = 0 → v = rc_ t) : cRl nm tb kb vb en jk jv jh (ty_set T i t) (wL M 16 3 i v) := by
  obtain ⟨h1, h2, h3, h4⟩ := h
  refine ⟨cSh_of (sgp_L (Or.inr ⟨rfl, Or.inl rfl⟩)) h1, ?_, h3, h4⟩
  rw [wL_h, wL_o (fun z => absurd z.2 (by decide)), wL_o (fun z => absurd z.1 (by decide))]
  exact mo_set h2 hi hv
theorem rc_add (hp : ty_ptr t) {w : Int64} : rc_ t + w = rc_ (t.1, t.2.1 + w, t.2.2) := by
  unfold rc_
  rcases hp with k | k | k | k
  · rw [if_pos k, if_pos k, Int64.add_assoc]
  · rw [if_neg (by rw [k]; decide), if_pos k, if_neg (by rw [k]; decide), if_pos k, Int64.add_assoc]
  · rw [if_neg (by rw [k]; decide), if_neg (by rw [k]; decide), if_pos (Or.inl k), if_neg (by rw [k]; decide), if_neg (by rw [k]; decide), if_pos (Or.inl k), Int64.add_assoc]
  · have a2 : ¬ t.1 = 2 := by rw [k]; decide
    have a3 : ¬ t.1 = 3 := by rw [k]; decide
    have a4 : ¬ (t.1 = 4 ∨ t.1 = 5) := by rw [k]; decide
    have a6 : ¬ t.1 = 6 := by rw [k]; decide
    rw [if_neg a2, if_neg a3, if_neg a4, if_neg a6, if_pos k, if_neg a2, if_neg a3, if_neg a4, if_neg a6, if_pos k, Int64.add_assoc]
theorem rc_1 : ∀ t : tyV, t.1 = 1 → rc_ t = t.2.1 := by
  intro t h
  unfold rc_
  rw [if_neg (by rw [h]; decide), if_neg (by rw [h]; decide), if_neg (by rw [h]; decide), if_neg (by rw [h]; decide), if_neg (by rw [h]; decide)]
theorem tn_pos (h : 0 ≤ pl.toInt) : (pl.toNatClampNeg : Int) = pl.toInt := by
  show ((pl.toInt.toNat : Nat) : Int) = _
  omega
theorem kn_pos {m : Nat} (hm : mpz nm kb vb en) (h : m < nm) : ((kn kb m : Nat) : Int) = (kb (nI m)).toInt ∧ ((kn vb m : Nat) : Int) = (vb (nI m)).toInt := by
  obtain ⟨⟨a, _⟩, ⟨b, _⟩, _⟩ := hm.2 m h
  constructor
  · show (((kb (nI m)).toInt.toNat : Nat) : Int) = _
    omega
  · show (((vb (nI m)).toInt.toNat : Nat) : Int) = _
    omega
/-- the area is large enough -/
theorem ar_sz (hS : cSh nm tb kb vb en jk jv jh M) (hm : mpz nm kb vb en) (hz : uZ (tyW T) ≤ 2000) (hp : ty_ptr t) (h7 : t.1 = 7 → t.2.2.1 < nm ∧ t.2.2.2 < en t.2.2.1) (hi : ty_in vb T t pl n) : yA0 vb t pl + n ≤ mZ M 14 (ya jv t) ∧ mZ M 14 (ya jv t) ≤ 100000 := by
  obtain ⟨⟨_, ⟨z1, z2, z3, z4, z5⟩, _, hv⟩, _⟩ := hS
  unfold ty_in at hi
  unfold yA0 ya ty_ad
  rcases hp with k | k | k | k
  · rw [if_pos k] at hi
    have := tn_pos hi.1
    rw [if_neg (by rw [k]; decide), if_neg (by rw [k]; decide), if_pos k, z1]
    omega
  · rw [if_neg (by rw [k]; decide), if_pos k] at hi
    have e5 : (pl + 512).toInt = pl.toInt + 512 := by rw [l_add (by omega) (by omega) (by decide) (by decide)]; rfl
    have := tn_pos (pl := pl + 512) (by omega)
    rw [if_neg (by rw [k]; decide), if_pos k, if_neg (by rw [k]; decide), if_pos k, z2]
    omega
  · rw [if_neg (by rw [k]; decide), if_neg (by rw [k]; decide), if_pos k] at hi
    have := tn_pos hi.1
    rw [if_neg (by rw [k]; decide), if_neg (by rw [k]; decide), if_neg (by rw [k]; decide), if_neg (by rw [k]; decide), if_pos k, z3]
    omega
  · rw [if_neg (by rw [k]; decide), if_neg (by rw [k]; decide), if_neg (by rw [k]; decide)] at hi
    obtain ⟨m1, m2⟩ := h7 k
    have e1 := tn_pos hi.2.1
    have e2 := (kn_pos hm m1).2
    have e64 := (hm.2 _ m1).2.2
    have v64 := (hm.2 _ m1).2.1.2
    have w3 := (hv _ m1).2.2
    rw [if_pos k, if_neg (by rw [k]; decide), if_neg (by rw [k]; decide), if_neg (by rw [k]; decide), w3]
    have hl := Nat.mul_le_mul_right (kn vb t.2.2.1) (show t.2.2.2 + 1 ≤ en t.2.2.1 from m2)
    rw [Nat.add_mul, Nat.one_mul] at hl
    have b4 := mul_64 (e := en t.2.2.1) (k := kn vb t.2.2.1) e64 (by omega)
    show t.2.2.2 * kn vb t.2.2.1 + pl.toNatClampNeg + n ≤ en t.2.2.1 * kn vb t.2.2.1 ∧ en t.2.2.1 * kn vb t.2.2.1 ≤ 100000
    omega
theorem pl_8 (h1 : 0 ≤ pl.toInt) (h2 : ¬ 16 ≤ pl) (h3 : ¬ pl = 0) (h4 : jirem pl.toInt32 8 = 0) : pl = 8 := by
  rw [l_le] at h2
  have h2 : ¬ 16 ≤ pl.toInt := h2
  obtain ⟨k, hk⟩ : ∃ k : Nat, (k : Int) = pl.toInt := ⟨pl.toInt.toNat, by omega⟩
  have e : pl = (nI k).toInt64 := Int64.toInt_inj.mp (by rw [nI_6 (by omega)]; omega)
  have tab : ∀ k, k < 16 → ¬ (nI k).toInt64 = 0 → jirem (nI k).toInt64.toInt32 8 = 0 → (nI k).toInt64 = 8 := by decide
  rw [e] at h3 h4 ⊢
  exact tab k (by omega) h3 h4
theorem kload (hR : cRl nm tb kb vb en jk jv jh T M) (hI : tyI nm en T) (hm : mpz nm kb vb en) (hp : mR M 5 0 16 = some jp) (hk : lk M jp c) (f2 : d_fam c = 2) (ht : d_ti c < 11) (hf : d_fi c < 11) (ho : ty_load c vb T = some U) : ∃ N, f_Machine_memory M 0 = some (N, 1) ∧ cRl nm tb kb vb en jk jv jh U N ∧ sgp nm jk jv jh M N ∧ tyI nm en U := by
  have hR2 := hR
  obtain ⟨hS, hmo, hst, hc1, hc2⟩ := hR2
  have hS2 := hS
  obtain ⟨⟨⟨r0, r1, r2, r3, r4, r5, r6, r7, r9⟩, ⟨z1, z2, z3, z4, z5⟩, _, hv⟩, _⟩ := hS2
  obtain ⟨q5, q6, q7, q8, q9, q10, q11, q12, q13, q14, q15⟩ := hk
  obtain ⟨t, et⟩ : ∃ t, t = tyC T (d_fi c) := ⟨_, rfl⟩
  obtain ⟨pl, epl⟩ : ∃ pl, pl = ty_pl c t := ⟨_, rfl⟩
  obtain ⟨l1, l2, x, l3, l4, l5, l6, l7, l8, l9⟩ := load_rd rc_1 hmo.2.1 hI ho et epl
  obtain ⟨kf, kf1, kf2, kf3⟩ := d_fi_n hf
  obtain ⟨kt, kt1, kt2, kt3⟩ := d_ti_n ht
  have nnb := nn_by c
  have hby : d_by c = nI (d_nn c) := Int32.toInt_inj.mp (by rw [nI_int (by omega)]; exact nnb.1)
  have hreg : mL M 16 3 kf = rc_ t := by
    rw [et, ← kf3]
    refine hmo.1 _ hf ?_
    rw [← et]
    intro z
    rcases l1 with k | k | k | k <;> rw [k] at z <;> exact absurd z (by decide)
  have h7 : t.1 = 7 → t.2.2.1 < nm ∧ t.2.2.2 < en t.2.2.1 := by rw [et]; exact hI _
  have hloc := cloc (M := M) (T := T) (t := t) (L := pl) (n := d_nn c) (a := rc_ t + (d_off c).toInt64) hS.1 hmo.2.2.2.1.1 hmo.2.2.2.1.2 hm (by omega) l1 h7 l2 (by rw [rc_add l1, epl])
  obtain ⟨sz1, sz2⟩ := ar_sz hS hm hmo.2.2.2.1.2 l1 h7 l2
  obtain ⟨N0, eN0⟩ : ∃ N0, N0 = wI (wR M 5 0 18 (some (ya jv t))) 5 0 19 (nI (yA0 vb t pl)) := ⟨_, rfl⟩
  rw [← eN0] at hloc
  have hR0 : cRl nm tb kb vb en jk jv jh T N0 := by rw [eN0]; exact cRl_loc hR
  have hs0 : sgp nm jk jv jh M N0 := by rw [eN0]; exact sgp_trans sgp_18 (sgp_5 (Or.inr rfl))
  have e18 : mR N0 5 0 18 = some (ya jv t) := by rw [eN0]; rfl
  have e19 : mI N0 5 0 19 = nI (yA0 vb t pl) := by rw [eN0, pI_same]
  have eR : ∀ f, ¬ f = 18 → mR N0 5 0 f = mR M 5 0 f := fun f hf => hs0.2.2.1 5 0 f (fun z => hf z.2.2)
  have e2 : mI N0 2 jp = mI M 2 jp := hs0.2.2.2.1 2 jp (fun z => absurd z.1 (by decide)) (fun z => absurd z.1 (by decide)) (fun z => absurd z.1 (by decide))
  have eZ : mZ N0 = mZ M := hs0.2.1
  have e14 : ∀ j, mI N0 14 j = mI M 14 j := fun j => by rw [eN0]; exact wI_o (fun z => absurd z.1 (by decide))
  have hrd := crd (M := N0) (n := d_nn c) e18 e19 (by rw [eZ]; exact sz2) (by rw [eZ]; exact sz1) nnb.2.2
  rw [e14] at hrd
  have hval : yn (mI M 14 (ya jv t)) (yA0 vb t pl) (d_nn c) 0 = rc_ x := by
    unfold ty_in at l2
    rcases l1 with k | k | k | k
    · rw [if_pos k] at l2
      have tp := tn_pos l2.1
      have ej : ya jv t = 1 := if_pos k
      have ea : yA0 vb t pl = pl.toNatClampNeg := by
        unfold yA0 ty_ad
        rw [if_neg (by rw [k]; decide), if_neg (by rw [k]; decide)]
      rw [ej, ea]
      rcases (l6 k).2 with ⟨g, e⟩ | ⟨g, n8, p0, e⟩ | ⟨g, n8, p0, e⟩
      · rw [e, rc_1 _ rfl]
        rw [l_le] at g
        have g : 16 ≤ pl.toInt := g
        exact yn_c _ _ (fun i hi => hc1 _ (by omega) (by omega))
      · rw [e, p0, n8]
        rw [show rc_ (4, 0, 0, 0) = 3298534883328 by decide]
        exact yn_id (fun i hi => by rw [show (0 : Int64).toNatClampNeg + i = i from Nat.zero_add i]; exact (hc2 i hi).1)
      · have b8 : d_by c = 8 := by rw [hby, n8]; rfl
        have hj := (l6 k).1.1
        rw [b8] at hj
        have p8 := pl_8 l2.1 g p0 hj
        rw [e, p8, n8]
        have er : rc_ (5, (nI (uZ (tyW T))).toInt64, 0, 0) = 3298534883328 + (nI (uZ (tyW T))).toInt64 := rfl
        rw [er]
        exact yn_id (fun i hi => (hc2 i hi).2)
    · have ej : ya jv t = 2 := by unfold ya; rw [if_neg (by rw [k]; decide), if_pos k]
      have ea : yA0 vb t pl = (pl + 512).toNatClampNeg := by
        unfold yA0 ty_ad
        rw [if_neg (by rw [k]; decide), if_pos k]
      rw [ej, ea]
      exact (l7 k).2.1.symm
    · rw [if_neg (by rw [k]; decide), if_neg (by rw [k]; decide), if_pos k] at l2
      have tp := tn_pos l2.1
      have ej : ya jv t = 3 := by unfold ya; rw [if_neg (by rw [k]; decide), if_neg (by rw [k]; decide), if_pos k]
      have ea : yA0 vb t pl = pl.toNatClampNeg := by
        unfold yA0 ty_ad
        rw [if_neg (by rw [k]; decide), if_neg (by rw [k]; decide)]
      have z2k := hmo.2.2.2.1.2
      rw [ej, ea, l8 k, rc_1 _ rfl]
      exact yn_c _ _ (fun i hi => hmo.2.2.1 _ (by omega))
    · rw [if_neg (by rw [k]; decide), if_neg (by rw [k]; decide), if_neg (by rw [k]; decide)] at l2
      obtain ⟨m1, m2⟩ := h7 k
      have tp := tn_pos l2.2.1
      have kp := (kn_pos hm m1).2
      have ej : ya jv t = jv t.2.2.1 := by unfold ya; rw [if_neg (by rw [k]; decide), if_neg (by rw [k]; decide), if_neg (by rw [k]; decide)]
      have ea : yA0 vb t pl = t.2.2.2 * kn vb t.2.2.1 + pl.toNatClampNeg := by
        unfold yA0
        rw [if_pos k]
      rw [ej, ea, l9 k, rc_1 _ rfl]
      exact yn_c _ _ (fun i hi => by
        rw [Nat.add_assoc]
        exact (hst _ m1).2.1 _ m2 _ (by show _ < kn vb t.2.2.1; omega))
  rw [hval] at hrd
  refine ⟨wL N0 16 3 (d_ti c) (rc_ x), ?_, ?_, sgp_trans hs0 (sgp_L (Or.inr ⟨rfl, Or.inl rfl⟩)), ?_⟩
  · unfold f_Machine_memory
    rw [hp, bd_some, q10, f2, if_pos rfl]
    unfold f_Machine_memory_b16
    rw [r6, bd_some, if_neg (by decide), hp, bd_some, q7, kf2]
    unfold f_Machine_memory_b42
    rw [nI_tn (by omega), z4, gd_pos (show ¬ (nI kf < 0 ∨ 16 ≤ kf) from fun z => z.elim (nI_ps (by omega)) (fun q => by omega)), hp, bd_some, hreg, q8, st_eq, q11, hby, hloc, b2_some, if_neg (by decide), if_neg (by decide), eR 6 (by decide), r6, bd_some, eR 16 (by decide), hp, bd_some, e2, q11, hby, hrd, b2_some, q6, kt2, nI_tn (by omega), z4, gd_pos (show ¬ (nI kt < 0 ∨ 16 ≤ kt) from fun z => z.elim (nI_ps (by omega)) (fun q => by omega)), st_eq, kt3]
  · rw [l3]
    exact cRl_reg hR0 ht (fun _ => rfl)
  · rw [l3]
    exact tyI_set hI l5
end HCM
