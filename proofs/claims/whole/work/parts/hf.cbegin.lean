/-! PURE: the class begins a run. -/
def Tb (W : tyU) : tyT := (fun _ => (0, 0, 0, 0), fun _ => 0, fun _ => 0, W)
def T0 (W : tyU) : tyT := (fun i => if i = 1 then (2, 0, 0, 0) else if i = 10 then (3, 0, 0, 0) else (0, 0, 0, 0), fun _ => 0, fun _ => 0, W)
/-- the class's memory between runs -/
def cWr (nm : Nat) (tb : Nat → Prop) (kb vb : Int32 → Int32) (en jk jv jh : Nat → Nat) (W : tyU) (M : me_M) : Prop := cSh nm tb kb vb en jk jv jh M ∧ mo rc_ (Tb W) (mL M 16 3) (mI M 14 2) (mI M 14 3) (mI M 5 0 8) (mI M 5 0 10) (mL M 16 4) (mL M 5 0 11) ∧ mst nm tb kb vb en W (fun m => mI M 15 (jh m)) (fun m i b => mI M 14 (jk m) (i * kn kb m + b)) (fun m i b => mI M 14 (jv m) (i * kn vb m + b)) ∧ ∀ a, 16 ≤ a → a < 64 → mI M 14 1 a = uC W a
/-- what the beginning of a run leaves alone -/
def bgp (M N : me_M) : Prop := mN N = mN M ∧ mZ N = mZ M ∧ (∀ k j f, ¬ (k = 5 ∧ j = 0 ∧ (f = 16 ∨ f = 18)) → mR N k j f = mR M k j f) ∧ (∀ k j, ¬ (k = 5 ∧ j = 0) → ¬ (k = 14 ∧ (j = 1 ∨ j = 2)) → mI N k j = mI M k j) ∧ ∀ k j, ¬ (k = 16 ∧ j = 3) → ¬ k = 14 → mL N k j = mL M k j
section HBG
variable {nm : Nat} {tb : Nat → Prop} {kb vb : Int32 → Int32} {en jk jv jh : Nat → Nat} {T U : tyT} {W : tyU} {M N O : me_M} {c v w : Int64} {jp i n m s S u A : Nat} {q : Nat → Int64}
theorem mo_Tb {rc : tyV → Int64} {reg reg2 : Nat → Int64} {stk stk2 pkt : Nat → Int32} {zs nt : Int32} {tel : Nat → Int64} {clk : Int64} (h : mo rc T reg stk pkt zs nt tel clk) : mo rc (Tb (tyW T)) reg2 stk2 pkt zs nt tel clk := ⟨fun i _ z => absurd (show (0 : Int32) = 0 from rfl) z, fun a _ => ⟨fun z => absurd (show (0 : Int32) = 0 from rfl) z, fun _ z => by
  have e : ib 0 (a % 8) = false := by
    have t : ∀ b, b < 8 → ib 0 b = false := by decide
    exact t _ (by omega)
  exact absurd (e.symm.trans z) (by decide)⟩, h.2.2⟩
theorem cWr_of (h : cRl nm tb kb vb en jk jv jh T M) : cWr nm tb kb vb en jk jv jh (tyW T) M := ⟨h.1, mo_Tb h.2.1, h.2.2.1, h.2.2.2.1⟩
theorem bgp_refl : bgp M M := ⟨rfl, rfl, fun _ _ _ _ => rfl, fun _ _ _ _ => rfl, fun _ _ _ _ => rfl⟩
theorem bgp_trans (h : bgp M N) (g : bgp N O) : bgp M O := ⟨g.1.trans h.1, g.2.1.trans h.2.1, fun k j f z => (g.2.2.1 k j f z).trans (h.2.2.1 k j f z), fun k j a b => (g.2.2.2.1 k j a b).trans (h.2.2.2.1 k j a b), fun k j a b => (g.2.2.2.2 k j a b).trans (h.2.2.2.2 k j a b)⟩
theorem bgp_5 {f : Nat} {x : Int32} : bgp M (wI M 5 0 f x) := ⟨rfl, rfl, fun _ _ _ _ => rfl, fun k j a _ => wI_o a, fun _ _ _ _ => rfl⟩
theorem bgp_R {f : Nat} {o : Option Nat} (hf : f = 16 ∨ f = 18) : bgp M (wR M 5 0 f o) := ⟨rfl, rfl, fun k j g z => if_neg (fun q => z ⟨q.1, q.2.1, by rw [q.2.2]; exact hf⟩), fun _ _ _ _ => rfl, fun _ _ _ _ => rfl⟩
theorem bgp_L {f : Nat} {x : Int64} : bgp M (wL M 16 3 f x) := ⟨rfl, rfl, fun _ _ _ _ => rfl, fun _ _ _ _ => rfl, fun k j a _ => wL_o a⟩
theorem fill1_l (hZ : mZ M 16 3 = 16) : ∀ (k i fu : Nat) (N : me_M), i + k = 16 → k < fu → fr (fun k j => k = 16 ∧ j = 3) M N → mI N = mI M → ∃ N1, f_Arrays_fill1_l6 3 0 fu N (nI i) 16 = some N1 ∧ fr (fun k j => k = 16 ∧ j = 3) M N1 ∧ mI N1 = mI M := by
  intro k
  induction k with
  | zero =>
    intro i fu N e hf g gi
    obtain ⟨fu, rfl⟩ : ∃ f, fu = f + 1 := ⟨fu - 1, by omega⟩
    rw [f_Arrays_fill1_l6, if_pos (show (16 : Int32) ≤ nI i from (nI_lei (a := 16) (by decide) (by omega)).mpr (by omega))]
    exact ⟨N, rfl, g, gi⟩
  | succ k ih =>
    intro i fu N e hf g gi
    obtain ⟨fu, rfl⟩ : ∃ f, fu = f + 1 := ⟨fu - 1, by omega⟩
    rw [f_Arrays_fill1_l6, if_neg (show ¬ (16 : Int32) ≤ nI i from fun z => by have := (nI_lei (a := 16) (by decide) (by omega)).mp z; omega), nI_tn (by omega), g.2.2.1, hZ, gd_pos (show ¬ (nI i < 0 ∨ 16 ≤ i) from fun z => z.elim (nI_ps (by omega)) (fun q => by omega)), st_eq, nI_s]
    exact ih (i + 1) fu _ (by omega) (by omega) (fr_trans g ⟨rfl, rfl, rfl, fun _ _ _ => rfl, fun k j z => wL_o z⟩) gi
theorem fill0_l (hZ : mZ M 14 2 = 512) : ∀ (k i fu : Nat) (N : me_M), i + k = 512 → k < fu → fr (fun k j => k = 14 ∧ j = 2) M N → ∃ N1, f_Arrays_fill0_l5 2 0 fu N (nI i) 512 = some N1 ∧ fr (fun k j => k = 14 ∧ j = 2) M N1 := by
  intro k
  induction k with
  | zero =>
    intro i fu N e hf g
    obtain ⟨fu, rfl⟩ : ∃ f, fu = f + 1 := ⟨fu - 1, by omega⟩
    rw [f_Arrays_fill0_l5, if_pos (show (512 : Int32) ≤ nI i from (nI_lei (a := 512) (by decide) (by omega)).mpr (by omega))]
    exact ⟨N, rfl, g⟩
  | succ k ih =>
    intro i fu N e hf g
    obtain ⟨fu, rfl⟩ : ∃ f, fu = f + 1 := ⟨fu - 1, by omega⟩
    rw [f_Arrays_fill0_l5, if_neg (show ¬ (512 : Int32) ≤ nI i from fun z => by have := (nI_lei (a := 512) (by decide) (by omega)).mp z; omega), nI_tn (by omega), g.2.2.1, hZ, gd_pos (show ¬ (nI i < 0 ∨ 512 ≤ i) from fun z => z.elim (nI_ps (by omega)) (fun q => by omega)), st_eq, nI_s]
    exact ih (i + 1) fu _ (by omega) (by omega) (fr_trans g (fr_I ⟨rfl, rfl⟩))
theorem fill1 (hZ : mZ M 16 3 = 16) : ∃ N, f_Arrays_fill1 M 3 0 = some N ∧ fr (fun k j => k = 16 ∧ j = 3) M N ∧ mI N = mI M := by
  unfold f_Arrays_fill1
  rw [hZ, st_eq]
  exact fill1_l hZ 16 0 fuel M (by decide) (by unfold fuel; decide) fr_refl rfl
theorem fill0 (hZ : mZ M 14 2 = 512) : ∃ N, f_Arrays_fill0 M 2 0 = some N ∧ fr (fun k j => k = 14 ∧ j = 2) M N := by
  unfold f_Arrays_fill0
  rw [hZ, st_eq]
  exact fill0_l hZ 512 0 fuel M (by decide) (by unfold fuel; decide) fr_refl
/-- eight bytes of the context -/
theorem kctxw (h4 : mR M 5 0 4 = some 1) (hZ : mZ M 14 1 = 64) (hA : A + 8 ≤ 64) : ∃ N, f_Machine_writeContext M 0 (nI A) v = some N ∧ bgp M N ∧ (∀ k j, ¬ k = 14 → mL N k j = mL M k j) ∧ (∀ k j, ¬ (k = 5 ∧ j = 0) → ¬ (k = 14 ∧ j = 1) → mI N k j = mI M k j) ∧ (∀ f, ¬ f = 19 → mI N 5 0 f = mI M 5 0 f) ∧ (∀ f, ¬ f = 18 → mR N 5 0 f = mR M 5 0 f) ∧ mI N 14 1 = wrb (mI M 14 1) A 8 v := by
  unfold f_Machine_writeContext
  rw [h4, bd_some, st_eq, st_eq]
  obtain ⟨X, eX⟩ : ∃ X, X = wI (wR M 5 0 18 (some 1)) 5 0 19 (nI A) := ⟨_, rfl⟩
  have e18 : mR X 5 0 18 = some 1 := by rw [eX]; rfl
  have e19 : mI X 5 0 19 = nI A := by rw [eX, pI_same]
  have eZ : mZ X 14 1 = 64 := by rw [eX]; exact hZ
  obtain ⟨N, n1, n2, n3⟩ := cwr (M := X) (n := 8) (v := v) e18 e19 (by rw [eZ]; decide) (by rw [eZ]; exact hA) (by decide)
  have n1 : f_Machine_writeBytes X 0 8 v = some N := n1
  rw [← eX, n1, bd_some]
  have b1 : bgp M X := by rw [eX]; exact bgp_trans (bgp_R (Or.inr rfl)) bgp_5
  have b2 : bgp X N := ⟨n2.2.1, n2.2.2.1, fun k j f _ => by rw [n2.1], fun k j _ b => n2.2.2.2.1 k j (fun z => b ⟨z.1, Or.inl z.2⟩), fun k j _ b => n2.2.2.2.2 k j (fun z => b z.1)⟩
  refine ⟨N, rfl, bgp_trans b1 b2, fun k j hk => ?_, fun k j a b => ?_, fun f hf => ?_, fun f hf => ?_, funext (fun x => ?_)⟩
  · rw [n2.2.2.2.2 k j (fun z => hk z.1), eX]; rfl
  · rw [n2.2.2.2.1 k j b, eX, wI_o a]; rfl
  · rw [n2.2.2.2.1 5 0 (fun z => absurd z.1 (by decide)), eX, pI_place hf]; rfl
  · rw [n2.1, eX]; exact if_neg (fun z => hf z.2.2)
  · rw [n3 x, eX, wI_o (fun z => absurd z.1 (by decide))]; rfl
theorem kbegin {mode : Int32} (hW : cWr nm tb kb vb en jk jv jh W M) (hm : jp = if mode = 2 then 1 else 0) (hss : ss M) (hS : S < mN M 9) (hu : us M S u) (hk : mR M 6 0 0 = some 0 ∧ mR M 6 0 1 = some 0 ∧ mR M 6 0 2 = some S ∧ mR M 6 0 3 = some S) (hd : jDis nm jk jv jh) : ∃ N, f_Machine_begin M 0 mode = some N ∧ cRl nm tb kb vb en jk jv jh (T0 W) N ∧ kSt S 11 (tyK (T0 W)) (tyM (T0 W)) N ∧ grp nm jk jv jh S M N ∧ mR N 5 0 16 = some jp ∧ mI N 5 0 17 = 0 ∧ mI N 5 0 14 = 0 ∧ mI N 5 0 13 = mode ∧ mI N 5 0 12 = mI M 5 0 12 + 1 ∧ mI N 5 0 15 = mI M 5 0 8 := by
  obtain ⟨hsh, hmo, hst, hcx⟩ := hW
  have hsh2 := hsh
  obtain ⟨⟨⟨r0, r1, r2, r3, r4, r5, r6, r7, r9⟩, ⟨z1, z2, z3, z4, z5⟩, _, hv⟩, _⟩ := hsh2
  have jlt : jp ≤ 1 := by rw [hm]; split <;> omega
  have hb22 : f_Machine_begin M 0 mode = f_Machine_begin_b22 0 (wI M 5 0 13 mode) jp 0 := by
    unfold f_Machine_begin
    rw [st_eq]
    by_cases e : mode = 2
    · rw [if_pos e] at hm
      rw [if_pos e, hm]
      show bd (mR M 5 0 1) _ = _
      rw [r1, bd_some]
    · rw [if_neg e] at hm
      rw [if_neg e, hm]
      show bd (mR M 5 0 0) _ = _
      rw [r0, bd_some]
  rw [hb22]
  unfold f_Machine_begin_b22
  rw [st_eq, st_eq, st_eq, st_eq, st_eq]
  obtain ⟨E0, e0⟩ : ∃ E, E = wR (wI M 5 0 13 mode) 5 0 16 (some jp) := ⟨_, rfl⟩
  rw [← e0]
  obtain ⟨E, eE⟩ : ∃ E, E = wI (wI (wI (wI E0 5 0 12 (mI E0 5 0 12 + 1)) 5 0 14 0) 5 0 17 0) 5 0 15 (mI (wI (wI (wI E0 5 0 12 (mI E0 5 0 12 + 1)) 5 0 14 0) 5 0 17 0) 5 0 8) := ⟨_, rfl⟩
  rw [← eE]
  have b0 : bgp M E := by
    rw [eE, e0]
    exact bgp_trans bgp_5 (bgp_trans (bgp_R (Or.inl rfl)) (bgp_trans bgp_5 (bgp_trans bgp_5 (bgp_trans bgp_5 bgp_5))))
  have E0I : ∀ f, ¬ f = 13 → mI E0 5 0 f = mI M 5 0 f := fun f hf => by rw [e0]; exact pI_place hf
  have E16 : mR E 5 0 16 = some jp := by rw [eE, e0]; rfl
  have E17 : mI E 5 0 17 = 0 := by rw [eE, pI_place (by decide), pI_same]
  have E14 : mI E 5 0 14 = 0 := by rw [eE, pI_place (by decide), pI_place (by decide), pI_same]
  have E13 : mI E 5 0 13 = mode := by rw [eE, pI_place (by decide), pI_place (by decide), pI_place (by decide), pI_place (by decide), e0]; show mI (wI M 5 0 13 mode) 5 0 13 = mode; exact pI_same
  have E12 : mI E 5 0 12 = mI M 5 0 12 + 1 := by rw [eE, pI_place (by decide), pI_place (by decide), pI_place (by decide), pI_same, E0I 12 (by decide)]
  have E8 : mI E 5 0 8 = mI M 5 0 8 := by rw [eE, pI_place (by decide), pI_place (by decide), pI_place (by decide), pI_place (by decide), E0I 8 (by decide)]
  have E10 : mI E 5 0 10 = mI M 5 0 10 := by rw [eE, pI_place (by decide), pI_place (by decide), pI_place (by decide), pI_place (by decide), E0I 10 (by decide)]
  have E15 : mI E 5 0 15 = mI M 5 0 8 := by rw [eE, pI_same, pI_place (by decide), pI_place (by decide), pI_place (by decide), E0I 8 (by decide)]
  have bR : ∀ {X : me_M}, bgp M X → ∀ f, ¬ f = 16 → ¬ f = 18 → mR X 5 0 f = mR M 5 0 f := fun {X} h f a b => h.2.2.1 5 0 f (fun z => z.2.2.elim a b)
  -- the registers
  obtain ⟨A1, a1, a2, a3⟩ := fill1 (M := E) (by rw [b0.2.1]; exact z4)
  have bA : bgp M A1 := bgp_trans b0 ⟨a2.2.1, a2.2.2.1, fun k j f _ => by rw [a2.1], fun k j _ _ => by rw [a3], fun k j b _ => a2.2.2.2.2 k j b⟩
  have A5 : mI A1 5 0 = mI E 5 0 := by rw [a3]
  -- the stack
  obtain ⟨B1, c1, c2⟩ := fill0 (M := A1) (by rw [bA.2.1]; exact z2)
  have bB : bgp M B1 := bgp_trans bA ⟨c2.2.1, c2.2.2.1, fun k j f _ => by rw [c2.1], fun k j _ b => c2.2.2.2.1 k j (fun z => b ⟨z.1, Or.inr z.2⟩), fun k j _ b => c2.2.2.2.2 k j (fun z => b z.1)⟩
  have B5 : mI B1 5 0 = mI E 5 0 := by rw [c2.2.2.2.1 5 0 (fun z => absurd z.1 (by decide)), A5]
  -- the context
  obtain ⟨C1, d1, d2, d3, d4, d5, d6, d7⟩ := kctxw (M := B1) (A := 0) (v := 3298534883328) (by rw [bR bB 4 (by decide) (by decide)]; exact r4) (by rw [bB.2.1]; exact z1) (by decide)
  have bC := bgp_trans bB d2
  obtain ⟨D1, f1, f2, f3, f4, f5, f6, f7⟩ := kctxw (M := C1) (A := 8) (v := 3298534883328 + (nI (uZ W)).toInt64) (by rw [bR bC 4 (by decide) (by decide)]; exact r4) (by rw [bC.2.1]; exact z1) (by decide)
  have bD := bgp_trans bC f2
  have D5 : ∀ f, ¬ f = 19 → mI D1 5 0 f = mI E 5 0 f := fun f hf => by rw [f5 f hf, d5 f hf, B5]
  have d1 : f_Machine_writeContext B1 0 0 3298534883328 = some C1 := d1
  have f1 : f_Machine_writeContext C1 0 8 (3298534883328 + (nI (uZ W)).toInt64) = some D1 := f1
  have C8 : mI C1 5 0 8 = nI (uZ W) := by rw [d5 8 (by decide), B5, E8]; exact hmo.2.2.2.1.1
  have b3 : f_G_baseOf 3 = some 3298534883328 := by unfold f_G_baseOf; exact congrArg some (by decide)
  have b1' : f_G_baseOf 1 = some 1099511627776 := by unfold f_G_baseOf; exact congrArg some (by decide)
  have b2' : f_G_baseOf 2 = some 2199023255552 := by unfold f_G_baseOf; exact congrArg some (by decide)
  -- registers 1 and 10
  obtain ⟨F1, eF⟩ : ∃ F, F = wL (wL D1 16 3 1 1099511627776) 16 3 10 2199023255552 := ⟨_, rfl⟩
  have bF : bgp M F1 := by rw [eF]; exact bgp_trans bD (bgp_trans bgp_L bgp_L)
  have FI : mI F1 = mI D1 := by rw [eF]; rfl
  have hssF : ss F1 := by
    obtain ⟨x1, x2, x3⟩ := hss
    refine ⟨fun s hs => ?_, fun s i hs hi => ?_, fun c hc => ?_⟩
    · rw [bF.2.2.1 9 s 0 (fun z => absurd z.1 (by decide)), bF.2.1]
      exact x1 s (by rw [bF.1] at hs; exact hs)
    · rw [bF.2.2.1 18 s i (fun z => absurd z.1 (by decide))]
      exact x2 s i (by rw [bF.1] at hs; exact hs) hi
    · rw [bF.2.2.1 10 c 6 (fun z => absurd z.1 (by decide))]
      exact x3 c (by rw [bF.1] at hc; exact hc)
  have huF : us F1 S u := by
    obtain ⟨x1, x2, x3, x4⟩ := hu
    refine ⟨x1, x2, by rw [bF.2.2.2.1 9 S (fun z => absurd z.1 (by decide)) (fun z => absurd z.1 (by decide))]; exact x3, fun i hi hj => ?_⟩
    have := x4 i hi hj
    unfold sv cv pg at this ⊢
    rw [bF.2.2.2.1 10 _ (fun z => absurd z.1 (by decide)) (fun z => absurd z.1 (by decide)), bF.2.2.2.2 11 _ (fun z => absurd z.1 (by decide)) (by decide)]
    exact this
  obtain ⟨G1, g1, g2, g3, g4, g5, g6, g7⟩ := st_first hssF (by rw [bF.1]; exact hS) huF
  have GI : ∀ k j, ¬ k = 9 → ¬ k = 10 → ¬ k = 11 → mI G1 k j = mI F1 k j := fun k j a b d => g7.2.2.2.1 k j (sP_nk a b d)
  have GL : ∀ k j, ¬ k = 9 → ¬ k = 10 → ¬ k = 11 → mL G1 k j = mL F1 k j := fun k j a b d => g7.2.2.2.2 k j (sP_nk a b d)
  have G5 : ∀ f, ¬ f = 19 → mI G1 5 0 f = mI E 5 0 f := fun f hf => by rw [GI 5 0 (by decide) (by decide) (by decide), FI, D5 f hf]
  have gg : grp nm jk jv jh S M G1 := by
    refine grp_trans ⟨bF.1, bF.2.1, bF.2.2.1, fun k j a _ b _ _ => bF.2.2.2.1 k j a (fun z => b ⟨z.1, z.2.elim Or.inl (fun q => Or.inr (Or.inl q))⟩), fun j f _ => ?_, fun k j _ a b _ _ => bF.2.2.2.2 k j (fun z => a ⟨z.1, Or.inl z.2⟩) b, ?_⟩ (grp_sP g7)
    · rw [bF.2.2.2.1 2 j (fun z => absurd z.1 (by decide)) (fun z => absurd z.1 (by decide))]
    · rw [FI, D5 8 (by decide), E8]
  have G14 : ∀ j, ¬ j = 1 → ¬ j = 2 → mI G1 14 j = mI M 14 j := fun j a b => by rw [GI 14 j (by decide) (by decide) (by decide), bF.2.2.2.1 14 j (fun z => absurd z.1 (by decide)) (fun z => z.2.elim a b)]
  have G15 : ∀ j, mI G1 15 j = mI M 15 j := fun j => by rw [GI 15 j (by decide) (by decide) (by decide), bF.2.2.2.1 15 j (fun z => absurd z.1 (by decide)) (fun z => absurd z.1 (by decide))]
  have G12 : ∀ j, mI G1 12 j = mI M 12 j := fun j => by rw [GI 12 j (by decide) (by decide) (by decide), bF.2.2.2.1 12 j (fun z => absurd z.1 (by decide)) (fun z => absurd z.1 (by decide))]
  have Gc : mI G1 14 1 = wrb (wrb (mI B1 14 1) 0 8 3298534883328) 8 8 (3298534883328 + (nI (uZ W)).toInt64) := by rw [GI 14 1 (by decide) (by decide) (by decide), FI, f7, d7]
  have Bc : mI B1 14 1 = mI M 14 1 := by
    rw [c2.2.2.2.1 14 1 (fun z => absurd z.2 (by decide)), a2.2.2.2.1 14 1 (fun z => absurd z.1 (by decide)), eE, wI_o (fun z => absurd z.1 (by decide)), wI_o (fun z => absurd z.1 (by decide)), wI_o (fun z => absurd z.1 (by decide)), wI_o (fun z => absurd z.1 (by decide)), e0]
    show mI (wI M 5 0 13 mode) 14 1 = _
    exact wI_o (fun z => absurd z.1 (by decide))
  have L5 : mL G1 5 0 = mL M 5 0 := by rw [GL 5 0 (by decide) (by decide) (by decide), bF.2.2.2.2 5 0 (fun z => absurd z.1 (by decide)) (by decide)]
  have L4 : mL G1 16 4 = mL M 16 4 := by rw [GL 16 4 (by decide) (by decide) (by decide), bF.2.2.2.2 16 4 (fun z => absurd z.2 (by decide)) (by decide)]
  have L3 : mL G1 16 3 1 = 1099511627776 ∧ mL G1 16 3 10 = 2199023255552 := by
    rw [GL 16 3 (by decide) (by decide) (by decide), eF]
    exact ⟨by rw [pL_place (by decide), pL_same], pL_same⟩
  have cSg : cSh nm tb kb vb en jk jv jh G1 := by
    obtain ⟨⟨_, z, ⟨s1, s2, s3⟩, hv⟩, hs⟩ := hsh
    have er : ∀ f, ¬ f = 16 → ¬ f = 18 → mR G1 5 0 f = mR M 5 0 f := fun f a b => gg.2.2.1 5 0 f (fun z => z.2.2.elim a b)
    have e19 : ∀ j f, mR G1 19 j f = mR M 19 j f := fun j f => gg.2.2.1 19 j f (fun z => absurd z.1 (by decide))
    have e2 : ∀ j f, mR G1 12 j f = mR M 12 j f := fun j f => gg.2.2.1 12 j f (fun z => absurd z.1 (by decide))
    refine ⟨⟨⟨?_, ?_, ?_, ?_, ?_, ?_, ?_, ?_, ?_⟩, by rw [gg.2.1]; exact z, ⟨s1, by rw [gg.2.1]; exact s2, fun m hm => ?_⟩, fun m hm => ?_⟩, fun m hm => ?_⟩
    · rw [er 0 (by decide) (by decide)]; exact r0
    · rw [er 1 (by decide) (by decide)]; exact r1
    · rw [er 2 (by decide) (by decide)]; exact r2
    · rw [er 3 (by decide) (by decide)]; exact r3
    · rw [er 4 (by decide) (by decide)]; exact r4
    · rw [er 5 (by decide) (by decide)]; exact r5
    · rw [er 6 (by decide) (by decide)]; exact r6
    · rw [er 7 (by decide) (by decide)]; exact r7
    · rw [er 9 (by decide) (by decide)]; exact r9
    · rw [e19, G12]; exact s3 m hm
    · rw [e2, G12, gg.2.1]; exact hv m hm
    · have := hs m hm
      unfold sS at this ⊢
      rw [e2, e2, e2, G12, gg.2.1]
      exact this
  refine ⟨G1, ?_, ⟨cSg, ⟨fun i hi hk => ?_, fun a ha => ?_, ?_, ?_, ?_, ?_⟩, ?_, fun a h1 h2 => ?_, fun i hi => ⟨?_, ?_⟩⟩, ⟨?_, ?_, g3, fun i hi => ?_, fun i hi1 hi => ?_⟩, gg, ?_, ?_, ?_, ?_, ?_, ?_⟩
  · have zz : mZ (wI M 5 0 13 mode) 16 3 = 16 := z4
    have h25 : mR (wL D1 16 3 1 1099511627776) 5 0 6 = some 3 := by rw [pR_L, bR bD 6 (by decide) (by decide)]; exact r6
    rw [bR b0 6 (by decide) (by decide), r6, bd_some, a1, bd_some, bR bA 5 (by decide) (by decide), r5, bd_some, c1, bd_some, b3, bd_some, d1, bd_some, bd_some, C8, f1, bd_some, bR bD 6 (by decide) (by decide), r6, bd_some, b1', bd_some, zz, gd_pos (show 1 < 16 by decide), st_eq, h25, bd_some, b2', bd_some, zz, gd_pos (show 10 < 16 by decide), st_eq, ← eF, bR bF 3 (by decide) (by decide), r3, bd_some]
    unfold f_Checks_begin
    rw [bF.2.2.1 6 0 2 (fun z => absurd z.1 (by decide)), hk.2.2.1, bd_some, g1, bd_some, bd_some]
  · by_cases e1 : i = 1
    · rw [e1, L3.1]; show _ = rc_ (2, 0, 0, 0); decide
    · by_cases e2 : i = 10
      · rw [e2, L3.2]; show _ = rc_ (3, 0, 0, 0); decide
      · have : tyC (T0 W) i = (0, 0, 0, 0) := by
          show (if i = 1 then ((2, 0, 0, 0) : tyV) else if i = 10 then (3, 0, 0, 0) else (0, 0, 0, 0)) = _
          rw [if_neg e1, if_neg e2]
        rw [this] at hk
        exact absurd rfl hk
  · have : tyC (T0 W) (74 - a / 8) = (0, 0, 0, 0) := by
      show (if 74 - a / 8 = 1 then ((2, 0, 0, 0) : tyV) else if 74 - a / 8 = 10 then (3, 0, 0, 0) else (0, 0, 0, 0)) = _
      rw [if_neg (by omega), if_neg (by omega)]
    refine ⟨fun z => ?_, fun _ z => ?_⟩
    · rw [this] at z
      exact absurd rfl z
    · have e : ib 0 (a % 8) = false := by
        have t : ∀ b, b < 8 → ib 0 b = false := by decide
        exact t _ (by omega)
      exact absurd (e.symm.trans z) (by decide)
  · rw [G14 3 (by decide) (by decide)]; exact hmo.2.2.1
  · rw [G5 8 (by decide), E8]; exact hmo.2.2.2.1
  · rw [G5 10 (by decide), E10, L4]; exact hmo.2.2.2.2.1
  · rw [L5]; exact hmo.2.2.2.2.2
  · exact mst_e hst (fun m _ i _ => by rw [G15]) (fun m hm i _ b _ => by rw [G14 _ (by have := (hd.1 m hm).1; omega) (by have := (hd.1 m hm).1; omega)]) (fun m hm i _ b _ => by rw [G14 _ (by have := (hd.1 m hm).2.1; omega) (by have := (hd.1 m hm).2.1; omega)])
  · rw [Gc, wrb_out (by omega), wrb_out (by omega), Bc]
    exact hcx a h1 h2
  · rw [Gc, wrb_out (by omega), wrb_in (by omega)]
    rfl
  · rw [Gc, wrb_in (by omega), show 8 + i - 8 = i by omega]
    rfl
  · refine ⟨?_, ?_, ?_, ?_⟩
    · rw [gg.2.2.1 6 0 0 (fun z => absurd z.1 (by decide))]; exact hk.1
    · rw [gg.2.2.1 6 0 1 (fun z => absurd z.1 (by decide))]; exact hk.2.1
    · rw [gg.2.2.1 6 0 2 (fun z => absurd z.1 (by decide))]; exact hk.2.2.1
    · rw [gg.2.2.1 6 0 3 (fun z => absurd z.1 (by decide))]; exact hk.2.2.2
  · refine ⟨?_, ?_, fun i hi => ?_⟩
    · rw [gg.2.2.1 9 S 0 (fun z => absurd z.1 (by decide))]; exact (hss.1 S hS).1
    · rw [gg.2.1]; exact (hss.1 S hS).2
    · rw [gg.2.2.1 18 S i (fun z => absurd z.1 (by decide))]; exact hss.2.1 S i hS hi
  · have hh : (sv G1 S i).1 = (s_first i).1 := by rw [g2 i hi]
    show mI G1 10 (75 * S + i + 1) 0 = (if i = 1 then ((2, 0, 0, 0) : tyV) else if i = 10 then (3, 0, 0, 0) else (0, 0, 0, 0)).1
    have hh : mI G1 10 (75 * S + i + 1) 0 = (s_first i).1 := hh
    rw [hh]
    unfold s_first
    by_cases e1 : i = 1
    · rw [if_pos e1, if_pos e1]
    · rw [if_neg e1, if_neg e1]
      by_cases e2 : i = 10
      · rw [if_pos e2, if_pos e2]
      · rw [if_neg e2, if_neg e2]
  · have k0 : mI G1 10 (75 * S + i + 1) 0 = 0 := by
      have hh : (sv G1 S i).1 = (s_first i).1 := by rw [g2 i hi]
      have hh : mI G1 10 (75 * S + i + 1) 0 = (s_first i).1 := hh
      rw [hh]
      unfold s_first
      rw [if_neg (by omega), if_neg (by omega)]
    have hh : (sv G1 S i).2.2.2.2.2.1 = (s_first i).2.2.2.2.2.1 := by rw [g2 i hi]
    have hh : (if mI G1 10 (75 * S + i + 1) 0 = 0 then mI G1 10 (75 * S + i + 1) 5 else 0) = (s_first i).2.2.2.2.2.1 := hh
    rw [if_pos k0] at hh
    rw [hh]
    show _ = (0 : Int32)
    unfold s_first
    rw [if_neg (by omega), if_neg (by omega)]
  · rw [g7.1, eF]
    show mR D1 5 0 16 = some jp
    rw [f6 16 (by decide), d6 16 (by decide), c2.1, a2.1]
    exact E16
  · rw [G5 17 (by decide)]; exact E17
  · rw [G5 14 (by decide)]; exact E14
  · rw [G5 13 (by decide)]; exact E13
  · rw [G5 12 (by decide)]; exact E12
  · rw [G5 15 (by decide)]; exact E15
/-- a run of the class -/
theorem krun {mode : Int32} {k N' : Nat} {T1 : tyT} (hW : cWr nm tb kb vb en jk jv jh W M) (hm : jp = if mode = 2 then 1 else 0) (hss : ss M) (hS : S < mN M 9) (hu : us M S u) (hk : mR M 6 0 0 = some 0 ∧ mR M 6 0 1 = some 0 ∧ mR M 6 0 2 = some S ∧ mR M 6 0 3 = some S) (hd : jDis nm jk jv jh) (hz : mpz nm kb vb en) (h1 : mp1 nm kb vb) (hc : mR M 2 jp 0 = some jp ∧ mZ M 16 jp = 2000 ∧ mI M 2 jp 3 = nI n ∧ ∀ t, t < n → mL M 16 jp t = q t) (hg : gRun q n nm tb kb vb en k (T0 W) 0 T1 N') (hT : (tyC T1 0).1 = 1) (hk2 : k ≤ 20000) : ∃ N, f_Machine_go M 0 mode = some (N, (tyC T1 0).2.1) ∧ cWr nm tb kb vb en jk jv jh (tyW T1) N ∧ grp nm jk jv jh S M N ∧ mI N 5 0 12 = mI M 5 0 12 + 1 ∧ mI N 5 0 13 = mode ∧ mI N 5 0 14 = nI N' ∧ mI N 5 0 15 = mI M 5 0 8 ∧ ∃ v, us N S v := by
  obtain ⟨B, b1, b2', b3, b4, b5, b6, b7, b8, b9, b10⟩ := kbegin hW hm hss hS hu hk hd
  have jlt : jp ≤ 1 := by rw [hm]; split <;> omega
  have hin : kIn jp n q mode B := by
    obtain ⟨c1, c2, c3, c4⟩ := hc
    refine ⟨b5, ?_, ?_, ?_, fun t ht => ?_, b8⟩
    · rw [b4.2.2.1 2 jp 0 (fun z => absurd z.1 (by decide))]; exact c1
    · rw [b4.2.1]; exact c2
    · rw [b4.2.2.2.2.1 jp 3 (Or.inl rfl)]; exact c3
    · rw [b4.2.2.2.2.2.1 16 jp (fun z => absurd z.1 (by decide)) (fun z => by omega) (by decide) (by decide) (sP_nk (by decide) (by decide) (by decide))]
      exact c4 t ht
  have hI : tyI nm en (T0 W) := by
    intro i hi
    replace hi : (if i = 1 then ((2, 0, 0, 0) : tyV) else if i = 10 then (3, 0, 0, 0) else (0, 0, 0, 0)).1 = 7 := hi
    by_cases e1 : i = 1
    · rw [if_pos e1] at hi; exact absurd hi (by decide)
    · rw [if_neg e1] at hi
      by_cases e2 : i = 10
      · rw [if_pos e2] at hi; exact absurd hi (by decide)
      · rw [if_neg e2] at hi; exact absurd hi (by decide)
  obtain ⟨N, n1, n2, n3, n4, n5, v, K2, W2, n6⟩ := kgo (mode := mode) (S := S) hz h1 hd jlt (fun z => by rw [hm, z]; rfl) k (T0 W) 0 T1 N' fuel 0 11 _ _ B hg hT (by omega) (by unfold fuel; omega) b2' hI b3 (fun _ => b3) hin b6
  have n1 : f_Machine_go_l9 0 fuel B 1 0 = some (N, (tyC T1 0).2.1) := n1
  unfold f_Machine_go
  rw [b1, bd_some, n1]
  refine ⟨N, rfl, cWr_of n2, grp_trans b4 n3, ?_, ?_, ?_, ?_, v, n6.2.2.1⟩
  · rw [n5 12 (Or.inl rfl), b9]
  · rw [n5 13 (Or.inr (Or.inl rfl)), b8]
  · rw [n4, b7, Int32.zero_add]
  · rw [n5 15 (Or.inr (Or.inr rfl)), b10]
end HBG
