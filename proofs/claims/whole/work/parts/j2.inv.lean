/-! PURE: what holds between calls. -/
def tl (g : Nat) : Nat := ([1280, 2560, 5120, 10240, 20480, 40960, 65536] : List Nat).getD g 0
/-- how many things there are -/
def cCt (g nm : Nat) (M : me_M) : Prop := (mN M 0 = 1 ∧ mN M 1 = 0 ∧ mN M 2 = 2 ∧ mN M 3 = 1 ∧ mN M 4 = 1 ∧ mN M 5 = 1 ∧ mN M 6 = 1 ∧ mN M 7 = 1 ∧ mN M 8 = 1) ∧ mN M 12 = nm ∧ mN M 13 = 5 ∧ mN M 14 = 4 + g + 2 * nm ∧ mN M 15 = 7 + nm ∧ mN M 16 = 6 ∧ mN M 17 = 2 ∧ mN M 19 = 1
def cGr (jt : Nat) (M : me_M) : Prop := (mR M 0 0 0 = some jt ∧ mR M 0 0 2 = some 0 ∧ mR M 0 0 8 = some 0) ∧ (mR M 6 0 0 = some 0 ∧ mR M 6 0 1 = some 0 ∧ mR M 6 0 2 = some 1 ∧ mR M 6 0 3 = some 1) ∧ mZ M 16 5 = 1
def cTp (nm g tn jt : Nat) (jk jv : Nat → Nat) (M : me_M) : Prop := g ≤ 6 ∧ mZ M 14 jt = tl g ∧ tn ≤ tl g ∧ jt < mN M 14 ∧ (jt = 0 ∨ 3 < jt) ∧ ∀ m, m < nm → ¬ jt = jk m ∧ ¬ jt = jv m
def cI_ (nm g tn jt : Nat) (tb : Nat → Prop) (kb vb : Int32 → Int32) (en jk jv jh : Nat → Nat) (W : tyU) (M : me_M) : Prop := cWh M ∧ cWr nm tb kb vb en jk jv jh W M ∧ jDis nm jk jv jh ∧ cCt g nm M ∧ cGr jt M ∧ (mI M 0 0 3 = nI nm ∧ mI M 0 0 1 = nI tn) ∧ cTp nm g tn jt jk jv M ∧ ∀ m, m < nm → jk m < mN M 14 ∧ jv m < mN M 14 ∧ jh m < mN M 15
/-- before a program was accepted: the values of maps to come are 0 -/
def vz (nm : Nat) (R : me_M) : Prop := mI R 1 0 4 = 0 → ∀ x, 4096 * nm ≤ x → mI R 14 2 x = 0
theorem vz_k {nm : Nat} {R S : me_M} (h : vz nm R) (h4 : mI S 1 0 4 = 0 → mI R 1 0 4 = 0) (h2 : ∀ x, 4096 * nm ≤ x → mI S 14 2 x = mI R 14 2 x) : vz nm S := fun z x hx => (h2 x hx).trans (h (h4 z) x hx)
def rI_ (nm tn : Nat) (tb : Nat → Prop) (kb vb : Int32 → Int32) (en : Nat → Nat) (W : tyU) (R : me_M) : Prop := ps_M R ∧ kv R ∧ rRl nm tb kb vb en (Tb W) R ∧ (mI R 1 0 3 = nI nm ∧ mI R 1 0 2 = nI tn) ∧ (∀ m, m < nm → ∀ i, en m ≤ i → i < 64 → mI R 15 0 (64 * m + i) = 0) ∧ vz nm R
def bI_ (nm tn jt : Nat) (tb : Nat → Prop) (kb vb : Int32 → Int32) (en : Nat → Nat) (W : tyU) (M R : me_M) : Prop := (uBy W ∧ uD nm tb kb en W ∧ mpz nm kb vb en ∧ mp1 nm kb vb) ∧ (∀ b, b < tn → mI M 14 jt b = mI R 14 0 b ∧ isB (mI M 14 jt b)) ∧ (mI M 5 0 12 = mI R 1 0 40 ∧ mI M 5 0 13 = mI R 1 0 41 ∧ mI M 5 0 14 = mI R 1 0 42 ∧ mI M 5 0 15 = mI R 1 0 74) ∧ (mI M 0 0 13 = mI R 1 0 4 ∧ (mI M 0 0 13 = 0 ∨ mI M 0 0 13 = 1))
def pI_ (nm : Nat) (kb vb : Int32 → Int32) (M R : me_M) : Prop := (mI M 0 0 11 = 0 ∧ mI R 1 0 18 = 0 ∧ mI M 0 0 12 = 0 ∧ mI R 1 0 19 = 0 ∧ mI M 2 0 3 = 0) ∨ ∃ p n B g, (1 ≤ n ∧ n ≤ 2000 ∧ B ≤ 20000) ∧ cPr p n g M ∧ rPr p n g R ∧ (g.1 = 0 → g = g_pr p n nm kb vb B ∧ mI M 0 0 13 = 1)
def Iv (M R : me_M) : Prop := ∃ nm g tn jt tb kb vb en jk jv jh W, cI_ nm g tn jt tb kb vb en jk jv jh W M ∧ rI_ nm tn tb kb vb en W R ∧ bI_ nm tn jt tb kb vb en W M R ∧ pI_ nm kb vb M R
section JIV
variable {nm g tn tn2 jt : Nat} {tb : Nat → Prop} {kb vb : Int32 → Int32} {en jk jv jh : Nat → Nat} {W W2 : tyU} {M N R S : me_M} {p : Nat → Int64} {n : Nat} {gg : Int32 × Int32 × xT}
theorem cWh_k (h : cWh M) (hR : ∀ k j f, ¬ k = 5 → ¬ k = 12 → ¬ k = 14 → ¬ (k = 0 ∧ f = 0) → ¬ k = 19 → ¬ k = 15 → mR N k j f = mR M k j f) (hZ : ∀ k j, ¬ k = 14 → ¬ k = 12 → ¬ (k = 15 ∧ 6 < j) → mZ N k j = mZ M k j) (hN : mN N 9 = mN M 9 ∧ mN N 10 = mN M 10 ∧ mN N 11 = mN M 11 ∧ mN N 18 = mN M 18) (h13 : mI N 13 3 0 = mI M 13 3 0 ∧ mI N 13 4 0 = mI M 13 4 0) (hu : ∀ s, s < mN M 9 → ∃ u, us N s u) (hr2 : ∀ ka wa, cRoom M ka wa → cRoom N ka wa) : cWh N := by
  obtain ⟨⟨a1, a2, a3, a4⟩, ⟨b1, b2, b3, b4, b5, b6, b7, b8⟩, ⟨c1, c2, c3, c4, c5, c6, c7, c8, c9, c10⟩, ⟨d1, d2, d3, d4⟩, ⟨e1, e2, e3, e4, e5, e6, e7, e8, e9, e10, e11⟩, ⟨s1, s2, s3⟩, ⟨t1, t2, t3⟩, ⟨q0, q1, q2, q3, q4⟩, ⟨f0, f1, f2, f3, f4, f15, f16, f17, f18⟩, x6, x7, x8⟩ := h
  have r0 : ∀ f, ¬ f = 0 → mR N 0 0 f = mR M 0 0 f := fun f hf => hR 0 0 f (by decide) (by decide) (by decide) (fun z => hf z.2) (by decide) (by decide)
  have rr : ∀ k j f, k = 2 ∨ k = 3 ∨ k = 4 ∨ k = 7 ∨ k = 8 ∨ k = 9 ∨ k = 10 ∨ k = 17 ∨ k = 18 → mR N k j f = mR M k j f := fun k j f hk => hR k j f (by omega) (by omega) (by omega) (by omega) (by omega) (by omega)
  have zz : ∀ k j, k = 13 ∨ k = 16 ∨ k = 17 ∨ k = 18 ∨ (k = 15 ∧ j ≤ 6) → mZ N k j = mZ M k j := fun k j hk => hZ k j (by omega) (by omega) (by omega)
  refine ⟨⟨?_, ?_, ?_, ?_⟩, ⟨?_, ?_, ?_, ?_, ?_, ?_, ?_, ?_⟩, ⟨?_, ?_, ?_, ?_, ?_, ?_, ?_, ?_, ?_, ?_⟩, ⟨?_, ?_, ?_, ?_⟩, ⟨?_, ?_, ?_, ?_, ?_, ?_, ?_, ?_, ?_, ?_, ?_⟩, ⟨?_, ?_, ?_⟩, ⟨?_, ?_, ?_⟩, ⟨?_, ?_, ?_, ?_, ?_⟩, ⟨?_, ?_, ?_, ?_, ?_, ?_, ?_, ?_, ?_⟩, ?_, ?_, ?_⟩
  · rw [r0 4 (by decide)]; exact a1
  · rw [r0 5 (by decide)]; exact a2
  · rw [r0 6 (by decide)]; exact a3
  · rw [r0 7 (by decide)]; exact a4
  · rw [rr 2 0 0 (by omega)]; exact b1
  · rw [zz 16 0 (by omega)]; exact b2
  · rw [rr 2 0 1 (by omega)]; exact b3
  · rw [zz 15 0 (by omega)]; exact b4
  · rw [rr 2 0 2 (by omega)]; exact b5
  · rw [zz 15 1 (by omega)]; exact b6
  · rw [rr 2 1 0 (by omega)]; exact b7
  · rw [zz 16 1 (by omega)]; exact b8
  · rw [rr 3 0 0 (by omega)]; exact c1
  · rw [rr 3 0 1 (by omega)]; exact c2
  · rw [rr 3 0 2 (by omega)]; exact c3
  · rw [rr 3 0 3 (by omega)]; exact c4
  · rw [rr 3 0 4 (by omega)]; exact c5
  · rw [zz 13 0 (by omega)]; exact c6
  · rw [zz 13 1 (by omega)]; exact c7
  · rw [zz 15 4 (by omega)]; exact c8
  · rw [zz 15 5 (by omega)]; exact c9
  · rw [zz 16 2 (by omega)]; exact c10
  · rw [rr 3 0 5 (by omega)]; exact d1
  · rw [zz 15 6 (by omega)]; exact d2
  · rw [rr 3 0 6 (by omega)]; exact d3
  · rw [zz 13 2 (by omega)]; exact d4
  · rw [rr 4 0 0 (by omega)]; exact e1
  · rw [rr 4 0 1 (by omega)]; exact e2
  · rw [rr 4 0 2 (by omega)]; exact e3
  · rw [rr 4 0 3 (by omega)]; exact e4
  · rw [rr 4 0 4 (by omega)]; exact e5
  · rw [rr 4 0 5 (by omega)]; exact e6
  · rw [rr 4 0 6 (by omega)]; exact e7
  · rw [zz 17 0 (by omega)]; exact e8
  · rw [zz 17 1 (by omega)]; exact e9
  · rw [zz 13 3 (by omega)]; exact e10
  · rw [zz 13 4 (by omega)]; exact e11
  · intro s hs
    rw [hN.1] at hs
    rw [rr 9 s 0 (by omega), zz 18 s (by omega)]
    exact s1 s hs
  · intro s i hs hi
    rw [hN.1] at hs
    rw [rr 18 s i (by omega)]
    exact s2 s i hs hi
  · intro c hc
    rw [hN.1] at hc
    rw [rr 10 c 6 (by omega)]
    exact s3 c hc
  · rw [hN.2.2.2, hN.1]; exact t1
  · rw [hN.2.1, hN.1]; exact t2
  · rw [hN.2.2.1, hN.1]; exact t3
  · rw [rr 8 0 0 (by omega)]; exact q0
  · rw [rr 8 0 1 (by omega)]; exact q1
  · rw [rr 8 0 2 (by omega)]; exact q2
  · rw [rr 8 0 3 (by omega)]; exact q3
  · rw [rr 8 0 4 (by omega)]; exact q4
  · rw [rr 7 0 0 (by omega)]; exact f0
  · rw [rr 7 0 1 (by omega)]; exact f1
  · rw [rr 7 0 2 (by omega)]; exact f2
  · rw [rr 7 0 3 (by omega)]; exact f3
  · rw [rr 7 0 4 (by omega)]; exact f4
  · rw [rr 7 0 15 (by omega)]; exact f15
  · rw [rr 7 0 16 (by omega)]; exact f16
  · rw [rr 7 0 17 (by omega)]; exact f17
  · rw [rr 7 0 18 (by omega)]; exact f18
  · rw [h13.1, h13.2]; exact x6
  · intro s hs
    rw [hN.1] at hs
    exact hu s hs
  · obtain ⟨P2, ka, wa, ⟨p1, p2, p3, p4, p5, p6, p7, p8, p9⟩, q⟩ := x8
    refine ⟨P2, ka, wa, ⟨p1, p2, p3, p4, ?_, ?_, ?_, ?_, p9⟩, hr2 ka wa q⟩
    · rw [rr 4 0 8 (by omega)]; exact p5
    · intro i hi; rw [rr 17 0 i (by omega)]; exact p6 i hi
    · intro i hi; rw [rr 17 1 i (by omega)]; exact p7 i hi
    · rw [hN.1]; exact p8
/-- states are as they were -/
theorem us_k (h10 : ∀ j, mI N 10 j = mI M 10 j) (h9 : ∀ j, mI N 9 j = mI M 9 j) (hL : ∀ j, mL N 11 j = mL M 11 j) {s u : Nat} (h : us M s u) : us N s u := by
  obtain ⟨u1, u2, u3, u4⟩ := h
  refine ⟨u1, u2, by rw [h9]; exact u3, fun i hi hj => ?_⟩
  have := u4 i hi hj
  unfold sv cv pg at this ⊢
  rw [h10, hL]
  exact this
theorem cPr_k (h : cPr p n gg M) (h0 : ∀ f, 9 ≤ f → f ≤ 12 → mI N 0 0 f = mI M 0 0 f) (h2 : ∀ j, mI N 2 j 3 = mI M 2 j 3) (h4 : ∀ f, mI N 4 0 f = mI M 4 0 f) (h13 : ∀ j, j ≤ 1 → mI N 13 j = mI M 13 j) (h15 : ∀ j, j = 4 ∨ j = 5 → mI N 15 j = mI M 15 j) (h16 : ∀ j, j ≤ 2 → mL N 16 j = mL M 16 j) : cPr p n gg N := by
  obtain ⟨a1, a2, a3, a4, ⟨b1, b2, b3, b4⟩, a6, a7, a8, a9, a10⟩ := h
  refine ⟨by rw [h0 9 (by omega) (by omega)]; exact a1, by rw [h0 10 (by omega) (by omega)]; exact a2, by rw [h0 11 (by omega) (by omega)]; exact a3, by rw [h0 12 (by omega) (by omega)]; exact a4, ⟨by rw [h4]; exact b1, by rw [h4]; exact b2, by rw [h4]; exact b3, by rw [h4]; exact b4⟩, fun s hs => ?_, by rw [h2]; exact a7, fun s hs => by rw [h16 0 (by omega)]; exact a8 s hs, fun z => ⟨by rw [h2]; exact (a9 z).1, fun t ht hz => by rw [h16 1 (by omega)]; exact (a9 z).2 t ht hz⟩, fun z => by rw [h2]; exact a10 z⟩
  rw [h13 0 (by omega), h13 1 (by omega), h15 4 (by omega), h15 5 (by omega), h16 2 (by omega)]
  exact a6 s hs
theorem rPr_k (h : rPr p n gg R) (h1 : ∀ f, f = 12 ∨ f = 14 ∨ f = 15 ∨ (18 ≤ f ∧ f ≤ 26) → mI S 1 0 f = mI R 1 0 f) (h13 : ∀ j, j = 4 ∨ j = 5 → mI S 13 j = mI R 13 j) (h15 : ∀ j, j = 1 ∨ j = 2 → mI S 15 j = mI R 15 j) (h16 : ∀ j, j = 1 ∨ j = 2 ∨ j = 3 → mL S 16 j = mL R 16 j) : rPr p n gg S := by
  obtain ⟨a1, a2, a3, a4, ⟨b1, b2, b3, b4⟩, a6, a7, a8, a9⟩ := h
  refine ⟨by rw [h1 20 (by omega)]; exact a1, by rw [h1 21 (by omega)]; exact a2, by rw [h1 18 (by omega)]; exact a3, by rw [h1 19 (by omega)]; exact a4, ⟨by rw [h1 23 (by omega)]; exact b1, by rw [h1 22 (by omega)]; exact b2, by rw [h1 24 (by omega)]; exact b3, by rw [h1 25 (by omega)]; exact b4⟩, fun s hs => ?_, by rw [h1 12 (by omega)]; exact a7, fun z => ?_, fun z => by rw [h1 26 (by omega)]; exact a9 z⟩
  · rw [h13 4 (by omega), h13 5 (by omega), h15 1 (by omega), h15 2 (by omega), h16 3 (by omega)]
    exact a6 s hs
  · rw [h1 14 (by omega), h1 15 (by omega), h1 26 (by omega), h16 1 (by omega), h16 2 (by omega)]
    exact a8 z
theorem cSh_k (h1 : cSh nm tb kb vb en jk jv jh M) (hZ : mZ N = mZ M) (hR : ∀ k j f, ¬ (k = 5 ∧ j = 0 ∧ (f = 16 ∨ f = 18)) → mR N k j f = mR M k j f) (e12 : ∀ m, mI N 12 m = mI M 12 m) : cSh nm tb kb vb en jk jv jh N := by
  obtain ⟨⟨⟨r0, r1, r2, r3, r4, r5, r6, r7, r9⟩, z, ⟨s1, s2, s3⟩, hv⟩, hs⟩ := h1
  have er : ∀ f, ¬ f = 16 → ¬ f = 18 → mR N 5 0 f = mR M 5 0 f := fun f a b => hR 5 0 f (fun z => z.2.2.elim a b)
  have e19 : ∀ j f, mR N 19 j f = mR M 19 j f := fun j f => hR 19 j f (fun z => absurd z.1 (by decide))
  have e2 : ∀ j f, mR N 12 j f = mR M 12 j f := fun j f => hR 12 j f (fun z => absurd z.1 (by decide))
  refine ⟨⟨⟨?_, ?_, ?_, ?_, ?_, ?_, ?_, ?_, ?_⟩, by rw [hZ]; exact z, ⟨s1, by rw [hZ]; exact s2, fun m hm => ?_⟩, fun m hm => ?_⟩, fun m hm => ?_⟩
  · rw [er 0 (by decide) (by decide)]; exact r0
  · rw [er 1 (by decide) (by decide)]; exact r1
  · rw [er 2 (by decide) (by decide)]; exact r2
  · rw [er 3 (by decide) (by decide)]; exact r3
  · rw [er 4 (by decide) (by decide)]; exact r4
  · rw [er 5 (by decide) (by decide)]; exact r5
  · rw [er 6 (by decide) (by decide)]; exact r6
  · rw [er 7 (by decide) (by decide)]; exact r7
  · rw [er 9 (by decide) (by decide)]; exact r9
  · rw [e19, e12]; exact s3 m hm
  · rw [e2, e12, hZ]; exact hv m hm
  · have := hs m hm
    unfold sS at this ⊢
    rw [e2, e2, e2, e12, hZ]
    exact this
/-- only what a run doesn't need has changed -/
theorem cWr_k (h : cWr nm tb kb vb en jk jv jh W M) (hd : jDis nm jk jv jh) (hZ : mZ N = mZ M) (hR : ∀ k j f, ¬ (k = 5 ∧ j = 0 ∧ (f = 16 ∨ f = 18)) → mR N k j f = mR M k j f) (e12 : ∀ m, mI N 12 m = mI M 12 m) (h14 : ∀ j, j = 1 ∨ j = 3 ∨ (∃ m, m < nm ∧ (j = jk m ∨ j = jv m)) → mI N 14 j = mI M 14 j) (h15 : ∀ j, 6 < j → mI N 15 j = mI M 15 j) (h5 : mI N 5 0 8 = mI M 5 0 8 ∧ mI N 5 0 10 = mI M 5 0 10) (hL : mL N 16 4 = mL M 16 4 ∧ mL N 5 0 = mL M 5 0) : cWr nm tb kb vb en jk jv jh W N := by
  obtain ⟨h1, h2, h3, h4⟩ := h
  refine ⟨cSh_k h1 hZ hR e12, ?_, mst_e h3 (fun m hm i _ => by rw [h15 _ (hd.1 m hm).2.2]) (fun m hm i _ b _ => by rw [h14 _ (Or.inr (Or.inr ⟨m, hm, Or.inl rfl⟩))]) (fun m hm i _ b _ => by rw [h14 _ (Or.inr (Or.inr ⟨m, hm, Or.inr rfl⟩))]), ?_⟩
  · rw [h14 3 (by omega), h5.1, h5.2, hL.1, hL.2]
    exact mo_Tb (T := Tb W) h2
  · rw [h14 1 (by omega)]
    exact h4
/-- the class's side: nothing is made, no reference is changed -/
theorem cI_k (h : cI_ nm g tn jt tb kb vb en jk jv jh W M) (hw : cWr nm tb kb vb en jk jv jh W2 N) (hZ : mZ N = mZ M) (hN : mN N = mN M) (hR : ∀ k j f, ¬ (k = 5 ∧ j = 0 ∧ (f = 16 ∨ f = 18)) → mR N k j f = mR M k j f) (h13 : mI N 13 3 0 = mI M 13 3 0 ∧ mI N 13 4 0 = mI M 13 4 0) (hu : ∀ s, s < mN M 9 → ∃ u, us N s u) (h3 : mI N 0 0 3 = mI M 0 0 3) (h1 : mI N 0 0 1 = nI tn2) (ht : tn2 ≤ tn) : cI_ nm g tn2 jt tb kb vb en jk jv jh W2 N := by
  obtain ⟨c1, c2, c3, c4, ⟨⟨c5, c6, c7⟩, ⟨c8, c9, c10, c11⟩, c12⟩, ⟨c13, c14⟩, ⟨c15, c16, c17, c18, c19, c20⟩, c21⟩ := h
  have rr : ∀ k j f, ¬ k = 5 → mR N k j f = mR M k j f := fun k j f hk => hR k j f (fun z => hk z.1)
  refine ⟨cWh_k c1 (fun k j f a _ _ _ _ _ => rr k j f a) (fun k j _ _ _ => by rw [hZ]) (by rw [hN]; exact ⟨rfl, rfl, rfl, rfl⟩) h13 hu (fun ka wa q => cRoom_N q hN), hw, c3, ?_, ⟨⟨?_, ?_, ?_⟩, ⟨?_, ?_, ?_, ?_⟩, ?_⟩, ⟨h3.trans c13, h1⟩, ⟨c15, by rw [hZ]; exact c16, by omega, by rw [hN]; exact c18, c19, c20⟩, by rw [hN]; exact c21⟩
  · unfold cCt at c4 ⊢; rw [hN]; exact c4
  · rw [rr 0 0 0 (by decide)]; exact c5
  · rw [rr 0 0 2 (by decide)]; exact c6
  · rw [rr 0 0 8 (by decide)]; exact c7
  · rw [rr 6 0 0 (by decide)]; exact c8
  · rw [rr 6 0 1 (by decide)]; exact c9
  · rw [rr 6 0 2 (by decide)]; exact c10
  · rw [rr 6 0 3 (by decide)]; exact c11
  · rw [hZ]; exact c12
theorem us_all (h : cI_ nm g tn jt tb kb vb en jk jv jh W M) (h10 : ∀ j, mI N 10 j = mI M 10 j) (h9 : ∀ j, mI N 9 j = mI M 9 j) (hL : ∀ j, mL N 11 j = mL M 11 j) : ∀ s, s < mN M 9 → ∃ u, us N s u := by
  intro s hs
  obtain ⟨u, hu⟩ := h.1.2.2.2.2.2.2.2.2.2.2.1 s hs
  exact ⟨u, us_k h10 h9 hL hu⟩
/-- the answer is noted -/
theorem Iv_out (h : Iv M R) {v : Int64} : Iv (wL M 16 5 0 v) R := by
  obtain ⟨nm, g, tn, jt, tb, kb, vb, en, jk, jv, jh, W, hc, hr, hb, hp⟩ := h
  have hL : ∀ k j, ¬ (k = 16 ∧ j = 5) → mL (wL M 16 5 0 v) k j = mL M k j := fun k j z => wL_o z
  refine ⟨nm, g, tn, jt, tb, kb, vb, en, jk, jv, jh, W, ?_, hr, hb, ?_⟩
  · exact cI_k hc (cWr_k hc.2.1 hc.2.2.1 rfl (fun _ _ _ _ => rfl) (fun _ => rfl) (fun _ _ => rfl) (fun _ _ => rfl) ⟨rfl, rfl⟩ ⟨hL 16 4 (fun z => absurd z.2 (by decide)), hL 5 0 (fun z => absurd z.1 (by decide))⟩) rfl rfl (fun _ _ _ _ => rfl) ⟨rfl, rfl⟩ (us_all hc (fun _ => rfl) (fun _ => rfl) (fun j => hL 11 j (fun z => absurd z.1 (by decide)))) rfl hc.2.2.2.2.2.1.2 (Nat.le_refl _)
  · rcases hp with z | ⟨p, n, B, gg, z1, z2, z3, z4⟩
    · exact Or.inl z
    · exact Or.inr ⟨p, n, B, gg, z1, cPr_k z2 (fun _ _ _ => rfl) (fun _ => rfl) (fun _ => rfl) (fun _ _ => rfl) (fun _ _ => rfl) (fun j hj => hL 16 j (fun z => by omega)), z3, z4⟩
/-- only thrown is set -/
theorem Iv_thr (h : Iv M R) {x : Int32} : Iv M (wI R 1 0 0 x) := by
  obtain ⟨nm, g, tn, jt, tb, kb, vb, en, jk, jv, jh, W, hc, ⟨r1, r2, r3, ⟨r4, r5⟩, r6⟩, ⟨b1, b2, ⟨b3, b4, b5, b6⟩, b7, b8⟩, hp⟩ := h
  have e : ∀ k j, ¬ k = 1 → mI (wI R 1 0 0 x) k j = mI R k j := fun k j hk => wI_o (fun z => hk z.1)
  refine ⟨nm, g, tn, jt, tb, kb, vb, en, jk, jv, jh, W, hc, ⟨ps_M_of rfl rfl r1, ?_, rRl_I r3 (Or.inl rfl), ⟨?_, ?_⟩, ?_⟩, ⟨b1, ?_, ⟨?_, ?_, ?_, ?_⟩, ?_, b8⟩, ?_⟩
  · unfold kv; rw [e 14 8 (by decide)]; exact r2
  · rw [pI_place (by decide)]; exact r4
  · rw [pI_place (by decide)]; exact r5
  · exact ⟨by rw [e 15 0 (by decide)]; exact r6.1, vz_k r6.2 (fun z => by rw [pI_place (by decide)] at z; exact z) (fun x _ => by rw [e 14 2 (by decide)])⟩
  · rw [e 14 0 (by decide)]; exact b2
  · rw [pI_place (by decide)]; exact b3
  · rw [pI_place (by decide)]; exact b4
  · rw [pI_place (by decide)]; exact b5
  · rw [pI_place (by decide)]; exact b6
  · rw [pI_place (by decide)]; exact b7
  · rcases hp with ⟨z1, z2, z3, z4, z5⟩ | ⟨p, n, B, gg, z1, z2, z3, z4⟩
    · exact Or.inl ⟨z1, by rw [pI_place (by decide)]; exact z2, z3, by rw [pI_place (by decide)]; exact z4, z5⟩
    · exact Or.inr ⟨p, n, B, gg, z1, z2, rPr_k z3 (fun f hf => pI_place (by omega)) (fun j _ => e 13 j (by decide)) (fun j _ => e 15 j (by decide)) (fun _ _ => rfl), z4⟩
end JIV
