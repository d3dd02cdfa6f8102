/-! PURE: the class's Machine runs as the typed machine does. -/
/-- what a run leaves alone -/
def grp (nm : Nat) (jk jv jh : Nat → Nat) (S : Nat) (M N : me_M) : Prop := mN N = mN M ∧ mZ N = mZ M ∧ (∀ k j f, ¬ (k = 5 ∧ j = 0 ∧ (f = 16 ∨ f = 18)) → mR N k j f = mR M k j f) ∧ (∀ k j, ¬ (k = 5 ∧ j = 0) → ¬ (k = 2 ∧ j ≤ 1) → ¬ (k = 14 ∧ (j = 1 ∨ j = 2 ∨ j = 3 ∨ ∃ m, m < nm ∧ (j = jk m ∨ j = jv m))) → ¬ (k = 15 ∧ ∃ m, m < nm ∧ j = jh m) → ¬ sP S k j → mI N k j = mI M k j) ∧ (∀ j f, f = 3 ∨ f = 4 → mI N 2 j f = mI M 2 j f) ∧ (∀ k j, ¬ (k = 5 ∧ j = 0) → ¬ (k = 16 ∧ (j = 3 ∨ j = 4)) → ¬ k = 14 → ¬ k = 2 → ¬ sP S k j → mL N k j = mL M k j) ∧ mI N 5 0 8 = mI M 5 0 8
section HGO
variable {nm : Nat} {tb : Nat → Prop} {kb vb : Int32 → Int32} {en jk jv jh : Nat → Nat} {T U : tyT} {M N O : me_M} {c v w : Int64} {jp i n m s S u : Nat} {p : Nat → Int64} {K W : Nat → Int32}
theorem grp_refl : grp nm jk jv jh S M M := ⟨rfl, rfl, fun _ _ _ _ => rfl, fun _ _ _ _ _ _ _ => rfl, fun _ _ _ => rfl, fun _ _ _ _ _ _ _ => rfl, rfl⟩
theorem grp_trans (h : grp nm jk jv jh S M N) (g : grp nm jk jv jh S N O) : grp nm jk jv jh S M O := ⟨g.1.trans h.1, g.2.1.trans h.2.1, fun k j f z => (g.2.2.1 k j f z).trans (h.2.2.1 k j f z), fun k j a b d e f => (g.2.2.2.1 k j a b d e f).trans (h.2.2.2.1 k j a b d e f), fun j f a => (g.2.2.2.2.1 j f a).trans (h.2.2.2.2.1 j f a), fun k j a b d e f => (g.2.2.2.2.2.1 k j a b d e f).trans (h.2.2.2.2.2.1 k j a b d e f), g.2.2.2.2.2.2.trans h.2.2.2.2.2.2⟩
theorem grp_sg (h : sgp nm jk jv jh M N) : grp nm jk jv jh S M N := ⟨h.1, h.2.1, fun k j f z => h.2.2.1 k j f (fun q => z ⟨q.1, q.2.1, Or.inr q.2.2⟩), fun k j a _ d e _ => h.2.2.2.1 k j a (fun q => d ⟨q.1, Or.inr q.2⟩) e, fun j f _ => by rw [h.2.2.2.1 2 j (fun z => absurd z.1 (by decide)) (fun z => absurd z.1 (by decide)) (fun z => absurd z.1 (by decide))], fun k j a b d _ _ => h.2.2.2.2.2 k j a b d, h.2.2.2.2.1 8 (by decide) (by decide)⟩
theorem grp_sP (h : fr (sP S) M N) : grp nm jk jv jh S M N := ⟨h.2.1, h.2.2.1, fun k j f _ => by rw [h.1], fun k j _ _ _ _ d => h.2.2.2.1 k j d, fun j f _ => by rw [h.2.2.2.1 2 j (sP_nk (by decide) (by decide) (by decide))], fun k j _ _ _ _ d => h.2.2.2.2 k j d, by rw [h.2.2.2.1 5 0 (sP_nk (by decide) (by decide) (by decide))]⟩
theorem grp_5 {f : Nat} {x : Int32} (hf : ¬ f = 8) : grp nm jk jv jh S M (wI M 5 0 f x) := ⟨rfl, rfl, fun _ _ _ _ => rfl, fun k j a _ _ _ _ => wI_o a, fun j f _ => wI_j (fun z => absurd z.1 (by decide)), fun _ _ _ _ _ _ _ => rfl, pI_place (fun z => hf z.symm)⟩
theorem grp_2 {j : Nat} (h : fr (fun k i => k = 2 ∧ i = j) M N) (hj : j ≤ 1) (h5 : ∀ f, f = 3 ∨ f = 4 → mI N 2 j f = mI M 2 j f) : grp nm jk jv jh S M N := ⟨h.2.1, h.2.2.1, fun k j f _ => by rw [h.1], fun k i _ b _ _ _ => h.2.2.2.1 k i (fun z => b ⟨z.1, by omega⟩), fun i f hf => by
  by_cases e : i = j
  · rw [e]; exact h5 f hf
  · rw [h.2.2.2.1 2 i (fun z => e z.2)], fun k i _ _ _ d _ => h.2.2.2.2 k i (fun z => d z.1), by rw [h.2.2.2.1 5 0 (fun z => absurd z.1 (by decide))]⟩
theorem cRl_k (h : cRl nm tb kb vb en jk jv jh T M) (hZ : mZ N = mZ M) (hR : ∀ k j f, ¬ (k = 5 ∧ j = 0 ∧ f = 18) → mR N k j f = mR M k j f ∨ (k = 5 ∧ f = 16)) (hI : ∀ k j, k = 12 ∨ k = 14 ∨ k = 15 → mI N k j = mI M k j) (h8 : mI N 5 0 8 = mI M 5 0 8) (h10 : mI N 5 0 10 = mI M 5 0 10) (hL : ∀ k j, k = 5 ∨ k = 16 → mL N k j = mL M k j) : cRl nm tb kb vb en jk jv jh T N := by
  obtain ⟨h1, h2, h3, h4⟩ := h
  have hsh : cSh nm tb kb vb en jk jv jh N := by
    obtain ⟨⟨⟨r0, r1, r2, r3, r4, r5, r6, r7, r9⟩, z, ⟨s1, s2, s3⟩, hv⟩, hs⟩ := h1
    have er : ∀ f, f < 16 → mR N 5 0 f = mR M 5 0 f := fun f hf => (hR 5 0 f (fun z => by omega)).resolve_right (fun z => by omega)
    have e19 : ∀ j f, mR N 19 j f = mR M 19 j f := fun j f => (hR 19 j f (fun z => absurd z.1 (by decide))).resolve_right (fun z => absurd z.1 (by decide))
    have e2 : ∀ j f, mR N 12 j f = mR M 12 j f := fun j f => (hR 12 j f (fun z => absurd z.1 (by decide))).resolve_right (fun z => absurd z.1 (by decide))
    have e12 : ∀ m, mI N 12 m = mI M 12 m := fun m => hI 12 m (Or.inl rfl)
    refine ⟨⟨⟨?_, ?_, ?_, ?_, ?_, ?_, ?_, ?_, ?_⟩, by rw [hZ]; exact z, ⟨s1, by rw [hZ]; exact s2, fun m hm => ?_⟩, fun m hm => ?_⟩, fun m hm => ?_⟩
    · rw [er 0 (by decide)]; exact r0
    · rw [er 1 (by decide)]; exact r1
    · rw [er 2 (by decide)]; exact r2
    · rw [er 3 (by decide)]; exact r3
    · rw [er 4 (by decide)]; exact r4
    · rw [er 5 (by decide)]; exact r5
    · rw [er 6 (by decide)]; exact r6
    · rw [er 7 (by decide)]; exact r7
    · rw [er 9 (by decide)]; exact r9
    · rw [e19, e12]; exact s3 m hm
    · rw [e2, e12, hZ]; exact hv m hm
    · have := hs m hm
      unfold sS at this ⊢
      rw [e2, e2, e2, e12, hZ]
      exact this
  have e14 : ∀ j, mI N 14 j = mI M 14 j := fun j => hI 14 j (Or.inr (Or.inl rfl))
  have e15 : ∀ j, mI N 15 j = mI M 15 j := fun j => hI 15 j (Or.inr (Or.inr rfl))
  refine ⟨hsh, ?_, mst_e h3 (fun m _ i _ => by rw [e15]) (fun m _ i _ b _ => by rw [e14]) (fun m _ i _ b _ => by rw [e14]), ?_⟩
  · rw [hL 16 3 (Or.inr rfl), hL 16 4 (Or.inr rfl), hL 5 0 (Or.inl rfl), e14, e14, h8, h10]
    exact h2
  · rw [e14]
    exact h4
theorem kSt_k (h : kSt S u K W M) (hR : ∀ k j f, k = 6 ∨ k = 9 ∨ k = 18 → mR N k j f = mR M k j f) (hZ : mZ N = mZ M) (hI : ∀ k j, k = 9 ∨ k = 10 → mI N k j = mI M k j) (hL : ∀ j, mL N 11 j = mL M 11 j) : kSt S u K W N := by
  obtain ⟨⟨a0, a1, a2, a3⟩, ⟨b0, b1, b2⟩, ⟨u1, u2, u3, u4⟩, k1, k2⟩ := h
  have e10 : ∀ j, mI N 10 j = mI M 10 j := fun j => hI 10 j (Or.inr rfl)
  refine ⟨⟨?_, ?_, ?_, ?_⟩, ⟨?_, ?_, ?_⟩, ⟨u1, u2, ?_, ?_⟩, ?_, ?_⟩
  · rw [hR 6 0 0 (Or.inl rfl)]; exact a0
  · rw [hR 6 0 1 (Or.inl rfl)]; exact a1
  · rw [hR 6 0 2 (Or.inl rfl)]; exact a2
  · rw [hR 6 0 3 (Or.inl rfl)]; exact a3
  · rw [hR 9 S 0 (Or.inr (Or.inl rfl))]; exact b0
  · rw [hZ]; exact b1
  · intro i hi
    rw [hR 18 S i (Or.inr (Or.inr rfl))]; exact b2 i hi
  · rw [hI 9 S (Or.inl rfl)]; exact u3
  · intro i hi hj
    have := u4 i hi hj
    unfold sv cv pg at this ⊢
    rw [e10, hL]
    exact this
  · intro i hi
    rw [e10]; exact k1 i hi
  · intro i a hi
    rw [e10]; exact k2 i a hi
theorem hlp_1 (f1 : d_field c = 1) (ho : ty_hlp c nm tb kb vb en T = some U) : tyC U 0 = ty_n 0 ∨ ∃ m i, tyC U 0 = (7, 0, m, i) := by
  unfold ty_hlp at ho
  rw [if_neg (by rw [f1]; decide), if_neg (by rw [f1]; decide), if_neg (by rw [f1]; decide)] at ho
  refine Or.elim (Classical.em ((tyC T 1).1 = 6 ∧ (tyC T 1).2.2.1 < nm ∧ ty_can vb T (tyC T 2) (kb (nI (tyC T 1).2.2.1)).toNatClampNeg)).symm (fun g => ?_) (fun g => ?_)
  · rw [ic_f g] at ho; cases ho
  rw [ic_t g, if_pos f1] at ho
  cases e : u_find tb kb en (tyW T) (tyC T 1).2.2.1 (ty_key T (tyC T 2)) with
  | some i =>
    rw [e] at ho
    rw [← Option.some.inj ho]
    exact Or.inr ⟨_, _, rfl⟩
  | none =>
    rw [e] at ho
    rw [← Option.some.inj ho]
    exact Or.inl rfl
theorem step_9 {o : Option Nat} (f9 : d_fam (p s) = 9) (ho : ty_step p nm tb kb vb en T s = some (U, o)) : ty_hlp (p s) nm tb kb vb en T = some U := by
  unfold ty_step at ho
  by_cases un : ty_unr (p s) T
  · rw [if_pos un] at ho; cases ho
  rw [if_neg un, if_neg (by rw [f9]; decide)] at ho
  unfold ty_do at ho
  rw [if_neg (by rw [f9]; decide), if_neg (by rw [f9]; decide), if_neg (by rw [f9]; decide), if_pos f9] at ho
  cases e : ty_hlp (p s) nm tb kb vb en T with
  | none => rw [e] at ho; cases ho
  | some V =>
    rw [e] at ho
    exact congrArg some (congrArg Prod.fst (Option.some.inj ho))
/-- within a run: program, place, mode -/
def kIn (jp n : Nat) (q : Nat → Int64) (mode : Int32) (M : me_M) : Prop := mR M 5 0 16 = some jp ∧ mR M 2 jp 0 = some jp ∧ mZ M 16 jp = 2000 ∧ mI M 2 jp 3 = nI n ∧ (∀ t, t < n → mL M 16 jp t = q t) ∧ mI M 5 0 13 = mode
theorem kIn_g {mode : Int32} (h : kIn jp n p mode M) (hj : jp ≤ 1) (g : grp nm jk jv jh S M N) (h16 : mR N 5 0 16 = mR M 5 0 16) (h13 : mI N 5 0 13 = mI M 5 0 13) : kIn jp n p mode N := by
  obtain ⟨a1, a2, a3, a4, a5, a6⟩ := h
  obtain ⟨g1, g2, g3, g4, g5, g6, g7⟩ := g
  refine ⟨h16.trans a1, ?_, ?_, ?_, fun t ht => ?_, h13.trans a6⟩
  · rw [g3 2 jp 0 (fun z => absurd z.1 (by decide))]; exact a2
  · rw [g2]; exact a3
  · rw [g5 jp 3 (Or.inl rfl)]; exact a4
  · rw [g6 16 jp (fun z => absurd z.1 (by decide)) (fun z => by omega) (by decide) (by decide) (sP_nk (by decide) (by decide) (by decide))]
    exact a5 t ht
theorem kgo {mode : Int32} (hm : mpz nm kb vb en) (h1 : mp1 nm kb vb) (hd : jDis nm jk jv jh) (hj : jp ≤ 1) (hjm : mode = 0 → jp = 0) : ∀ (k : Nat) (T : tyT) (s : Nat) (T1 : tyT) (N' fu y u : Nat) (K W : Nat → Int32) (M : me_M), gRun p n nm tb kb vb en k T s T1 N' → (tyC T1 0).1 = 1 → y + k < 1000000 → k + 1 < fu → cRl nm tb kb vb en jk jv jh T M → tyI nm en T → (kSt S u K W M) → (mode = 0 → kSt S u (tyK T) (tyM T) M) → kIn jp n p mode M → mI M 5 0 17 = nI s → ∃ M1, f_Machine_go_l9 0 fu M 1 (nI y) = some (M1, (tyC T1 0).2.1) ∧ cRl nm tb kb vb en jk jv jh T1 M1 ∧ grp nm jk jv jh S M M1 ∧ mI M1 5 0 14 = mI M 5 0 14 + nI N' ∧ (∀ f, f = 12 ∨ f = 13 ∨ f = 15 → mI M1 5 0 f = mI M 5 0 f) ∧ ∃ v K2 W2, kSt S v K2 W2 M1 := by
  intro k
  induction k with
  | zero => intro T s T1 N' fu y u K W M h; exact h.elim
  | succ k ih =>
    intro T s T1 N' fu y u K W M hg hT1 hy hf hR hI hK0 hK hin hat
    obtain ⟨fu, rfl⟩ : ∃ f, fu = f + 1 := ⟨fu - 1, by omega⟩
    obtain ⟨hsl, hg⟩ := hg
    obtain ⟨a1, a2, a3, a4, a5, a6⟩ := hin
    have hn2 := hsl.2.1
    -- the step of the typed machine
    obtain ⟨U, o, hstep⟩ : ∃ U o, ty_step p nm tb kb vb en T s = some (U, o) := by
      rcases hg with ⟨z, _⟩ | ⟨U, s1, N1, z, _⟩
      · exact ⟨_, _, z⟩
      · exact ⟨_, _, z⟩
    -- look
    obtain ⟨M2, b1, b2', b3, b4, b5⟩ := lk_look a2 a3 a4 hn2 hsl.1
    rw [a5 s hsl.1] at b2'
    have g2 : grp nm jk jv jh S M M2 := grp_2 b5 hj (fun f hf => by
      rcases hf with e | e
      · rw [e]; exact b3
      · rw [e]; exact b4)
    have e5 : mI M2 5 0 = mI M 5 0 := b5.2.2.2.1 5 0 (fun z => absurd z.1 (by decide))
    have hR2 : cRl nm tb kb vb en jk jv jh T M2 := cRl_k hR b5.2.2.1 (fun k j f _ => Or.inl (by rw [b5.1])) (fun k j hk => b5.2.2.2.1 k j (fun z => by omega)) (by rw [e5]) (by rw [e5]) (fun k j hk => b5.2.2.2.2 k j (fun z => by omega))
    have tr2 : ∀ {K W : Nat → Int32}, kSt S u K W M → kSt S u K W M2 := fun h => kSt_k h (fun k j f _ => by rw [b5.1]) b5.2.2.1 (fun k j hk => b5.2.2.2.1 k j (fun z => by omega)) (fun j => b5.2.2.2.2 11 j (fun z => absurd z.1 (by decide)))
    obtain ⟨⟨⟨r0, r1, r2, r3, r4, r5, r6, r7, r9⟩, ⟨z1, z2, z3, z4, z5⟩, _, hv⟩, _⟩ := hR2.1
    have hz4 : mZ M 16 3 = 16 := by rw [b5.2.2.1] at z4; exact z4
    -- checks
    obtain ⟨M3, v, K3, W3, c1, c2, c3, c4⟩ : ∃ M3 v K3 W3, (f_Machine_go_l9 0 (fu + 1) M 1 (nI y) = f_Machine_go_b54 (f_Machine_go_l9 0 fu) 0 M3 (nI y)) ∧ fr (sP S) M2 M3 ∧ kSt S v K3 W3 M3 ∧ (mode = 0 → K3 = kAft (p s) U ∧ W3 = tyM U) := by
      have start : f_Machine_go_l9 0 (fu + 1) M 1 (nI y) = (if mode = 0 then b2 (f_Checks_allows M2 0 3) (fun (M33 : me_M) (r34 : Int32) => (if r34 = 0 then bd (mR M33 5 0 6) (fun (j36 : Nat) => gd (0 < mZ M 16 j36) (some (M33, (mL M33 16 j36 0)))) else f_Machine_go_b54 (f_Machine_go_l9 0 fu) 0 M33 (nI y))) else f_Machine_go_b54 (f_Machine_go_l9 0 fu) 0 M2 (nI y)) := by
        rw [f_Machine_go_l9, if_neg (show ¬ 1000000 ≤ nI y from fun z => by have := (nI_lei (a := 1000000) (by decide) (by omega)).mp z; omega), if_neg (by decide), a1, bd_some, hat, b1, bd_some, e5, a6, r3, bd_some, r6, bd_some]
      by_cases m0 : mode = 0
      · have j0 := hjm m0
        subst j0
        obtain ⟨M3, v, n1, n2, n3⟩ := kallow (tr2 (hK m0)) b2' hR2 hI hm hsl hstep
        exact ⟨M3, v, _, _, by rw [start, if_pos m0, n1, b2_some, if_neg (by decide)], n3, n2, fun _ => ⟨rfl, rfl⟩⟩
      · exact ⟨M2, u, _, _, by rw [start, if_neg m0], fr_refl, tr2 hK0, fun z => absurd z m0⟩
    have e53 : mI M3 5 0 = mI M 5 0 := by rw [c2.2.2.2.1 5 0 (sP_nk (by decide) (by decide) (by decide)), e5]
    have g3 : grp nm jk jv jh S M M3 := grp_trans g2 (grp_sP c2)
    -- done is counted
    obtain ⟨M4, eM4⟩ : ∃ M4, M4 = wI M3 5 0 14 (mI M3 5 0 14 + 1) := ⟨_, rfl⟩
    have g4 : grp nm jk jv jh S M M4 := by rw [eM4]; exact grp_trans g3 (grp_5 (by decide))
    have m4I : ∀ k j, ¬ (k = 5 ∧ j = 0) → mI M4 k j = mI M3 k j := fun k j hk => by rw [eM4]; exact wI_o hk
    have hR4 : cRl nm tb kb vb en jk jv jh T M4 := by
      refine cRl_k hR2 ?_ (fun k j f _ => Or.inl ?_) (fun k j hk => ?_) ?_ ?_ (fun k j hk => ?_)
      · rw [eM4]; exact c2.2.2.1
      · rw [eM4]; exact congrFun (congrFun (congrFun c2.1 k) j) f
      · rw [m4I k j (fun z => by omega)]; exact c2.2.2.2.1 k j (sP_nk (by omega) (by omega) (by omega))
      · rw [eM4, pI_place (by decide), e53, e5]
      · rw [eM4, pI_place (by decide), e53, e5]
      · rw [eM4]; exact c2.2.2.2.2 k j (sP_nk (by omega) (by omega) (by omega))
    have mR4 : mR M4 = mR M := by rw [eM4]; exact c2.1.trans b5.1
    have hk4 : lk M4 jp (p s) := by
      unfold lk
      rw [m4I 2 jp (fun z => absurd z.1 (by decide)), c2.2.2.2.1 2 jp (sP_nk (by decide) (by decide) (by decide))]
      exact b2'
    have e13 : mI M4 5 0 13 = mode := by rw [eM4, pI_place (by decide), e53]; exact a6
    have hin4 : kIn jp n p mode M4 := kIn_g ⟨a1, a2, a3, a4, a5, a6⟩ hj g4 (by rw [mR4]) (e13.trans a6.symm)
    have hS4 : kSt S v K3 W3 M4 := kSt_k c3 (fun k j f _ => by rw [eM4]; rfl) (by rw [eM4]; rfl) (fun k j hk => m4I k j (fun z => by omega)) (fun j => by rw [eM4]; rfl)
    have e17 : mI M4 5 0 17 = nI s := by rw [eM4, pI_place (by decide), e53]; exact hat
    obtain ⟨N, w, n1, n2, n3, n4, n5⟩ := kstep hR4 hI hm h1 hd hin4.1 hk4 hin4.2.1 hin4.2.2.1 hin4.2.2.2.1 (fun z => hin4.2.2.2.2.1 _ z) hsl hstep
    have gN : grp nm jk jv jh S M N := grp_trans (grp_trans g4 (grp_5 (f := 17) (by decide))) (grp_sg n3)
    have nR : ∀ k j f, ¬ (k = 5 ∧ j = 0 ∧ f = 18) → mR N k j f = mR M k j f := fun k j f z => by
      rw [n3.2.2.1 k j f z]
      show mR M4 k j f = _
      rw [mR4]
    have nZ : mZ N = mZ M := gN.2.1
    have n5f : ∀ f, f = 12 ∨ f = 13 ∨ f = 15 → mI N 5 0 f = mI M 5 0 f := fun f hf => by
      rw [n3.2.2.2.2.1 f (by omega) (by omega), pI_place (by omega), eM4, pI_place (by omega), e53]
    have n14 : mI N 5 0 14 = mI M 5 0 14 + 1 := by
      rw [n3.2.2.2.2.1 14 (by decide) (by decide), pI_place (by decide), eM4, pI_same, e53]
    have n17 : mI N 5 0 17 = w := by rw [n3.2.2.2.2.1 17 (by decide) (by decide), pI_same]
    have nk : lk N jp (p s) := by
      unfold lk
      rw [n3.2.2.2.1 2 jp (fun z => absurd z.1 (by decide)) (fun z => absurd z.1 (by decide)) (fun z => absurd z.1 (by decide)), wI_o (fun z => absurd z.1 (by decide))]
      exact hk4
    have hSN : kSt S v K3 W3 N := kSt_k hS4 (fun k j f hk => n3.2.2.1 k j f (fun z => by omega)) n3.2.1 (fun k j hk => by rw [n3.2.2.2.1 k j (fun z => by omega) (fun z => by omega) (fun z => by omega), wI_o (fun z => by omega)]) (fun j => n3.2.2.2.2.2 11 j (fun z => absurd z.1 (by decide)) (fun z => absurd z.1 (by decide)) (by decide))
    -- what FIND gave
    obtain ⟨M6, K6, d1, d2, d3, d4, d5, d6⟩ : ∃ M6 K6, (f_Machine_go_b54 (f_Machine_go_l9 0 fu) 0 M3 (nI y) = f_Machine_go_l9 0 fu M6 (on_ o) (nI (y + 1))) ∧ fr (sP S) N M6 ∧ kSt S v K6 W3 M6 ∧ (mode = 0 → kSt S v (tyK U) (tyM U) M6) ∧ mI M6 5 0 = mI N 5 0 ∧ cRl nm tb kb vb en jk jv jh U M6 := by
      have cR6 : ∀ {M6 : me_M}, fr (sP S) N M6 → cRl nm tb kb vb en jk jv jh U M6 := fun {M6} h => cRl_k n2 h.2.2.1 (fun k j f _ => Or.inl (by rw [h.1])) (fun k j hk => h.2.2.2.1 k j (sP_nk (by omega) (by omega) (by omega))) (by rw [h.2.2.2.1 5 0 (sP_nk (by decide) (by decide) (by decide))]) (by rw [h.2.2.2.1 5 0 (sP_nk (by decide) (by decide) (by decide))]) (fun k j hk => h.2.2.2.2 k j (sP_nk (by omega) (by omega) (by omega)))
      have start : f_Machine_go_b54 (f_Machine_go_l9 0 fu) 0 M3 (nI y) = (if mode = 0 then (if d_fam (p s) = 9 then (if d_field (p s) = 1 then (if (mL N 16 3 0) = 0 then bd (f_Checks_find N 0 (0 : Int32)) (fun (M15 : me_M) => f_Machine_go_l9 0 fu M15 (on_ o) (nI (y + 1))) else bd (f_Checks_find N 0 (1 : Int32)) (fun (M16 : me_M) => f_Machine_go_l9 0 fu M16 (on_ o) (nI (y + 1)))) else f_Machine_go_l9 0 fu N (on_ o) (nI (y + 1))) else f_Machine_go_l9 0 fu N (on_ o) (nI (y + 1))) else f_Machine_go_l9 0 fu N (on_ o) (nI (y + 1))) := by
        unfold f_Machine_go_b54
        have z3' : mZ M3 16 3 = 16 := by rw [g3.2.1]; exact hz4
        rw [st_eq, ← eM4, e17, n1, b2_some, n5f 13 (Or.inr (Or.inl rfl)), a6, nR 5 0 16 (fun z => absurd z.2.2 (by decide)), a1, bd_some, nk.2.2.2.2.2.1, nk.2.2.2.2.1, nR 5 0 3 (fun z => absurd z.2.2 (by decide)), show mR M 5 0 3 = some 0 by rw [← b5.1]; exact r3, bd_some, nR 5 0 6 (fun z => absurd z.2.2 (by decide)), show mR M 5 0 6 = some 3 by rw [← b5.1]; exact r6, bd_some, z3', gd_pos (show 0 < 16 by decide), nI_s]
      by_cases m0 : mode = 0
      · obtain ⟨k3, w3⟩ := c4 m0
        rw [start, if_pos m0]
        by_cases f9 : d_fam (p s) = 9
        · rw [if_pos f9]
          have hh := step_9 f9 hstep
          have ek : K3 = fup (tyK U) 0 1 := by rw [k3]; exact if_pos f9
          rw [ek, w3] at hSN
          have u11 := hSN.2.2.1.1
          by_cases f1 : d_field (p s) = 1
          · have hc0 : ¬ (tyC U 0).1 = 0 := by
              rcases hlp_1 f1 hh with z | ⟨m, i, z⟩ <;> rw [z]
              · exact fun q => absurd (show (1 : Int32) = 0 from q) (by decide)
              · exact fun q => absurd (show (7 : Int32) = 0 from q) (by decide)
            have hr0 : mL N 16 3 0 = rc_ (tyC U 0) := n2.2.1.1 0 (by decide) hc0
            have hfind : ∀ {x : Int32} {y2 : Int32}, (x = if y2 = 0 then 1 else 7) → f_Checks_find N 0 y2 = some (wI N 10 (75 * S + 0 + 1) 0 x) := by
              intro x y2 hx
              unfold f_Checks_find
              rw [hSN.1.2.2.2, bd_some, hSN.2.1.2.1, gd_pos (show 0 < 75 by decide), hSN.2.1.2.2 0 (by decide), bd_some]
              by_cases g : y2 = 0
              · rw [if_pos g] at hx
                rw [if_pos g, st_eq, hx]
              · rw [if_neg g] at hx
                rw [if_neg g, st_eq, hx]
            have fin : ∀ {x : Int32}, x = (tyC U 0).1 → kSt S v (tyK U) (tyM U) (wI N 10 (75 * S + 0 + 1) 0 x) ∧ fr (sP S) N (wI N 10 (75 * S + 0 + 1) 0 x) := by
              intro x hx
              obtain ⟨p1, p2⟩ := kSt_0 (i := 0) (x := x) hSN (by omega)
              refine ⟨kSt_c p1 (fun j hj => ?_) (fun _ _ _ => rfl), p2⟩
              rw [fup_2]
              unfold fup
              by_cases e : j = 0
              · rw [if_pos e, e, hx]
              · rw [if_neg e]
            rw [if_pos f1, hr0]
            rcases hlp_1 f1 hh with z | ⟨m, i, z⟩
            · rw [z, rc_1 _ rfl, if_pos rfl, hfind (x := 1) rfl, bd_some]
              obtain ⟨p1, p2⟩ := fin (x := 1) (by rw [z])
              exact ⟨_, _, rfl, p2, by rw [w3]; exact p1, fun _ => p1, wI_o (fun z => absurd z.1 (by decide)), cR6 p2⟩
            · obtain ⟨i1, i2⟩ := n4 0 (by rw [z])
              rw [z] at i1 i2
              have i1 : m < nm := i1
              have i2 : i < en m := i2
              have hm4 := hm.1
              have he := (hm.2 m i1).2.2
              rw [z, if_neg (nz_7 m (by omega) i (by omega)).1, hfind (x := 7) rfl, bd_some]
              obtain ⟨p1, p2⟩ := fin (x := 7) (by rw [z])
              exact ⟨_, _, rfl, p2, by rw [w3]; exact p1, fun _ => p1, wI_o (fun z => absurd z.1 (by decide)), cR6 p2⟩
          · rw [if_neg f1]
            obtain ⟨t, W9, q1, q2, _⟩ := hlp_f hh
            have t0 : (tyC U 0).1 = 1 := by
              rw [q1]
              exact q2 f1
            have hS2 : kSt S v (tyK U) (tyM U) N := kSt_c hSN (fun j hj => by
              unfold fup
              by_cases e : j = 0
              · rw [if_pos e, e]; exact t0
              · rw [if_neg e]) (fun _ _ _ => rfl)
            exact ⟨N, _, rfl, fr_refl, by rw [w3]; exact hS2, fun _ => hS2, rfl, n2⟩
        · rw [if_neg f9]
          have ek : K3 = tyK U := by rw [k3]; exact if_neg f9
          exact ⟨N, _, rfl, fr_refl, hSN, fun _ => by rw [ek, w3] at hSN; exact hSN, rfl, n2⟩
      · exact ⟨N, _, by rw [start, if_neg m0], fr_refl, hSN, fun z => absurd z m0, rfl, n2⟩
    have g6 : grp nm jk jv jh S M M6 := grp_trans gN (grp_sP d2)
    rw [c1, d1]
    have e6f : ∀ f, f = 12 ∨ f = 13 ∨ f = 15 → mI M6 5 0 f = mI M 5 0 f := fun f hf => by rw [d5]; exact n5f f hf
    rcases hg with ⟨z, hN⟩ | ⟨U2, s1, N1, z, hrun, hN⟩
    · rw [z] at hstep
      have eo := Option.some.inj hstep
      have eU : U = T1 := (congrArg Prod.fst eo).symm
      have eo2 : o = none := (congrArg Prod.snd eo).symm
      subst eU
      rw [eo2]
      obtain ⟨fu, rfl⟩ : ∃ f, fu = f + 1 := ⟨fu - 1, by omega⟩
      have h6 : mR M6 5 0 6 = some 3 := d6.1.1.1.2.2.2.2.2.2.1
      have h16 : mZ M6 16 3 = 16 := d6.1.1.2.1.2.2.2.1
      have hr0 : mL M6 16 3 0 = (tyC U 0).2.1 := by rw [d6.2.1.1 0 (by decide) (by rw [hT1]; decide), rc_1 _ hT1]
      rw [f_Machine_go_l9, if_neg (show ¬ 1000000 ≤ nI (y + 1) from fun z => by have := (nI_lei (a := 1000000) (by decide) (by omega)).mp z; omega), if_pos (show on_ none = 0 from rfl), h6, bd_some, h16, gd_pos (show 0 < 16 by decide), hr0]
      exact ⟨M6, rfl, d6, g6, by rw [d5, n14, hN]; rfl, e6f, v, K6, W3, d3⟩
    · rw [z] at hstep
      have eo := Option.some.inj hstep
      have eU : U = U2 := (congrArg Prod.fst eo).symm
      have eo2 : o = some s1 := (congrArg Prod.snd eo).symm
      subst eU
      rw [eo2]
      have hw := n5 s1 eo2
      have hin6 : kIn jp n p mode M6 := kIn_g ⟨a1, a2, a3, a4, a5, a6⟩ hj g6 (by rw [d2.1]; exact nR 5 0 16 (fun z => absurd z.2.2 (by decide))) (e6f 13 (Or.inr (Or.inl rfl)))
      obtain ⟨M7, x1, x2, x3, x4, x5, x6⟩ := ih U s1 T1 N1 fu (y + 1) v K6 W3 M6 hrun hT1 (by omega) (by omega) d6 n4 d3 d4 hin6 (by rw [d5, n17, hw])
      refine ⟨M7, x1, x2, grp_trans g6 x3, ?_, fun f hf => (x5 f hf).trans (e6f f hf), x6⟩
      rw [x4, d5, n14, hN, Int32.add_assoc, show (1 : Int32) = nI 1 from rfl, nI_add, Nat.add_comm 1 N1]
end HGO
