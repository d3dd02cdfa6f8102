/-! PURE: slots that a run comes to are well made, in the program and in the shorter one. -/
def gsl (q : Nat → Int64) (n nm : Nat) (s : Nat) : Prop := s < n ∧ n ≤ 2000 ∧ ¬ d_fam (q s) = 0 ∧ d_ti (q s) < 11 ∧ d_fi (q s) < 11 ∧ (d_fam (q s) = 1 → s + 1 < n ∧ (d_from (q s) = 0 ∨ d_from (q s) = 1) ∧ (¬ d_from (q s) = 0 → ∃ m, m < nm ∧ d_field (q s) = nI m)) ∧ ((d_fam (q s) = 7 ∨ d_fam (q s) = 8) → nI s + 1 + d_off (q s) = nI (d_tg (q s) s)) ∧ (d_fam (q s) = 9 → d_field (q s) = 1 ∨ d_field (q s) = 2 ∨ d_field (q s) = 3 ∨ d_field (q s) = 4 ∨ d_field (q s) = 5 ∨ d_field (q s) = 6) ∧ (d_fam (q s) = 6 → d_opn (q s) = 13 ∨ d_opn (q s) = 14 → f_64 (q s))
def pSw (p : Nat → Int64) (n : Nat) (sec : Nat → Prop) : Prop := ∀ s, s < n → ¬ sec s → d_fam (p s) = 6 → d_opn (p s) = 13 ∨ d_opn (p s) = 14 → f_64 (p s)
/-- a run of k steps at most, from s on: its end, how many steps it took -/
noncomputable def gRun (q : Nat → Int64) (n nm : Nat) (tb : Nat → Prop) (kb vb : Int32 → Int32) (en : Nat → Nat) : Nat → tyT → Nat → tyT → Nat → Prop
  | 0, _, _, _, _ => False
  | k + 1, T, s, T1, N => gsl q n nm s ∧ ((ty_step q nm tb kb vb en T s = some (T1, none) ∧ N = 1) ∨ ∃ U s1 N1, ty_step q nm tb kb vb en T s = some (U, some s1) ∧ gRun q n nm tb kb vb en k U s1 T1 N1 ∧ N = N1 + 1)
section GSL
variable {p q : Nat → Int64} {n nm s : Nat} {tb : Nat → Prop} {en : Nat → Nat} {kb vb : Int32 → Int32} {F : xF} {σ : sT} {T : tyT} {nu : Int32 → Int64} {mu : Int32 → Prop} {c : Int64}
theorem pF_gsl {sec : Nat → Prop} (hp : pF p n sec nm) (hw : pSw p n sec) (h1 : s < n) (h2 : ¬ sec s) : gsl p n nm s := by
  obtain ⟨k0, k1, k2, k3, k4, k5, k6⟩ := hp.2.2.2 s h1 h2
  exact ⟨h1, hp.1, k0, k1, k2, fun z => ⟨by have := (k3 z).1; omega, (k3 z).2.2⟩, fun z => (k4 z).2.2, k6, hw s h1 h2⟩
theorem jmp_to : d_to (5 ||| (c &&& 4294901760)) = 0 := by
  rw [show (0 : Int32) = d_to 5 by decide]
  refine to_bits (fun i hi => ?_)
  rw [bt_or, bt_and, mhi (8 + i) (by omega), decide_eq_false (show ¬ (16 ≤ 8 + i ∧ 8 + i < 32) by omega), Bool.and_false, Bool.or_false]
theorem jmp_from : d_from (5 ||| (c &&& 4294901760)) = 0 := by
  rw [show (0 : Int32) = d_from 5 by decide]
  refine from_bits (fun i hi => ?_)
  rw [bt_or, bt_and, mhi (12 + i) (by omega), decide_eq_false (show ¬ (16 ≤ 12 + i ∧ 12 + i < 32) by omega), Bool.and_false, Bool.or_false]
theorem mv_from {x : Int64} : d_from (z_mv c x) = 0 := by
  rw [show (0 : Int32) = d_from 0 by decide]
  refine from_bits (fun i hi => ?_)
  have m : ∀ i, i < 4 → bt 183 (12 + i) = false := by decide
  have z : ∀ i, i < 4 → bt 0 (12 + i) = false := by decide
  rw [mv_bt (by omega), to_bt (by omega), m i hi, z i hi, decide_eq_false (show ¬ 12 + i - 8 < 4 by omega), decide_eq_false (show ¬ 32 ≤ 12 + i by omega), Bool.false_and, Bool.false_and, Bool.and_false]
  rfl
theorem zo_nx {a b : Nat} (ha : a < 2001) (hb : b < 2001) : nI a + 1 + d_off (z_off c (nI b - nI a - 1)) = nI b := by
  rw [zo_off]
  have ea : (nI a).toInt = a := nI_int (by omega)
  have eb : (nI b).toInt = b := nI_int (by omega)
  have e1 : (nI b - nI a - 1).toInt = (b : Int) - a - 1 := by
    rw [Int32.toInt_sub, Int32.toInt_sub, ea, eb, show (1 : Int32).toInt = 1 from rfl, Int.bmod_def, Int.bmod_def]
    repeat' split
    all_goals omega
  have e2 : (nI b - nI a - 1).toInt16.toInt32 = nI b - nI a - 1 := Int32.toInt_inj.mp (by
    rw [Int16.toInt_toInt32, Int32.toInt_toInt16, e1, Int.bmod_def]
    split <;> omega)
  rw [e2]
  exact Int32.toInt_inj.mp (by
    rw [add_b (by rw [add_b (by omega) (by omega) (by decide) (by decide), ea]; show -1000000 ≤ (a : Int) + 1; omega) (by rw [add_b (by omega) (by omega) (by decide) (by decide), ea]; show (a : Int) + 1 ≤ 1000000; omega) (by omega) (by omega), add_b (by omega) (by omega) (by decide) (by decide), e1, ea, eb, show (1 : Int32).toInt = 1 from rfl]
    omega)
theorem bc_ti (h : d_ti (p s) < 11) (g : d_fi (p s) < 11) : d_ti (z_bc p F s) < 11 ∧ d_fi (z_bc p F s) < 11 := by
  unfold z_bc
  by_cases a : ¬ f_sec p s ∧ d_fam (p s) = 8 ∧ F.2.1 s ∧ ¬ F.2.2.1 s
  · rw [ic_t a]
    unfold d_ti d_fi
    rw [jmp_to, jmp_from]
    decide
  · rw [ic_f a]
    by_cases b : ¬ f_sec p s ∧ d_fam (p s) = 6 ∧ F.2.2.2.1 s = 1 ∧ F.2.2.2.2 s = (F.2.2.2.2 s).toInt32.toInt64
    · rw [ic_t b]
      refine ⟨by rw [mv_ti]; exact h, ?_⟩
      unfold d_fi
      rw [mv_from]
      decide
    · rw [ic_f b]
      exact ⟨h, g⟩
theorem q_gsl (hp : pF p n (f_sec p) nm) (hsw : pSw p n (f_sec p)) (hq : ∀ t, t < n → z_S p F n t → q (z_np p F n t) = z_wd p F n t) (h1 : s < n) (h2 : ¬ f_sec p s) (K : z_S p F n s) : gsl q (z_np p F n n) nm (z_np p F n s) := by
  obtain ⟨k0, k1, k2, k3, k4, k5, k6⟩ := hp.2.2.2 s h1 h2
  have hn := hp.1
  have nle := np_le (p := p) (F := F) (n := n) (s := n)
  have sle := np_le (p := p) (F := F) (n := n) (s := s)
  obtain ⟨b1, b2⟩ := bc_ti (F := F) k1 k2
  have hw := hq s h1 K
  unfold z_wd at hw
  by_cases f78 : d_fam (z_bc p F s) = 7 ∨ d_fam (z_bc p F s) = 8
  · rw [ic_t ⟨h2, f78⟩] at hw
    obtain ⟨a1, a2⟩ := bc_78 f78
    have tz : z_t p F s = d_tg (p s) s := by
      unfold z_t d_tg
      rw [a2]
    obtain ⟨t1, t2, t3⟩ := k4 a1
    rw [tz] at hw
    have np2 := np_le (p := p) (F := F) (n := n) (s := d_tg (p s) s)
    have ff : d_fam (q (z_np p F n s)) = d_fam (z_bc p F s) := by rw [hw, zo_fam]
    unfold gsl
    rw [ff]
    refine ⟨np_lt h1 K, by omega, ?_, by rw [hw, zo_ti]; exact b1, by rw [hw, zo_fi]; exact b2, fun z => ?_, fun _ => ?_, fun z => ?_, fun z => ?_⟩
    · intro z
      rw [z] at f78
      exact absurd f78 (by decide)
    · rw [z] at f78
      exact absurd f78 (by decide)
    · rw [hw, zo_nx (by omega) (by omega), zo_tg (by omega) (by omega)]
    · rw [z] at f78
      exact absurd f78 (by decide)
    · rw [z] at f78
      exact absurd f78 (by decide)
  · rw [ic_f (fun z => f78 z.2)] at hw
    by_cases mv : d_fam (p s) = 6 ∧ F.2.2.2.1 s = 1 ∧ F.2.2.2.2 s = (F.2.2.2.2 s).toInt32.toInt64
    · have hb : z_bc p F s = z_mv (p s) (F.2.2.2.2 s) := by
        unfold z_bc
        rw [ic_f (fun z => absurd (mv.1.symm.trans z.2.1) (by decide)), ic_t ⟨h2, mv⟩]
      have f6 : d_fam (q (z_np p F n s)) = 6 := by rw [hw, hb, mv_fam]
      unfold gsl
      rw [f6, hw]
      exact ⟨np_lt h1 K, by omega, by decide, b1, b2, fun z => absurd z (by decide), fun z => absurd z (by decide), fun z => absurd z (by decide), fun _ z => absurd z (by rw [hb, (mv_kd (c := p s) (x := F.2.2.2.2 s)).1]; decide)⟩
    · by_cases w8 : d_fam (p s) = 8 ∧ F.2.1 s ∧ ¬ F.2.2.1 s
      · have hb : z_bc p F s = 5 ||| (p s &&& 4294901760) := by
          unfold z_bc
          rw [ic_t ⟨h2, w8⟩]
        exact absurd (Or.inl (by rw [hb]; exact jmp_fam)) f78
      have hb : z_bc p F s = p s := by
        unfold z_bc
        rw [ic_f (fun z => w8 z.2), ic_f (fun z => mv z.2)]
      rw [hb] at hw f78
      unfold gsl
      rw [hw]
      refine ⟨np_lt h1 K, by omega, k0, k1, k2, fun z => ⟨?_, (k3 z).2.2⟩, fun z => absurd z f78, k6, hsw s h1 h2⟩
      obtain ⟨sc1, sc2⟩ := sec_2 h2 z
      have s1' : s + 1 < n := by have := (k3 z).1; omega
      have K1 : z_S p F n (s + 1) := by
        have st : z_st p F s := ((z_S_iff hp h1).mp K).1
        rw [z_S_iff hp s1']
        refine ⟨⟨?_, fun z => z.1 sc1⟩, fun z => z.1.1 sc1⟩
        have := st.1
        unfold z_see at this ⊢
        rw [ic_f h2] at this
        rw [ic_t sc1]
        exact this
      have := np_lt (t := n) s1' K1
      rw [np_s K] at this
      exact this
/-- a run of what was accepted, and of the shorter one -/
theorem both_g (hp : pF p n (f_sec p) nm) (hsw : pSw p n (f_sec p)) (hm : mpz nm kb vb en) (hq : ∀ t, t < n → z_S p F n t → q (z_np p F n t) = z_wd p F n t) : ∀ (k : Nat) (σ : sT) (s : Nat) (T : tyT) (nu : Int32 → Int64) (mu : Int32 → Prop), Sf p n (f_sec p) nm kb vb F k σ s → gam nm en σ T nu mu → uZ (tyW T) ≤ 2000 → ∃ T1 N N2, gRun p n nm tb kb vb en k T s T1 N ∧ gRun q (z_np p F n n) nm tb kb vb en k T (z_np p F n s) T1 N2 ∧ N ≤ k ∧ N2 ≤ N ∧ (tyC T1 0).1 = 1 ∧ uZ (tyW T1) = uZ (tyW T) := by
  have more : ∀ (k : Nat) (T : tyT) (s : Nat) (T1 : tyT) (N : Nat), gRun q (z_np p F n n) nm tb kb vb en k T s T1 N → gRun q (z_np p F n n) nm tb kb vb en (k + 1) T s T1 N := by
    intro k
    induction k with
    | zero => intro T s T1 N h; exact h.elim
    | succ k ih =>
      intro T s T1 N h
      refine ⟨h.1, ?_⟩
      rcases h.2 with z | ⟨U, s1, N1, z1, z2, z3⟩
      · exact Or.inl z
      · exact Or.inr ⟨U, s1, N1, z1, ih _ _ _ _ z2, z3⟩
  intro k
  induction k with
  | zero => intro σ s T nu mu h _ _; exact h.elim
  | succ k ih =>
    intro σ s T nu mu hs h hZ
    obtain ⟨x1, x2, _⟩ := step_ok (tb := tb) hp hm hs h hZ
    have gp := pF_gsl hp hsw x1 x2
    rcases step_both (tb := tb) hp hm hq hs h hZ with ⟨T1, a1, a0, a2, a3, a4⟩ | ⟨T1, s1, a1, a2, a3, θ, nu2, mu2, a4, a5⟩
    · exact ⟨T1, 1, 1, ⟨gp, Or.inl ⟨a1, rfl⟩⟩, ⟨q_gsl hp hsw hq x1 x2 a0, Or.inl ⟨a2, rfl⟩⟩, by omega, Nat.le_refl _, a3, a4⟩
    · obtain ⟨T2, N, N2, b1, b2, b3, b4, b5, b6⟩ := ih _ _ _ _ _ a4 a5 (by rw [a3]; exact hZ)
      rcases a2 with ⟨a0, a2⟩ | ⟨e1, e2⟩
      · exact ⟨T2, N + 1, N2 + 1, ⟨gp, Or.inr ⟨_, _, _, a1, b1, rfl⟩⟩, ⟨q_gsl hp hsw hq x1 x2 a0, Or.inr ⟨_, _, _, a2, b2, rfl⟩⟩, by omega, by omega, b5, b6.trans a3⟩
      · subst e1
        rw [e2] at b2
        exact ⟨T2, N + 1, N2, ⟨gp, Or.inr ⟨_, _, _, a1, b1, rfl⟩⟩, more _ _ _ _ _ b2, by omega, by omega, b5, b6⟩
theorem form_pSw (h : (f_form p n (nI nm)).1 = 0) : pSw p n (f_sec p) := by
  unfold f_form at h
  by_cases h1 : (f_p1 p n (nI nm) (n + 1) 0 0).1 = 0
  · obtain ⟨a1, _⟩ := p1_ok (n + 1) 0 0 (by omega) (by omega) (fun z => z) h1
    intro s hs hsec f6 hop
    have sh := flt_1 (a1 s (by omega) hs hsec)
    unfold f_shp at sh
    rw [if_neg (by rw [f6]; decide), if_neg (by rw [f6]; decide), if_neg (by rw [f6]; decide), if_neg (by rw [f6]; decide), if_neg (by rw [f6]; decide), if_pos f6] at sh
    have fs : f_fs (p s) := sh.2.2
    unfold f_fs at fs
    by_cases o14 : d_opn (p s) = 14
    · rw [if_pos o14] at fs; exact fs
    · rw [if_neg o14, if_pos (hop.resolve_right o14)] at fs; exact fs
  · rw [if_neg h1] at h
    exact absurd h h1
end GSL
