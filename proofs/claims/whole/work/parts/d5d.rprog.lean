/-! PURE: a program is given: the reference, whole. -/
def cod (r : Int32) : Prop := r = 0 ∨ r = -1 ∨ 0 < r
section HQ
variable {p : Nat → Int64} {n nm B tn : Nat} {mk : Nat → Prop} {kb vb : Int32 → Int32} {R M N : me_M} {X : xT}
theorem end_cod : cod (x_end X).1 := by
  unfold x_end
  by_cases g : xWn X = 0
  · rw [if_pos g]; exact Or.inr (Or.inl rfl)
  · rw [if_neg g]; exact Or.inl rfl
theorem do_cod : cod (x_do p kb vb X).1 := by
  unfold x_do
  by_cases u : s_unr (p (xAt X)) (xNow X)
  · rw [ic_t u]; exact Or.inr (Or.inr (show (0 : Int32) < 10 by decide))
  rw [ic_f u]
  by_cases f8 : d_fam (p (xAt X)) = 8
  · rw [if_pos f8]
    have e := rel_eP (c := p (xAt X)) (σ := xNow X)
    cases o : s_rel (p (xAt X)) (xNow X) with
    | error f => rw [o] at e; exact Or.inr (Or.inr e)
    | ok q =>
      obtain ⟨g, l⟩ := q
      cases g with
      | none =>
        cases l with
        | none => exact end_cod
        | some b => exact Or.inl rfl
      | some a =>
        cases l with
        | none => exact Or.inl rfl
        | some b =>
          show cod (if xWn X = 200 then ((21 : Int32), _) else (0, _)).1
          by_cases w : xWn X = 200
          · rw [if_pos w]; exact Or.inr (Or.inr (show (0 : Int32) < 21 by decide))
          · rw [if_neg w]; exact Or.inl rfl
  · rw [if_neg f8]
    have e := do_eP (c := p (xAt X)) (w := p (xAt X + 1)) (kb := kb) (vb := vb) (σ := xNow X) (d := xIds X)
    cases o : s_do (p (xAt X)) (p (xAt X + 1)) kb vb (xNow X) (xIds X) with
    | error f => rw [o] at e; exact Or.inr (Or.inr e)
    | ok q =>
      show cod (x_go X (p (xAt X)) q.1 q.2).1
      unfold x_go
      by_cases f10 : d_fam (p (xAt X)) = 10
      · rw [if_pos f10]; exact end_cod
      rw [if_neg f10]
      by_cases f7 : d_fam (p (xAt X)) = 7
      · rw [if_pos f7]; exact Or.inl rfl
      rw [if_neg f7]
      by_cases f6 : d_fam (p (xAt X)) = 6
      · rw [if_pos f6]; exact Or.inl rfl
      rw [if_neg f6]
      by_cases f1 : d_fam (p (xAt X)) = 1
      · rw [if_pos f1]; exact Or.inl rfl
      · rw [if_neg f1]; exact Or.inl rfl
theorem step_cod : cod (x_step p kb vb B X).1 := by
  unfold x_step
  by_cases g : B ≤ xVi X
  · rw [if_pos g]; exact Or.inr (Or.inr (show (0 : Int32) < 20 by decide))
  · rw [if_neg g]; exact do_cod
theorem turn_cod : cod (x_turn p mk kb vb B X).1 := by
  unfold x_turn
  by_cases g : mk (xAt X)
  · rw [ic_t g]
    cases o : x_hit X with
    | none => exact step_cod
    | some i =>
      show cod (ic (xKp X i).2.2.1 (19, X) (x_end X)).1
      by_cases w : (xKp X i).2.2.1
      · rw [ic_t w]; exact Or.inr (Or.inr (show (0 : Int32) < 19 by decide))
      · rw [ic_f w]; exact end_cod
  · rw [ic_f g]; exact step_cod
theorem run_cod : ∀ (m : Nat) (X : xT), cod (x_run p mk kb vb B m X).1 := by
  intro m
  induction m with
  | zero => intro X; exact Or.inr (Or.inr (show (0 : Int32) < 20 by decide))
  | succ m ih =>
    intro X
    rw [x_run]
    by_cases g : (x_turn p mk kb vb B X).1 = 0
    · rw [if_pos g]; exact ih _
    · rw [if_neg g]; exact turn_cod
theorem p1_pos {m : Int32} : ∀ (fu y last : Nat), (f_p1 p n m fu y last).1 = 0 ∨ 0 < (f_p1 p n m fu y last).1 := by
  intro fu
  induction fu with
  | zero => intro y last; exact Or.inl rfl
  | succ fu ih =>
    intro y last
    rw [f_p1]
    by_cases e : n ≤ y
    · rw [if_pos e]; exact Or.inl rfl
    rw [if_neg e]
    by_cases f : f_flt (p y) (p (y + 1)) (y + 1 < n) m = 0
    · rw [if_pos f]; exact ih _ _
    · rw [if_neg f]; exact Or.inr (flt_pos f)
theorem p2_pos : ∀ (fu y : Nat), (f_p2 p n fu y).1 = 0 ∨ 0 < (f_p2 p n fu y).1 := by
  intro fu
  induction fu with
  | zero => intro y; exact Or.inl rfl
  | succ fu ih =>
    intro y
    rw [f_p2]
    by_cases e : n ≤ y
    · rw [if_pos e]; exact Or.inl rfl
    rw [if_neg e]
    by_cases f : f_jmp p y ∧ ¬ f_tok p n y
    · rw [ic_t f]; exact Or.inr (show (0 : Int32) < 5 by decide)
    · rw [ic_f f]; exact ih _
theorem form_pos {m : Int32} : (f_form p n m).1 = 0 ∨ 0 < (f_form p n m).1 := by
  unfold f_form
  by_cases a : (f_p1 p n m (n + 1) 0 0).1 = 0
  · rw [if_pos a]
    by_cases b : (f_p2 p n (n + 1) 0).1 = 0
    · rw [if_pos b]
      split
      · exact Or.inl rfl
      · exact Or.inr (show (0 : Int32) < 6 by decide)
    · rw [if_neg b]; exact p2_pos _ _
  · rw [if_neg a]; exact p1_pos _ _ _
theorem rprogram (hR : ps_M R) (hk : kv R) (hs : rst R nm kb vb) (hm : mI R 1 0 3 = nI nm) (hkb : kbO nm kb vb) (h1 : 1 ≤ n) (hn : n ≤ 2000) (hB1 : 1 ≤ B) (hB : B ≤ 20000) (ht : mI R 1 0 2 = nI tn) (htn : 8 * n ≤ tn) (ht2 : tn ≤ 65536) (hp : ∀ s, s < n → p s = w_ld (mI R 14 0) s) : ∃ R1, f_M_program R 0 (nI n) (nI B) = some (R1, (g_pr p n nm kb vb B).1) ∧ ps_M R1 ∧ kv R1 ∧ gP R R1 ∧ mI R1 1 0 0 = 0 ∧ mI R1 1 0 2 = 0 ∧ mI R1 1 0 4 = (if (g_pr p n nm kb vb B).1 = 0 then 1 else mI R 1 0 4) ∧ rPr p n (g_pr p n nm kb vb B) R1 := by
  unfold f_M_program f_M_program_b40
  have in1 : f_M_in (nI n).toInt64 1 2000 = some 1 := by
    have := in_i (v := nI n) (a := 1) (b := 2000)
    rw [b1_t ⟨fun z => by have := (nI_lti (b := 1) (by omega) (by decide)).mp z; omega, fun z => by have := (nI_lti (a := 2000) (by decide) (by omega)).mp z; omega⟩] at this
    exact this
  have in2 : f_M_in (nI B).toInt64 1 20000 = some 1 := by
    have := in_i (v := nI B) (a := 1) (b := 20000)
    rw [b1_t ⟨fun z => by have := (nI_lti (b := 1) (by omega) (by decide)).mp z; omega, fun z => by have := (nI_lti (a := 20000) (by decide) (by omega)).mp z; omega⟩] at this
    exact this
  rw [in1, bd_some, if_neg (by decide), ht, show (8 : Int32) * nI n = nI (8 * n) by rw [show (8 : Int32) = nI 8 from rfl, mul_nI], if_neg (show ¬ nI tn < nI (8 * n) from fun z => by have := (nI_lti (by omega) (by omega)).mp z; omega), in2, bd_some, if_neg (by decide), if_neg (by decide), st_eq]
  obtain ⟨A0, hA0⟩ : ∃ A, A = wI R 1 0 0 0 := ⟨_, rfl⟩
  rw [← hA0]
  have p0 : ps_M A0 := by rw [hA0]; exact ps_W hR
  have k0 : kv A0 := by rw [hA0]; exact kv_w n1 hk
  have g0 : gP R A0 := by rw [hA0]; exact gP_1 (Or.inl rfl)
  have i0 : ∀ f, ¬ f = 0 → mI A0 1 0 f = mI R 1 0 f := fun f hf => by rw [hA0, pI_place hf]
  have t0 : mI A0 14 0 = mI R 14 0 := by funext q; rw [hA0, wI_j (by decide)]
  have a00 : mI A0 1 0 0 = 0 := by rw [hA0, pI_same]
  obtain ⟨A1, q1, q2, q3⟩ := rld_l (M := A0) (x2 := nI B) hn p0 n 0 fuel A0 (by omega) (by unfold fuel; omega) gf_refl (fun t ht => by omega)
  rw [show f_M_program_l57 0 (nI n) (nI B) fuel A0 1 (0 : Int32) = _ from q1]
  rw [t0] at q3
  have i1 : ∀ k j f, mI A1 k j f = mI A0 k j f := fun k j f => q2.2.2.2.1 k j f (fun z => z)
  unfold f_M_program_b126
  rw [st_eq, if_neg (by decide), st_eq, st_eq]
  obtain ⟨A2, hA2⟩ : ∃ A, A = wI (wI (wI A1 1 0 2 0) 1 0 18 1) 1 0 19 0 := ⟨_, rfl⟩
  rw [← hA2]
  have g1 : gP A0 A2 := by
    rw [hA2]
    exact gf_trans (gf_mono q2 (fun _ _ _ z => z.elim) (fun k j f z => ⟨z.1, by have := z.2; omega, by have := z.2; omega⟩)) (gf_trans (gP_1 (by omega)) (gf_trans (gP_1 (by omega)) (gP_1 (by omega))))
  have p2 : ps_M A2 := gf_ps g1 p0
  have i2 : ∀ f, ¬ f = 0 → ¬ f = 2 → ¬ f = 18 → ¬ f = 19 → mI A2 1 0 f = mI R 1 0 f := fun f a b c d => by rw [hA2, pI_place d, pI_place c, pI_place b, i1, i0 f a]
  have o2 : ∀ k j f, ¬ k = 1 → mI A2 k j f = mI R k j f := fun k j f hk2 => by rw [hA2, wI_j (fun z => hk2 z.1), wI_j (fun z => hk2 z.1), wI_j (fun z => hk2 z.1), i1, hA0, wI_j (fun z => hk2 z.1)]
  have l2 : ∀ s, s < n → mL A2 16 0 s = p s := fun s hs2 => by rw [hA2, pL_I, pL_I, pL_I, q3 s hs2, hp s hs2]
  have k2 : kv A2 := kv_eq k0 (fun q => by rw [o2 14 8 q (by decide), hA0, wI_j (by decide)])
  have a2 : mI A2 1 0 2 = 0 := by rw [hA2, pI_place (by decide), pI_place (by decide), pI_same]
  have a20 : mI A2 1 0 0 = 0 := by rw [hA2, pI_place (by decide), pI_place (by decide), pI_place (by decide), i1, a00]
  have a18 : mI A2 1 0 18 = 1 := by rw [hA2, pI_place (by decide), pI_same]
  have a19 : mI A2 1 0 19 = 0 := by rw [hA2, pI_same]
  -- forgotten
  obtain ⟨A3, r1, r2, r3, r4, r5, r6, r7, r8, r9⟩ := rforget hn p2
  rw [r1, bd_some]
  have p3 := gf_ps r2 p2
  have i3 : ∀ f, ¬ (f = 22 ∨ f = 23 ∨ f = 24 ∨ f = 25 ∨ f = 26 ∨ f = 62) → mI A3 1 0 f = mI A2 1 0 f := fun f hf => r2.2.2.2.1 1 0 f (by
    rintro (z | z | z)
    · omega
    · omega
    · exact hf z.2.2)
  have g3 : gP A2 A3 := gf_mono r2 (fun k j f z => by
    rcases z with z | z | z
    · exact Or.inr (Or.inl ⟨z.1, by omega⟩)
    · exact Or.inr (Or.inr (Or.inl ⟨z.1, by omega⟩))
    · exact Or.inr (Or.inr (Or.inr ⟨z.1, z.2.1, by have := z.2.2; omega⟩))) (fun k j f z => ⟨z.1, by have := z.2; omega, by have := z.2; omega⟩)
  have k3 : kv A3 := gP_kv r2 (fun f => by rintro (z | z | z) <;> omega) k2
  have l3 : ∀ s, s < n → mL A3 16 0 s = p s := fun s hs2 => by rw [r2.2.2.2.2 16 0 s (by rintro ⟨_, z⟩; omega)]; exact l2 s hs2
  have m3 : mI A3 1 0 3 = nI nm := by rw [i3 3 (by decide), i2 3 (by decide) (by decide) (by decide) (by decide)]; exact hm
  -- the form
  obtain ⟨A4, v1, v2, v3, v4⟩ := rform hn (by omega) hs.1 p3 m3 l3
  rw [v1, b2_some, st_eq]
  have w12 : gf (fun k j f => fA k j f ∨ (k = 1 ∧ j = 0 ∧ f = 12)) nL A3 A4 := gf_trans (gf_I (Or.inr ⟨rfl, rfl, rfl⟩)) (gf_mono v2 (fun _ _ _ z => Or.inl z) (fun _ _ _ z => z))
  have i4 : ∀ f, ¬ f = 12 → ¬ f = 21 → mI A4 1 0 f = mI A3 1 0 f := fun f a b => w12.2.2.2.1 1 0 f (by
    rintro ((z | z) | z)
    · exact b z.2.2
    · exact absurd z.1 (by decide)
    · exact a z.2.2)
  have a412 : mI A4 1 0 12 = nI n := by rw [v2.2.2.2.1 1 0 12 (by rintro (z | z) <;> omega), pI_same]
  have p4 := gf_ps w12 p3
  have k4 : kv A4 := gP_kv w12 (fun f => by rintro ((z | z) | z) <;> omega) k3
  have g4 : gP A3 A4 := gf_mono w12 (fun k j f z => by
    rcases z with (z | z) | z
    · exact Or.inr (Or.inr (Or.inr ⟨z.1, z.2.1, by omega⟩))
    · exact Or.inr (Or.inr (Or.inl ⟨z.1, by omega⟩))
    · exact Or.inr (Or.inr (Or.inr ⟨z.1, z.2.1, by omega⟩))) (fun _ _ _ z => z.elim)
  have l4 : ∀ s, s < n → mL A4 16 0 s = p s := fun s hs2 => by rw [w12.2.2.2.2 16 0 s (fun z => z)]; exact l3 s hs2
  have fa4 : rFac n A4 (xFa x_0) := rFac_g w12 (fun f => ⟨by rintro ((z | z) | z) <;> omega, by rintro ((z | z) | z) <;> omega, by rintro ((z | z) | z) <;> omega, by rintro ((z | z) | z) <;> omega, fun z => z⟩) r3
  obtain ⟨A5, hA5⟩ : ∃ A, A = wI A4 1 0 20 (f_form p n (nI nm)).1 := ⟨_, rfl⟩
  rw [← hA5]
  have p5 : ps_M A5 := by rw [hA5]; exact ps_W p4
  have k5 : kv A5 := by rw [hA5]; exact kv_w n1 k4
  have g5 : gP A4 A5 := by rw [hA5]; exact gP_1 (by omega)
  have gR5 : gP R A5 := gf_trans g0 (gf_trans g1 (gf_trans g3 (gf_trans g4 g5)))
  have i5 : ∀ f, ¬ f = 20 → mI A5 1 0 f = mI A4 1 0 f := fun f hf => by rw [hA5, pI_place hf]
  have a520 : mI A5 1 0 20 = (f_form p n (nI nm)).1 := by rw [hA5, pI_same]
  have l5 : ∀ s, s < n → mL A5 16 0 s = p s := fun s hs2 => by rw [hA5, pL_I]; exact l4 s hs2
  have fa5 : rFac n A5 (xFa x_0) := by rw [hA5]; exact fac_1 fa4
  have old : ∀ f, ¬ f = 0 → ¬ f = 2 → ¬ f = 18 → ¬ f = 19 → ¬ (f = 22 ∨ f = 23 ∨ f = 24 ∨ f = 25 ∨ f = 26 ∨ f = 62) → ¬ f = 12 → ¬ f = 21 → ¬ f = 20 → mI A5 1 0 f = mI R 1 0 f := fun f a b c d e f1 f2 f3 => by rw [i5 f f3, i4 f f1 f2, i3 f e, i2 f a b c d]
  have a50 : mI A5 1 0 0 = 0 := by rw [i5 0 (by decide), i4 0 (by decide) (by decide), i3 0 (by decide), a20]
  have a52 : mI A5 1 0 2 = 0 := by rw [i5 2 (by decide), i4 2 (by decide) (by decide), i3 2 (by decide), a2]
  have a518 : mI A5 1 0 18 = 1 := by rw [i5 18 (by decide), i4 18 (by decide) (by decide), i3 18 (by decide), a18]
  have a519 : mI A5 1 0 19 = 0 := by rw [i5 19 (by decide), i4 19 (by decide) (by decide), i3 19 (by decide), a19]
  have a512 : mI A5 1 0 12 = nI n := by rw [i5 12 (by decide), a412]
  have z5 : mI A5 1 0 22 = 0 ∧ mI A5 1 0 23 = 0 ∧ mI A5 1 0 24 = 0 ∧ mI A5 1 0 25 = 0 ∧ mI A5 1 0 62 = 0 := by
    rw [i5 22 (by decide), i5 23 (by decide), i5 24 (by decide), i5 25 (by decide), i5 62 (by decide), i4 22 (by decide) (by decide), i4 23 (by decide) (by decide), i4 24 (by decide) (by decide), i4 25 (by decide) (by decide), i4 62 (by decide) (by decide)]
    exact ⟨r4, r5, r6, r7, r8⟩
  have a526 : mI A5 1 0 26 = 0 := by rw [i5 26 (by decide), i4 26 (by decide) (by decide)]; exact r9
  have a54 : mI A5 1 0 4 = mI R 1 0 4 := old 4 (by decide) (by decide) (by decide) (by decide) (by decide) (by decide) (by decide) (by decide)
  rw [a520]
  unfold g_pr
  by_cases ff : (f_form p n (nI nm)).1 = 0
  · rw [if_pos ff, if_pos ff]
    obtain ⟨sec4, mk4⟩ := v4 ff
    have pf := form_pF h1 hn hs.1 ff
    have st5 : rst A5 nm kb vb := ⟨hs.1, fun m hm2 => by
      have e : ∀ j, j < 4 → mI A5 13 j m = mI R 13 j m := fun j hj => gR5.2.2.2.1 13 j m (by
        rintro (z | z | z | z) <;> omega)
      rw [e 1 (by decide), e 2 (by decide)]
      exact hs.2 m hm2⟩
    have Q5 : rQ p n (f_mk p n) nm kb vb A5 := ⟨p5, k5, st5, hn, l5, fun s hs2 => by rw [hA5, wI_j (by decide)]; exact mk4 s hs2⟩
    obtain ⟨A6, u1, u2, u3, u4, u5⟩ := rexplore pf hkb hB Q5 z5 fa5
    rw [u1, b2_some, st_eq]
    obtain ⟨Y, hY⟩ : ∃ Y, Y = x_all p (f_mk p n) kb vb B := ⟨_, rfl⟩
    rw [← hY] at u1 u4 u5 ⊢
    have ne := run_ends (p := p) (mk := f_mk p n) (kb := kb) (vb := vb) (B := B) pf (2 * B + 1) x_0 (x0_ok pf) (by unfold x_left; show 2 * (B - 0) + 0 + 1 ≤ _; omega)
    have cd := run_cod (p := p) (mk := f_mk p n) (kb := kb) (vb := vb) (B := B) (2 * B + 1) x_0
    have ne0 : ¬ Y.1 = 0 := by rw [hY]; exact ne
    have cd0 : cod Y.1 := by rw [hY]; exact cd
    have i6 : ∀ f, ¬ (f = 21 ∨ f = 22 ∨ f = 23 ∨ f = 24 ∨ f = 25 ∨ f = 59 ∨ f = 62 ∨ f = 65 ∨ f = 68 ∨ f = 69 ∨ f = 70) → mI A6 1 0 f = mI A5 1 0 f := fun f hf => u2.2.2.2.1 1 0 f (by
      rintro ((z | z | z | z) | z)
      · rcases z with z | z <;> omega
      · omega
      · omega
      · have := z.2.2; omega
      · omega)
    have g6 : gP A5 A6 := gf_mono u2 (fun k j f z => by
      rcases z with (z | z | z | z) | z
      · rcases z with z | z
        · exact Or.inl z
        · exact Or.inr (Or.inl ⟨z.1, by omega⟩)
      · exact Or.inr (Or.inl ⟨z.1, by omega⟩)
      · exact Or.inr (Or.inr (Or.inl ⟨z.1, by omega⟩))
      · exact Or.inr (Or.inr (Or.inr ⟨z.1, z.2.1, by have := z.2.2; omega⟩))
      · exact Or.inr (Or.inr (Or.inr ⟨z.1, z.2.1, by omega⟩))) (fun k j f z => ⟨z.1, by have := z.2; omega, by have := z.2; omega⟩)
    have p6 := gf_ps u2 p5
    have l6 : ∀ s, s < n → mL A6 16 0 s = p s := fun s hs2 => by rw [u2.2.2.2.2 16 0 s (by rintro ⟨_, z⟩; omega)]; exact l5 s hs2
    have sec6 : ∀ t, t < n → mI A6 15 3 t = b1 (f_sec p t) := fun t ht2 => by
      rw [u2.2.2.2.1 15 3 t (by
        rintro ((z | z | z | z) | z)
        · rcases z with z | z <;> omega
        · omega
        · omega
        · omega
        · omega), hA5, wI_j (by decide)]
      exact sec4 t ht2
    have fin : ∀ (f s : Int32), (f = 0 ∨ 0 < f) → (¬ f = 0 → mI A6 1 0 21 = s) → (f = 0 → s = -1) → ∃ R1, f_M_program_b177 0 (nI n) (wI A6 1 0 20 f) = some (R1, f) ∧ ps_M R1 ∧ kv R1 ∧ gP R R1 ∧ mI R1 1 0 0 = 0 ∧ mI R1 1 0 2 = 0 ∧ mI R1 1 0 4 = (if f = 0 then 1 else mI R 1 0 4) ∧ rPr p n (f, s, Y.2) R1 := by
      intro f s hf h21 h22
      have nu := u4.1
      obtain ⟨R1, y1, y2, y3, y4, y5, y6, y7, y8⟩ := rpr_end (X := Y.2) (f := f) (fs := s) (M := wI A6 1 0 20 f) (p := p) (nm := nm) hn hf (ps_W p6) (kv_w n1 u3) pI_same (fun z => by rw [pI_place (by decide)]; exact h21 z) h22 (by rw [pI_place (by decide), i6 18 (by decide)]; exact a518) (by rw [pI_place (by decide), i6 19 (by decide)]; exact a519) ⟨by rw [pI_place (by decide)]; exact nu.1, by rw [pI_place (by decide)]; exact nu.2.2.1, by rw [pI_place (by decide)]; exact nu.2.2.2.1, by rw [pI_place (by decide)]; exact nu.2.2.2.2⟩ (fac_1 u4.2) (by rw [pI_place (by decide), i6 12 (by decide)]; exact a512) (fun s hs2 => by rw [pL_I]; exact l6 s hs2) (by rw [pI_place (by decide), i6 26 (by decide)]; exact a526) (fun _ => ⟨pf, fun t ht2 => by rw [wI_j (by decide)]; exact sec6 t ht2⟩)
      refine ⟨R1, y1, y2, y3, gf_trans gR5 (gf_trans g6 (gf_trans (gP_1 (by omega)) y4)), ?_, ?_, ?_, y8⟩
      · rw [y5, pI_place (by decide), i6 0 (by decide), a50]
      · rw [y6, pI_place (by decide), i6 2 (by decide), a52]
      · rw [y7, pI_place (by decide), i6 4 (by decide), a54]
    by_cases acc : Y.1 = -1
    · rw [if_pos acc, if_pos acc]
      exact fin 0 (-1) (Or.inl rfl) (fun z => absurd rfl z) (fun _ => rfl)
    · rw [if_neg acc, if_neg acc]
      exact fin Y.1 _ (by
        rcases cd0 with z | z | z
        · exact absurd z ne0
        · exact absurd z acc
        · exact Or.inr z) (fun _ => u5 acc) (fun z => absurd z ne0)
  · rw [if_neg ff, if_neg ff]
    obtain ⟨R1, y1, y2, y3, y4, y5, y6, y7, y8⟩ := rpr_end (X := x_0) (f := (f_form p n (nI nm)).1) (fs := nI (f_form p n (nI nm)).2) (M := A5) (p := p) (nm := nm) hn form_pos p5 k5 a520 (fun _ => by rw [i5 21 (by decide)]; exact v3 ff) (fun z => absurd z ff) a518 a519 ⟨z5.2.1, z5.1, z5.2.2.1, z5.2.2.2.1⟩ fa5 a512 l5 a526 (fun z => absurd z ff)
    refine ⟨R1, y1, y2, y3, gf_trans gR5 y4, ?_, ?_, ?_, y8⟩
    · rw [y5, a50]
    · rw [y6, a52]
    · rw [y7, a54]
end HQ
