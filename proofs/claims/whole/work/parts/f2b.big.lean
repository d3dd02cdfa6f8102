/-! PURE: from where a stretch begins to where it ends. -/
section BG
variable {p : Nat → Int64} {n nm B : Nat} {sec mk : Nat → Prop} {kb vb : Int32 → Int32} {X X' Y : xT} {F F1 : xF} {σ τ : sT} {a b d1 : Nat}
theorem W_J (h : x_J n sec nm B X) (hv : xVi X + 1 ≤ B) (hd : d1 ≤ xVi X + 1) (hw : ∀ i, i < xWn X → s_fr d1 (xWt X i).1) (hF : ∀ s, ∃ c, c ≤ xVi X + 1 ∧ F1.1 s = nI c) (hg : s_gd nm σ) (hf : s_fr d1 σ) (ha : a < n) (hs : ¬ sec a) : x_J n sec nm B (x_W X σ a (nI d1) F1) := by
  obtain ⟨⟨q1, q2, q3, q4, q5, q6, q7, q8, q9⟩, _, hop, _⟩ := h
  exact ⟨⟨ha, hs, hg, q4, q5, q6, hv, q8, q9⟩, ⟨d1, hd, rfl, hf, hw⟩, hop, hF⟩
theorem P_J (h : x_J n sec nm B X) (hv : xVi X + 1 ≤ B) (hd : d1 ≤ xVi X + 1) (hw : ∀ i, i < xWn X → s_fr d1 (xWt X i).1) (hF : ∀ s, ∃ c, c ≤ xVi X + 1 ∧ F1.1 s = nI c) (h200 : ¬ xWn X = 200) (hg : s_gd nm σ) (hf : s_fr d1 σ) (ha : a < n) (hs : ¬ sec a) (hg2 : s_gd nm τ) (hf2 : s_fr d1 τ) (hb : b < n) (hs2 : ¬ sec b) : x_J n sec nm B (x_mv (x_push (x_W X (xNow X) (xAt X) (nI d1) F1) τ b) σ a (nI d1)) := by
  obtain ⟨⟨q1, q2, q3, q4, q5, q6, q7, q8, q9⟩, _, hop, _⟩ := h
  have key : ∀ (Q : xW → Prop), (∀ i, i < xWn X → Q (xWt X i)) → Q (τ, b) → ∀ i, i < xWn X + 1 → Q (fup (xWt X) (xWn X) (τ, b) i) := by
    intro Q h1 h2 i hi
    by_cases e : i = xWn X
    · rw [e, fup_s]; exact h2
    · rw [fup_o e]; exact h1 i (by omega)
  refine ⟨⟨ha, hs, hg, q4, ?_, ?_, hv, ?_, q9⟩, ⟨d1, hd, rfl, hf, ?_⟩, ?_, hF⟩
  · show xWn X + 1 ≤ 200
    omega
  · exact key (fun w => s_gd nm w.1 ∧ w.2 < n ∧ ¬ sec w.2) q6 ⟨hg2, hb, hs2⟩
  · show (if xWn X + 1 ≤ xMw X then xMw X else xWn X + 1) ≤ 200
    split <;> omega
  · exact key (fun w => s_fr d1 w.1) hw hf2
  · intro i hi ho
    show (xKp X i).2.2.2 ≤ xWn X + 1
    have := hop i hi ho
    omega
theorem K_J (h : x_J n sec nm B X) : x_J n sec nm B (x_keep X) := by
  refine ⟨(keep_ok h.1).1, ?_⟩
  obtain ⟨_, hd, hop, hF⟩ := h
  unfold x_keep
  by_cases g : xKn X < 200
  · rw [if_pos g]
    refine ⟨hd, ?_, hF⟩
    intro i hi ho
    have hi2 : i < xKn X + 1 := hi
    have ho2 : (fup (xKp X) (xKn X) (xNow X, xAt X, True, xWn X) i).2.2.1 := ho
    show (fup (xKp X) (xKn X) (xNow X, xAt X, True, xWn X) i).2.2.2 ≤ xWn X
    by_cases e : i = xKn X
    · rw [e, fup_s]; exact Nat.le_refl _
    · rw [fup_o e] at ho2 ⊢
      exact hop i (by omega) ho2
  · rw [if_neg g]
    exact ⟨hd, hop, hF⟩
/-- a path's end -/
theorem E_J (h : x_J n sec nm B X) (hw : 0 < xWn X) : (x_end X).1 = 0 ∧ x_J n sec nm B (x_end X).2 := by
  obtain ⟨⟨q1, q2, q3, q4, q5, q6, q7, q8, q9⟩, ⟨d, dv, di, dn, dw⟩, hop, hF⟩ := h
  unfold x_end
  rw [if_neg (by omega)]
  refine ⟨rfl, ⟨(q6 _ (by omega)).2.1, (q6 _ (by omega)).2.2, (q6 _ (by omega)).1, q4, by show xWn X - 1 ≤ 200; omega, fun i hi => q6 i (by have : i < xWn X - 1 := hi; omega), q7, q8, q9⟩, ⟨d, dv, di, dw _ (by omega), fun i hi => dw i (by have : i < xWn X - 1 := hi; omega)⟩, ?_, hF⟩
  intro i hi ho
  have ho2 : (xKp X i).2.2.1 ∧ (xKp X i).2.2.2 < xWn X := ho
  show (xKp X i).2.2.2 ≤ xWn X - 1
  omega
theorem E_0 (hw : xWn X = 0) : (x_end X).1 = -1 := by
  unfold x_end
  rw [if_pos hw]
theorem E_En : x_En X (x_end X).2 := by
  unfold x_end
  by_cases g : xWn X = 0
  · rw [if_pos g]
    exact ⟨Nat.le_refl _, fun i hi => ⟨rfl, rfl, Iff.rfl, rfl⟩, fun z => by omega⟩
  · rw [if_neg g]
    exact ⟨Nat.le_refl _, fun i hi => ⟨rfl, rfl, Iff.rfl, rfl⟩, fun z => ⟨rfl, rfl, rfl, fun _ _ => rfl⟩⟩
theorem E_vi : xVi (x_end X).2 = xVi X ∧ xFa (x_end X).2 = xFa X ∧ xKn (x_end X).2 = xKn X := by
  unfold x_end
  by_cases g : xWn X = 0
  · rw [if_pos g]; exact ⟨rfl, rfl, rfl⟩
  · rw [if_neg g]; exact ⟨rfl, rfl, rfl⟩
/-- facts grow by turns -/
theorem step_up (hp : pF p n sec nm) (hB : B ≤ 20000) (h : x_J n sec nm B X) (h0 : (x_step p kb vb B X).1 = 0 ∨ (x_step p kb vb B X).1 = -1) : fle (xFa X) (xFa (x_step p kb vb B X).2) ∧ ((x_step p kb vb B X).1 = 0 → x_J n sec nm B (x_step p kb vb B X).2) := by
  obtain ⟨r, hr⟩ : ∃ r, x_step p kb vb B X = r := ⟨_, rfl⟩
  rw [hr] at h0 ⊢
  obtain ⟨hv, F1, d1, a1, a2, a3, a4, c⟩ := step_cases hp hB h hr h0
  rcases c with ⟨σ, c1, c2, c3, c4⟩ | ⟨σ, a, c1, c2, c3, c4, c5, c6⟩ | ⟨σ, a, τ, b, c1, c2, c3, c4, c5, c6, c7, c8, c9, c10, c11⟩
  · have j := W_J h hv a1 a2 a4 c2 c3 h.1.1 h.1.2.1
    rw [c1, E_vi.2.1]
    refine ⟨a3, fun z => ?_⟩
    by_cases w : 0 < xWn X
    · exact (E_J j w).2
    · have := E_0 (X := x_W X σ (xAt X) (nI d1) F1) (show xWn X = 0 by omega)
      rw [this] at z
      exact absurd z (by decide)
  · rw [c1]
    exact ⟨a3, fun _ => W_J h hv a1 a2 a4 c2 c3 c4 c5⟩
  · rw [c1]
    exact ⟨a3, fun _ => P_J h hv a1 a2 a4 c2 c3 c4 c5 c6 c7 c8 c9 c10⟩
theorem keep_fa : xFa (x_keep X) = xFa X := by
  unfold x_keep
  split <;> rfl
theorem turn_up (hp : pF p n sec nm) (hB : B ≤ 20000) (h : x_J n sec nm B X) (h0 : (x_turn p mk kb vb B X).1 = 0 ∨ (x_turn p mk kb vb B X).1 = -1) : fle (xFa X) (xFa (x_turn p mk kb vb B X).2) ∧ ((x_turn p mk kb vb B X).1 = 0 → x_J n sec nm B (x_turn p mk kb vb B X).2) := by
  unfold x_turn at h0 ⊢
  by_cases g : mk (xAt X)
  · rw [ic_t g] at h0 ⊢
    cases o : x_hit X with
    | none =>
      rw [o] at h0
      have := step_up (kb := kb) (vb := vb) hp hB (K_J h) h0
      rw [keep_fa] at this
      exact this
    | some i =>
      rw [o] at h0
      have h1 : (ic (xKp X i).2.2.1 (19, X) (x_end X)).1 = 0 ∨ (ic (xKp X i).2.2.1 (19, X) (x_end X)).1 = -1 := h0
      show fle (xFa X) (xFa (ic (xKp X i).2.2.1 (19, X) (x_end X)).2) ∧ ((ic (xKp X i).2.2.1 (19, X) (x_end X)).1 = 0 → x_J n sec nm B (ic (xKp X i).2.2.1 (19, X) (x_end X)).2)
      by_cases w : (xKp X i).2.2.1
      · rw [ic_t w] at h1
        exact h1.elim (fun z => absurd (show (19 : Int32) = 0 from z) (by decide)) (fun z => absurd (show (19 : Int32) = -1 from z) (by decide))
      · rw [ic_f w, E_vi.2.1]
        refine ⟨fle_refl, fun z => ?_⟩
        by_cases w : 0 < xWn X
        · exact (E_J h w).2
        · have := E_0 (X := X) (show xWn X = 0 by omega)
          rw [this] at z
          exact absurd z (by decide)
  · rw [ic_f g] at h0 ⊢
    exact step_up hp hB h h0
theorem run_up (hp : pF p n sec nm) (hB : B ≤ 20000) : ∀ (m : Nat) (X : xT), x_J n sec nm B X → (x_run p mk kb vb B m X).1 = -1 → fle (xFa X) (xFa (x_run p mk kb vb B m X).2) := by
  intro m
  induction m with
  | zero => intro X _ h; exact absurd (show (20 : Int32) = -1 from h) (by decide)
  | succ m ih =>
    intro X h hr
    rw [x_run] at hr ⊢
    by_cases g : (x_turn p mk kb vb B X).1 = 0
    · rw [if_pos g] at hr ⊢
      obtain ⟨t1, t2⟩ := turn_up (mk := mk) (kb := kb) (vb := vb) hp hB h (Or.inl g)
      exact fle_trans t1 (ih _ (t2 g) hr)
    · rw [if_neg g] at hr ⊢
      exact (turn_up (mk := mk) (kb := kb) (vb := vb) hp hB h (Or.inr hr)).1
/-- what a stretch gives; R the whole's end, m' the fuel left -/
def x_Bg (p : Nat → Int64) (n : Nat) (sec mk : Nat → Prop) (nm B : Nat) (kb vb : Int32 → Int32) (m : Nat) (R : Int32 × xT) (Q : xF → Nat → Prop) (X : xT) : Prop := ∃ X' m' V, m' ≤ m ∧ x_En X X' ∧ (xVi X' = xVi X + V ∧ xVi X' ≤ B) ∧ (0 < xWn X → x_J n sec nm B X' ∧ x_run p mk kb vb B m' X' = R) ∧ (xWn X = 0 → R.2 = X') ∧ ∀ F, fle (xFa R.2) F → ∀ D, x_Cl p n sec nm kb vb F D X → Q F (D + V) ∧ x_Nw p n sec nm kb vb F (D + V) X X'
theorem end_bg {m : Nat} {R : Int32 × xT} {Q : xF → Nat → Prop} {V : Nat} (hJ : x_J n sec nm B Y) (hR : R = if (x_end Y).1 = 0 then x_run p mk kb vb B m (x_end Y).2 else x_end Y) (hk : xKn Y = xKn X) (hp : xKp Y = xKp X) (hn : xWn Y = xWn X) (hw : xWt Y = xWt X) (hv : xVi Y = xVi X + V) (hQ : ∀ F, fle (xFa R.2) F → ∀ D, x_Cl p n sec nm kb vb F D X → Q F (D + V)) : x_Bg p n sec mk nm B kb vb m R Q X := by
  refine ⟨(x_end Y).2, m, V, Nat.le_refl _, ?_, ⟨by rw [E_vi.1, hv], by rw [E_vi.1]; exact hJ.1.2.2.2.2.2.2.1⟩, ?_, ?_, fun F hF D hD => ⟨hQ F hF D hD, fun i h1 h2 => ?_⟩⟩
  · have := E_En (X := Y)
    unfold x_En at this ⊢
    rw [hk, hp, hn, hw] at this
    exact this
  · intro w
    obtain ⟨e1, e2⟩ := E_J hJ (by rw [hn]; exact w)
    refine ⟨e2, ?_⟩
    rw [hR, if_pos e1]
  · intro w
    have e := E_0 (X := Y) (by rw [hn]; exact w)
    rw [hR, if_neg (by rw [e]; decide)]
  · rw [E_vi.2.2, hk] at h2
    omega
theorem step_bg (hp : pF p n sec nm) (hB : B ≤ 20000) {m : Nat} (ih : ∀ m', m' ≤ m → ∀ X, x_J n sec nm B X → (x_run p mk kb vb B m' X).1 = -1 → x_Bg p n sec mk nm B kb vb m' (x_run p mk kb vb B m' X) (fun F k => Cv p n sec nm kb vb F k (xNow X) (xAt X)) X) (h : x_J n sec nm B X) {R : Int32 × xT} (hR : R = if (x_step p kb vb B X).1 = 0 then x_run p mk kb vb B m (x_step p kb vb B X).2 else x_step p kb vb B X) (hR1 : R.1 = -1) : x_Bg p n sec mk nm B kb vb m R (fun F k => Sf p n sec nm kb vb F k (xNow X) (xAt X)) X := by
  obtain ⟨r, hr⟩ : ∃ r, x_step p kb vb B X = r := ⟨_, rfl⟩
  rw [hr] at hR
  have h0 : r.1 = 0 ∨ r.1 = -1 := by
    by_cases g : r.1 = 0
    · exact Or.inl g
    · rw [hR, if_neg g] at hR1
      exact Or.inr hR1
  obtain ⟨hv, F1, d1, a1, a2, a3, a4, c⟩ := step_cases hp hB h hr h0
  rcases c with ⟨σ, c1, c2, c3, c4⟩ | ⟨σ, a, c1, c2, c3, c4, c5, c6⟩ | ⟨σ, a, τ, b, c1, c2, c3, c4, c5, c6, c7, c8, c9, c10, c11⟩
  · have j := W_J h hv a1 a2 a4 c2 c3 h.1.1 h.1.2.1
    rw [c1] at hR
    refine end_bg (Y := x_W X σ (xAt X) (nI d1) F1) (V := 1) j hR rfl rfl rfl rfl rfl ?_
    intro F hF D _
    refine c4 F D (fle_trans ?_ hF)
    by_cases w : 0 < xWn X
    · obtain ⟨e1, e2⟩ := E_J j w
      have hR2 := hR
      rw [if_pos e1] at hR2
      rw [hR2] at hR1 ⊢
      have := run_up (mk := mk) (kb := kb) (vb := vb) hp hB m _ e2 hR1
      rw [E_vi.2.1] at this
      exact this
    · have e := E_0 (X := x_W X σ (xAt X) (nI d1) F1) (show xWn X = 0 by omega)
      rw [hR, if_neg (by rw [e]; decide), E_vi.2.1]
      exact fle_refl
  · have j := W_J h hv a1 a2 a4 c2 c3 c4 c5
    rw [c1, if_pos rfl] at hR
    have hR2 : R = x_run p mk kb vb B m (x_W X σ a (nI d1) F1) := hR
    rw [hR2] at hR1
    have up := run_up (mk := mk) (kb := kb) (vb := vb) hp hB m _ j hR1
    obtain ⟨X', m', V, b1, b2, b3, b4, b5, b6⟩ := ih m (Nat.le_refl _) _ j hR1
    rw [← hR2] at up b4 b5 b6
    refine ⟨X', m', V + 1, b1, b2, ?_, b4, b5, fun F hF D hD => ?_⟩
    · refine ⟨?_, b3.2⟩
      rw [b3.1]
      show xVi X + 1 + V = xVi X + (V + 1)
      omega
    · obtain ⟨e1, e2⟩ := b6 F hF D hD
      refine ⟨c6 F (D + V) (fle_trans up hF) e1, fun i h1 h2 => ⟨(e2 i h1 h2).1, Sf_s _ _ _ (e2 i h1 h2).2⟩⟩
  · have j := P_J h hv a1 a2 a4 c2 c3 c4 c5 c6 c7 c8 c9 c10
    rw [c1, if_pos rfl] at hR
    obtain ⟨Z, hZ⟩ : ∃ Z, Z = x_mv (x_push (x_W X (xNow X) (xAt X) (nI d1) F1) τ b) σ a (nI d1) := ⟨_, rfl⟩
    have hR2 : R = x_run p mk kb vb B m Z := by rw [hZ]; exact hR
    rw [← hZ] at j
    have z1 : xKn Z = xKn X := by rw [hZ]; rfl
    have z2 : xKp Z = xKp X := by rw [hZ]; rfl
    have z3 : xWn Z = xWn X + 1 := by rw [hZ]; rfl
    have z4 : xWt Z = fup (xWt X) (xWn X) (τ, b) := by rw [hZ]; rfl
    have z5 : xVi Z = xVi X + 1 := by rw [hZ]; rfl
    have z6 : xNow Z = σ := by rw [hZ]; rfl
    have z7 : xAt Z = a := by rw [hZ]; rfl
    have z8 : xFa Z = F1 := by rw [hZ]; rfl
    clear hZ
    rw [hR2] at hR1
    have up := run_up (mk := mk) (kb := kb) (vb := vb) hp hB m _ j hR1
    obtain ⟨X2, m2, V1, b1, b2, b3, b4, b5, b6⟩ := ih m (Nat.le_refl _) _ j hR1
    obtain ⟨j2, r2⟩ := b4 (by rw [z3]; omega)
    have hR3 := hR1
    rw [← r2] at hR3
    obtain ⟨X', m', V2, s1, s2, s3, s4, s5, s6⟩ := ih m2 b1 _ j2 hR3
    rw [r2] at s4 s5 s6
    rw [← hR2] at up b6 s4 s5 s6
    obtain ⟨n1, n2, n3⟩ := b2
    obtain ⟨n4, n5, n6, n7⟩ := n3 (by rw [z3]; omega)
    rw [z1] at n1 n2
    rw [z3, show xWn X + 1 - 1 = xWn X by omega] at n4 n5 n6 n7
    rw [z4, fup_s] at n5 n6
    obtain ⟨o1, o2, o3⟩ := s2
    have op2 : ∀ i, i < xKn X → ((xKp X2 i).2.2.1 ↔ (xKp X i).2.2.1) := by
      intro i hi
      have := (n2 i hi).2.2.1
      rw [z2, z3] at this
      exact this.trans ⟨fun z => z.1, fun z => ⟨z, by have := h.2.2.1 i hi z; omega⟩⟩
    refine ⟨X', m', V1 + V2 + 1, by omega, ⟨by omega, ?_, ?_⟩, ?_, ?_, ?_, ?_⟩
    · intro i hi
      obtain ⟨t1, t2, t3, t4⟩ := n2 i hi
      obtain ⟨u1, u2, u3, u4⟩ := o2 i (by omega)
      rw [z2] at t1 t2 t4
      rw [t4, n4, op2 i hi] at u3
      exact ⟨u1.trans t1, u2.trans t2, u3, u4.trans t4⟩
    · intro w
      obtain ⟨v1, v2, v3, v4⟩ := o3 (by rw [n4]; exact w)
      have e := n7 (xWn X - 1) (by omega)
      rw [z4, fup_o (by omega)] at e
      rw [n4] at v1 v2 v3 v4
      rw [e] at v2 v3
      refine ⟨v1, v2, v3, fun k hk => ?_⟩
      have e := n7 k (by omega)
      rw [z4, fup_o (by omega)] at e
      rw [v4 k hk, e]
    · exact ⟨by rw [s3.1, b3.1, z5]; omega, s3.2⟩
    · intro w
      exact s4 (by rw [n4]; exact w)
    · intro w
      exact s5 (by rw [n4]; exact w)
    · intro F hF D hD
      have hD2 : x_Cl p n sec nm kb vb F D Z := by
        intro i hi
        rw [z1] at hi
        rw [z2]
        exact hD i hi
      obtain ⟨e1, e2⟩ := b6 F hF D hD2
      have hD3 : x_Cl p n sec nm kb vb F (D + V1) X2 := by
        intro i hi ho
        by_cases g : i < xKn X
        · obtain ⟨t1, t2, _, _⟩ := n2 i g
          rw [t1, t2, z2]
          exact Sf_le (by omega) (hD i g (fun z => ho ((op2 i g).mpr z)))
        · exact (e2 i (by rw [z1]; omega) hi).2
      obtain ⟨e3, e4⟩ := s6 F hF (D + V1) hD3
      rw [z6, z7] at e1
      rw [n5, n6] at e3
      refine ⟨?_, ?_⟩
      · have := c11 F (D + V1 + V2) (fle_trans (by rw [← z8]; exact up) hF) (Cv_le (by omega) e1) e3
        rw [show D + (V1 + V2 + 1) = D + V1 + V2 + 1 by omega]
        exact this
      · intro i h1 h2
        by_cases g : i < xKn X2
        · obtain ⟨u1, u2, u3, u4⟩ := o2 i g
          obtain ⟨w1, w2⟩ := e2 i (by rw [z1]; exact h1) g
          rw [u1, u2]
          exact ⟨fun z => w1 (u3.mp z).1, Sf_le (by omega) w2⟩
        · obtain ⟨w1, w2⟩ := e4 i (by omega) h2
          exact ⟨w1, Sf_le (by omega) w2⟩
theorem big (hp : pF p n sec nm) (hB : B ≤ 20000) : ∀ (m : Nat), ∀ m', m' ≤ m → ∀ X, x_J n sec nm B X → (x_run p mk kb vb B m' X).1 = -1 → x_Bg p n sec mk nm B kb vb m' (x_run p mk kb vb B m' X) (fun F k => Cv p n sec nm kb vb F k (xNow X) (xAt X)) X := by
  intro m
  induction m with
  | zero =>
    intro m' hm X _ h
    rw [show m' = 0 by omega] at h
    exact absurd (show (20 : Int32) = -1 from h) (by decide)
  | succ m ih =>
    intro m' hm X h hr
    by_cases e : m' ≤ m
    · exact ih m' e X h hr
    have e2 : m' = m + 1 := by omega
    subst e2
    obtain ⟨R, hR⟩ : ∃ R, R = x_run p mk kb vb B (m + 1) X := ⟨_, rfl⟩
    rw [← hR] at hr ⊢
    rw [x_run] at hR
    have wid : ∀ {Q : xF → Nat → Prop} {Y : xT}, x_Bg p n sec mk nm B kb vb m R Q Y → x_Bg p n sec mk nm B kb vb (m + 1) R Q Y := by
      rintro Q Y ⟨X', m', V, g1, g2⟩
      exact ⟨X', m', V, by omega, g2⟩
    unfold x_turn at hR
    by_cases g : mk (xAt X)
    · rw [ic_t g] at hR
      cases o : x_hit X with
      | some i =>
        rw [o] at hR
        have hR2 : R = if (ic (xKp X i).2.2.1 (19, X) (x_end X)).1 = 0 then x_run p mk kb vb B m (ic (xKp X i).2.2.1 (19, X) (x_end X)).2 else ic (xKp X i).2.2.1 (19, X) (x_end X) := hR
        by_cases w : (xKp X i).2.2.1
        · rw [ic_t w, if_neg (show ¬ (19 : Int32) = 0 by decide)] at hR2
          rw [hR2] at hr
          exact absurd (show (19 : Int32) = -1 from hr) (by decide)
        · rw [ic_f w] at hR2
          obtain ⟨⟨i1, i2⟩, i3⟩ := fst_some (P := x_isK X) _ _ _ o
          refine wid (end_bg (V := 0) h hR2 rfl rfl rfl rfl rfl ?_)
          intro F hF D hD
          refine ⟨(xKp X i).1, Or.inr i2, ?_⟩
          rw [← i1]
          exact hD i (by omega) w
      | none =>
        rw [o] at hR
        have hR2 : R = if (x_step p kb vb B (x_keep X)).1 = 0 then x_run p mk kb vb B m (x_step p kb vb B (x_keep X)).2 else x_step p kb vb B (x_keep X) := hR
        obtain ⟨X', m', V, s1, s2, s3, s4, s5, s6⟩ := step_bg (mk := mk) hp hB ih (K_J h) hR2 hr
        by_cases k : xKn X < 200
        · have kp : x_keep X = (xNow X, xAt X, xIds X, xKn X + 1, fup (xKp X) (xKn X) (xNow X, xAt X, True, xWn X), xWn X, xWt X, xVi X, xMw X, xPa X, xFa X) := by
            unfold x_keep
            rw [if_pos k]
          have z1 : xKn (x_keep X) = xKn X + 1 := by rw [kp]
          have z2 : xKp (x_keep X) = fup (xKp X) (xKn X) (xNow X, xAt X, True, xWn X) := by rw [kp]
          have z3 : xWn (x_keep X) = xWn X := by rw [kp]
          have z4 : xWt (x_keep X) = xWt X := by rw [kp]
          have z5 : xVi (x_keep X) = xVi X := by rw [kp]
          have z6 : xNow (x_keep X) = xNow X := by rw [kp]
          have z7 : xAt (x_keep X) = xAt X := by rw [kp]
          clear kp
          obtain ⟨n1, n2, n3⟩ := s2
          rw [z1] at n1 n2
          rw [z2, z3] at n2
          rw [z3, z4] at n3
          rw [z3] at s4 s5
          refine ⟨X', m', V, by omega, ⟨by omega, ?_, n3⟩, by rw [← z5]; exact s3, s4, s5, ?_⟩
          · intro i hi
            have := n2 i (by omega)
            rw [fup_o (by omega)] at this
            exact this
          · intro F hF D hD
            have hD2 : x_Cl p n sec nm kb vb F D (x_keep X) := by
              intro i hi
              rw [z1] at hi
              rw [z2]
              by_cases e : i = xKn X
              · rw [e, fup_s]
                exact fun z => absurd trivial z
              · rw [fup_o e]
                exact hD i (by omega)
            obtain ⟨e1, e2⟩ := s6 F hF D hD2
            rw [z6, z7] at e1
            refine ⟨⟨_, Or.inl rfl, e1⟩, fun i h1 h2 => ?_⟩
            by_cases e : i = xKn X
            · obtain ⟨t1, t2, t3, t4⟩ := n2 i (by omega)
              rw [e, fup_s] at t1 t2 t3
              rw [e, t1, t2]
              exact ⟨fun z => absurd (t3.mp z).2 (Nat.lt_irrefl _), e1⟩
            · exact e2 i (by rw [z1]; omega) h2
        · have kp : x_keep X = X := by
            unfold x_keep
            rw [if_neg k]
          rw [kp] at s2 s3 s4 s5 s6
          exact ⟨X', m', V, by omega, s2, s3, s4, s5, fun F hF D hD => ⟨⟨_, Or.inl rfl, (s6 F hF D hD).1⟩, (s6 F hF D hD).2⟩⟩
    · rw [ic_f g] at hR
      obtain ⟨X', m', V, s1, s2, s3, s4, s5, s6⟩ := step_bg (mk := mk) hp hB ih h hR hr
      exact ⟨X', m', V, by omega, s2, s3, s4, s5, fun F hF D hD => ⟨⟨_, Or.inl rfl, (s6 F hF D hD).1⟩, (s6 F hF D hD).2⟩⟩
/-- what was accepted is safe -/
theorem all_safe (hp : pF p n sec nm) (hB : B ≤ 20000) (h : (x_all p mk kb vb B).1 = -1) : Cv p n sec nm kb vb (xFa (x_all p mk kb vb B).2) (xVi (x_all p mk kb vb B).2) s_first 0 ∧ xVi (x_all p mk kb vb B).2 ≤ B := by
  have j : x_J n sec nm B x_0 := ⟨x0_ok hp, ⟨0, Nat.le_refl _, rfl, first_fr, fun i hi => absurd hi (Nat.not_lt_zero i)⟩, fun i hi => absurd hi (Nat.not_lt_zero i), fun s => ⟨0, Nat.le_refl _, rfl⟩⟩
  obtain ⟨X', m', V, s1, s2, s3, s4, s5, s6⟩ := big (mk := mk) (kb := kb) (vb := vb) hp hB (2 * B + 1) _ (Nat.le_refl _) _ j h
  have e := s5 rfl
  have g := (s6 (xFa (x_all p mk kb vb B).2) fle_refl 0 (fun i hi => absurd hi (Nat.not_lt_zero i))).1
  have e2 : (x_all p mk kb vb B).2 = X' := e
  rw [e2]
  rw [e2] at g
  refine ⟨?_, s3.2⟩
  rw [s3.1]
  exact g
end BG
