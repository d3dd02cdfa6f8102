/-! PURE: a run of the reference. -/
def nx_ : Option Nat → Int32
  | none => -1
  | some s => nI s
/-- what a run leaves alone -/
def rrp (nm : Nat) (en : Nat → Nat) (M N : me_M) : Prop := mR N = mR M ∧ mN N = mN M ∧ mZ N = mZ M ∧ (∀ k j, ¬ (k = 1 ∧ j = 0) → ¬ (k = 14 ∧ (j = 1 ∨ j = 2 ∨ j = 3 ∨ j = 5 ∨ j = 6 ∨ j = 7)) → ¬ (k = 15 ∧ j = 0) → mI N k j = mI M k j) ∧ (∀ f, ¬ (f = 0 ∨ f = 38 ∨ f = 40 ∨ f = 41 ∨ f = 42 ∨ f = 74) → mI N 1 0 f = mI M 1 0 f) ∧ (∀ k j, ¬ (k = 1 ∧ j = 0) → ¬ (k = 16 ∧ (j = 4 ∨ j = 5)) → ¬ k = 14 → ¬ k = 15 → mL N k j = mL M k j) ∧ ∀ x, ¬ (∃ l i, l < nm ∧ i < en l ∧ x = 64 * l + i) → mI N 15 0 x = mI M 15 0 x
section IRR
variable {nm : Nat} {tb : Nat → Prop} {kb vb : Int32 → Int32} {en : Nat → Nat} {T U T1 : tyT} {W : tyU} {M N O : me_M} {c v w a b x y : Int64} {i n m s A r jp k : Nat} {t : tyV} {op nar mode : Int32} {p : Nat → Int64}
theorem rrp_refl : rrp nm en M M := ⟨rfl, rfl, rfl, fun _ _ _ _ _ => rfl, fun _ _ => rfl, fun _ _ _ _ _ _ => rfl, fun _ _ => rfl⟩
theorem rrp_trans (h : rrp nm en M N) (g : rrp nm en N O) : rrp nm en M O := ⟨g.1.trans h.1, g.2.1.trans h.2.1, g.2.2.1.trans h.2.2.1, fun k j a b d => (g.2.2.2.1 k j a b d).trans (h.2.2.2.1 k j a b d), fun f a => (g.2.2.2.2.1 f a).trans (h.2.2.2.2.1 f a), fun k j a b d e => (g.2.2.2.2.2.1 k j a b d e).trans (h.2.2.2.2.2.1 k j a b d e), fun x a => (g.2.2.2.2.2.2 x a).trans (h.2.2.2.2.2.2 x a)⟩
theorem rrp_g (h : rgp nm en M N) : rrp nm en M N := ⟨h.1, h.2.1, h.2.2.1, h.2.2.2.1, fun f hf => h.2.2.2.2.1 f (fun z => hf (Or.inr (Or.inl z))), h.2.2.2.2.2⟩
theorem rrp_I {f : Nat} {x : Int32} (hf : f = 0 ∨ f = 38 ∨ f = 40 ∨ f = 41 ∨ f = 42 ∨ f = 74) : rrp nm en M (wI M 1 0 f x) := ⟨rfl, rfl, rfl, fun k j a _ _ => wI_o a, fun g hg => pI_place (fun z => hg (by rw [z]; exact hf)), fun _ _ _ _ _ _ => rfl, fun x _ => wI_j (fun z => absurd z.1 (by decide))⟩
theorem rRl_I {f : Nat} {x : Int32} (h : rRl nm tb kb vb en T M) (hf : f = 0 ∨ f = 40 ∨ f = 41 ∨ f = 42 ∨ f = 74) : rRl nm tb kb vb en T (wI M 1 0 f x) := by
  obtain ⟨h1, h2, h3, h4⟩ := h
  have e : ∀ k j, ¬ k = 1 → mI (wI M 1 0 f x) k j = mI M k j := fun k j hk => wI_o (fun z => hk z.1)
  refine ⟨?_, ?_, ?_, ?_⟩
  · unfold rSh at h1 ⊢
    rw [e 13 0 (by decide), e 13 1 (by decide), e 13 2 (by decide), e 13 3 (by decide)]
    exact h1
  · rw [pL_I, e 14 5 (by decide), e 14 3 (by decide), pI_place (by omega), pI_place (by omega)]
    exact h2
  · rw [e 15 0 (by decide), e 14 1 (by decide), e 14 2 (by decide)]
    exact h3
  · rw [e 14 4 (by decide)]
    exact h4
theorem t_opm : ∀ n, n < 256 → (kd (nI n)).1 = 4 → ¬ ((kd (nI n)).2.1 = 14 ∨ (kd (nI n)).2.1 = 13) := by decide +kernel
theorem rslot {o : Option Nat} (hR : rRl nm tb kb vb en T M) (hI : tyI nm en T) (hm : mpz nm kb vb en) (h1 : mp1 nm kb vb) (hB : tBy T) (hD : uD nm tb kb en (tyW T)) (hg : gsl p n nm s) (hw : d_fam (p s) = 1 → w = p (s + 1)) (ho : ty_step p nm tb kb vb en T s = some (U, o)) : ∃ N, f_M_runSlot M 0 (nI s) (p s) w = some (N, nx_ o) ∧ rRl nm tb kb vb en U N ∧ rgp nm en M N ∧ tyI nm en U := by
  obtain ⟨g1, g2, g3, g4, g5, g6, g7, g8, g9⟩ := hg
  unfold ty_step at ho
  refine Or.elim (Classical.em (ty_unr (p s) T)) (fun un => ?_) (fun un => ?_)
  · rw [if_pos un] at ho; cases ho
  rw [if_neg un] at ho
  have ut : ¬ d_rt (p s) = 0 → ¬ (tyC T (d_ti (p s))).1 = 0 := fun a b => un (Or.inl ⟨a, b⟩)
  have uf0 : ¬ d_rf (p s) = 0 → ¬ (tyC T (d_fi (p s))).1 = 0 := fun a b => un (Or.inr ⟨a, b⟩)
  have uf : ¬ (ty_op (p s) T).1 = 0 := by
    unfold ty_op
    by_cases z : d_rf (p s) = 0
    · rw [if_pos z]; exact fun q => absurd (show (1 : Int32) = 0 from q) (by decide)
    · rw [if_neg z]; exact uf0 z
  have hR2 := hR
  obtain ⟨hS, hmo, hst, hcx⟩ := hR2
  have hS2 := hS
  obtain ⟨⟨r5, r6, r7, r8, r9, r10, r11, r16, r17, r35, r36, r39, r43, r44, r45, r46⟩, ⟨y0, y1, y2', y3, y4', y5, y6, y7, y8, y9, y10, y11, y12, y13, y14, y15⟩, hm4, hmm⟩ := hS2
  obtain ⟨kt, kt1, kt2, kt3⟩ := d_ti_n g4
  obtain ⟨kf, kf1, kf2, kf3⟩ := d_fi_n g5
  have gt : ¬ (nI kt < 0 ∨ 11 ≤ kt) := fun z => z.elim (nI_ps (by omega)) (fun q => by omega)
  have gf : ¬ (nI kf < 0 ∨ 11 ≤ kf) := fun z => z.elim (nI_ps (by omega)) (fun q => by omega)
  have hopv : rr_ (ty_op (p s) T) = if d_rf (p s) = 0 then d_fn (p s) else mL M 16 5 (d_fi (p s)) := by
    unfold ty_op
    by_cases z : d_rf (p s) = 0
    · rw [if_pos z, if_pos z, rr_1 _ rfl]
    · rw [if_neg z, if_neg z, hmo.1 _ g5 (uf0 z)]
  obtain ⟨dk, dk1, dk2⟩ := d_lt (p s)
  have hri : k_ri (d_op (p s)) = if d_fam (p s) = 6 then (if d_opn (p s) = 11 then 7 else if d_opn (p s) = 14 then 8 else if d_opn (p s) = 13 then 9 else 6) else if d_fam (p s) = 7 then 10 else if d_fam (p s) = 8 then 11 else if d_fam (p s) = 9 then 12 else if d_fam (p s) = 10 then 13 else d_fam (p s) := rfl
  unfold f_M_runSlot
  rw [r_op, bd_some, r_to, bd_some, (r_dec (c := p s)).2.1, bd_some, r43, bd_some, kt2, nI_tn (by omega), y15, gd_pos gt, r_off, bd_some, st_eq, (r_dec (c := p s)).1, bd_some, hri]
  have e1s : nI s + 1 = nI (s + 1) := nI_s s
  by_cases f8 : d_fam (p s) = 8
  · rw [if_pos f8] at ho
    rw [if_neg (show ¬ d_fam (p s) = 6 by rw [f8]; decide), if_neg (show ¬ d_fam (p s) = 7 by rw [f8]; decide), if_pos f8]
    have rt1 : ¬ d_rt (p s) = 0 := by
      unfold d_fam at f8
      unfold d_rt
      rw [dk2] at f8 ⊢
      rw [t_rel3 dk dk1 f8]
      decide
    cases er : ty_rel (p s) T with
    | none => rw [er] at ho; cases ho
    | some G =>
      rw [er] at ho
      have eo := Option.some.inj ho
      have eU : U = T := (congrArg Prod.fst eo).symm
      have eo2 : o = some (ic G (d_tg (p s) s) (s + 1)) := (congrArg Prod.snd eo).symm
      have key : hldn (d_opn (p s)) (d_nar (p s)) (rr_ (tyC T (d_ti (p s)))) (rr_ (ty_op (p s) T)) ↔ G := rel_rG rcG_r hI hm er
      have hgo := rgoes (M := M) (y := rr_ (ty_op (p s) T)) hS f8 g4 g5 hopv
      rw [hmo.1 _ g4 (ut rt1), ic_c key] at hgo
      rw [if_neg (by decide), if_neg (by decide), if_neg (by decide), if_neg (by decide), if_neg (by decide), if_neg (by decide), if_neg (by decide), if_neg (by decide), if_neg (by decide), if_neg (by decide), if_pos rfl, hgo, b2_some, eU, eo2]
      by_cases hG : G
      · rw [ic_t hG, ic_t hG, if_neg (by decide), bd_some]
        exact ⟨M, by rw [g7 (Or.inr f8)]; rfl, hR, rgp_refl, hI⟩
      · rw [ic_f hG, ic_f hG, if_pos rfl]
        exact ⟨M, by rw [e1s]; rfl, hR, rgp_refl, hI⟩
  rw [if_neg f8] at ho
  cases ed : ty_do (p s) (p (s + 1)) nm tb kb vb en T with
  | none => rw [ed] at ho; cases ho
  | some U2 =>
    rw [ed] at ho
    have eo := Option.some.inj ho
    have eU : U = U2 := (congrArg Prod.fst eo).symm
    have eo2 : o = if d_fam (p s) = 10 then none else some (x_nx p s) := (congrArg Prod.snd eo).symm
    subst eU
    have nx1 : ¬ d_fam (p s) = 7 → ¬ d_fam (p s) = 1 → ¬ d_fam (p s) = 10 → nx_ o = nI s + 1 := by
      intro a b d
      rw [eo2, if_neg d]
      show nI (x_nx p s) = _
      unfold x_nx
      rw [if_neg a, if_neg b, e1s]
    unfold ty_do at ed
    by_cases f1 : d_fam (p s) = 1
    · rw [if_pos f1] at ed
      have eU := (Option.some.inj ed).symm
      have enx : nx_ o = nI s + 2 := by
        rw [eo2, if_neg (by rw [f1]; decide)]
        show nI (x_nx p s) = _
        unfold x_nx
        rw [if_neg (by rw [f1]; decide), if_pos f1, show nI s + 2 = nI s + 1 + 1 by rw [Int32.add_assoc]; rfl, nI_s, nI_s]
      rw [if_neg (show ¬ d_fam (p s) = 6 by rw [f1]; decide), if_neg (show ¬ d_fam (p s) = 7 by rw [f1]; decide), if_neg f8, if_neg (show ¬ d_fam (p s) = 9 by rw [f1]; decide), if_neg (show ¬ d_fam (p s) = 10 by rw [f1]; decide), if_pos f1, r_from, bd_some, enx]
      rcases (g6 f1).2.1 with z | z
      · rw [if_pos z] at eU
        rw [if_neg (show ¬ d_from (p s) = 1 by rw [z]; decide), r_field, bd_some, r_field, bd_some, st_eq, wn_eq, Int64.or_comm, hw f1]
        refine ⟨_, rfl, ?_, rgp_L (Or.inr ⟨rfl, Or.inr rfl⟩), ?_⟩
        · rw [eU, kt3]
          exact rRl_reg hR (by omega) (fun _ => rfl)
        · rw [eU]
          exact tyI_set hI (fun z => absurd (show (1 : Int32) = 7 from z) (by decide))
      · have fr0 : ¬ d_from (p s) = 0 := by rw [z]; decide
        rw [if_neg fr0] at eU
        obtain ⟨m, hm1, hm2⟩ := (g6 f1).2.2 fr0
        have h4 := hm.1
        have em : (d_field (p s)).toNatClampNeg = m := by rw [hm2, nI_tn (by omega)]
        rw [if_pos z, r_field, bd_some, st_eq]
        refine ⟨_, rfl, ?_, rgp_L (Or.inr ⟨rfl, Or.inr rfl⟩), ?_⟩
        · rw [eU, kt3]
          refine rRl_reg hR (by omega) (fun _ => ?_)
          rw [em, hm2]
          rfl
        · rw [eU]
          exact tyI_set hI (fun z => absurd (show (6 : Int32) = 7 from z) (by decide))
    rw [if_neg f1] at ed
    by_cases f6 : d_fam (p s) = 6
    · rw [if_pos f6] at ed
      have rt1 : ¬ d_opn (p s) = 12 → ¬ d_rt (p s) = 0 := by
        intro z
        unfold d_fam at f6
        unfold d_opn at z
        unfold d_rt
        rw [dk2] at f6 z ⊢
        rw [t_ar2 dk dk1 f6, if_neg z]
        decide
      obtain ⟨t, et, e0, e7, ev⟩ := ari_rG rcG_r f6 hI ed (fun z => ut (rt1 z)) uf (a := mL M 16 5 (d_ti (p s))) (fun z => hmo.1 _ g4 (ut (rt1 z)))
      have ha := rari_ (M := M) (y := rr_ (ty_op (p s) T)) hS f6 g4 g5 (g9 f6) hopv
      rw [ev] at ha
      refine ⟨wL M 16 5 (d_ti (p s)) (rr_ t), ?_, ?_, rgp_L (Or.inr ⟨rfl, Or.inr rfl⟩), ?_⟩
      · rw [nx1 (by rw [f6]; decide) f1 (by rw [f6]; decide), if_pos f6, ha]
        have four : ∀ z : Int32, z = 6 ∨ z = 7 ∨ z = 8 ∨ z = 9 → ∀ {R1 R2 R3 R4 R5 R10 R11 R12 R13 R14 : Option (me_M × Int32)} {B : Option (me_M × Int32)}, (if z = 1 then R1 else if z = 2 then R2 else if z = 3 then R3 else if z = 4 then R4 else if z = 5 then R5 else if z = 6 then B else if z = 7 then B else if z = 8 then B else if z = 9 then B else if z = 10 then R10 else if z = 11 then R11 else if z = 12 then R12 else if z = 13 then R13 else R14) = B := by
          intro z hz R1 R2 R3 R4 R5 R10 R11 R12 R13 R14 B
          rcases hz with e | e | e | e
          · rw [e, if_neg (by decide), if_neg (by decide), if_neg (by decide), if_neg (by decide), if_neg (by decide), if_pos rfl]
          · rw [e, if_neg (by decide), if_neg (by decide), if_neg (by decide), if_neg (by decide), if_neg (by decide), if_neg (by decide), if_pos rfl]
          · rw [e, if_neg (by decide), if_neg (by decide), if_neg (by decide), if_neg (by decide), if_neg (by decide), if_neg (by decide), if_neg (by decide), if_pos rfl]
          · rw [e, if_neg (by decide), if_neg (by decide), if_neg (by decide), if_neg (by decide), if_neg (by decide), if_neg (by decide), if_neg (by decide), if_neg (by decide), if_pos rfl]
        rw [four _ (by
          by_cases o11 : d_opn (p s) = 11
          · rw [if_pos o11]; exact Or.inr (Or.inl rfl)
          · rw [if_neg o11]
            by_cases o14 : d_opn (p s) = 14
            · rw [if_pos o14]; exact Or.inr (Or.inr (Or.inl rfl))
            · rw [if_neg o14]
              by_cases o13 : d_opn (p s) = 13
              · rw [if_pos o13]; exact Or.inr (Or.inr (Or.inr rfl))
              · rw [if_neg o13]; exact Or.inl rfl), bd_some]
      · rw [et]
        exact rRl_reg hR g4 (fun _ => rfl)
      · rw [et]
        exact tyI_set hI e7
    rw [if_neg f6] at ed
    rw [if_neg f6]
    by_cases f7 : d_fam (p s) = 7
    · rw [if_pos f7] at ed
      rw [if_pos f7, if_neg (by decide), if_neg (by decide), if_neg (by decide), if_neg (by decide), if_neg (by decide), if_neg (by decide), if_neg (by decide), if_neg (by decide), if_neg (by decide), if_pos rfl, bd_some, ← Option.some.inj ed]
      refine ⟨M, ?_, hR, rgp_refl, hI⟩
      rw [eo2, if_neg (by rw [f7]; decide), g7 (Or.inl f7)]
      show _ = some (M, nI (x_nx p s))
      unfold x_nx
      rw [if_pos f7]
    rw [if_neg f7] at ed
    rw [if_neg f7, if_neg f8]
    by_cases f9 : d_fam (p s) = 9
    · rw [if_pos f9] at ed
      obtain ⟨N, n1, n2, n3, n4⟩ := rcall hR hI hm h1 hB hD (g8 f9) ed
      rw [nx1 f7 f1 (by rw [f9]; decide), if_pos f9, if_neg (by decide), if_neg (by decide), if_neg (by decide), if_neg (by decide), if_neg (by decide), if_neg (by decide), if_neg (by decide), if_neg (by decide), if_neg (by decide), if_neg (by decide), if_neg (by decide), if_pos rfl, r_field, bd_some, n1, bd_some]
      exact ⟨N, rfl, n2, n3, n4⟩
    rw [if_neg f9] at ed
    rw [if_neg f9]
    by_cases f10 : d_fam (p s) = 10
    · rw [if_pos f10] at ed
      rw [if_pos f10] at eo2
      rw [eo2, if_pos f10, if_neg (by decide), if_neg (by decide), if_neg (by decide), if_neg (by decide), if_neg (by decide), if_neg (by decide), if_neg (by decide), if_neg (by decide), if_neg (by decide), if_neg (by decide), if_neg (by decide), if_neg (by decide), if_pos rfl]
      by_cases k1 : (tyC T 0).1 = 1
      · rw [if_pos k1] at ed
        rw [← Option.some.inj ed]
        exact ⟨M, rfl, hR, rgp_refl, hI⟩
      · rw [if_neg k1] at ed; cases ed
    rw [if_neg f10] at ed
    rw [if_neg f10, nx1 f7 f1 f10, if_neg f1]
    by_cases f2 : d_fam (p s) = 2
    · rw [if_pos f2] at ed
      obtain ⟨x, x1, x2, x3, x4⟩ := r_read hR hI hm ed
      have hreg : mL M 16 5 kf = rr_ (tyC T (d_fi (p s))) := by
        rw [← kf3]
        refine hmo.1 _ g5 ?_
        intro z
        rcases x3 with k | k | k | k <;> rw [k] at z <;> exact absurd z (by decide)
      rw [if_pos f2, r_from, bd_some, kf2, nI_tn (by omega), gd_pos gf, bd_some, hreg, x4, b2_some, st_eq]
      refine ⟨_, rfl, ?_, rgp_L (Or.inr ⟨rfl, Or.inr rfl⟩), ?_⟩
      · rw [x1, kt3]
        exact rRl_reg hR (by omega) (fun _ => rfl)
      · rw [x1]
        exact tyI_set hI x2
    · rw [if_neg f2] at ed
      rw [if_neg f2]
      obtain ⟨p1, p2, p3, p4⟩ := r_put hR hI hm uf ed
      have hreg : mL M 16 5 kt = rr_ (tyC T (d_ti (p s))) := by
        rw [← kt3]
        refine hmo.1 _ g4 ?_
        intro z
        rcases p1 with k | k | k | k <;> rw [k] at z <;> exact absurd z (by decide)
      have t3 := t_m3 dk dk1
      have t4 := t_m4 dk dk1
      rw [← dk2] at t3 t4
      have t3 : d_fam (p s) ∈ ([3, 5] : List Int32) → d_rt (p s) = 1 ∧ d_rf (p s) = 1 := t3
      have t4 : d_fam (p s) = 4 → d_rt (p s) = 1 ∧ d_rf (p s) = 0 := t4
      rw [hreg]
      by_cases f3 : d_fam (p s) = 3
      · obtain ⟨N, n1, n2, n3⟩ := p4 (by rw [f3]; decide)
        have hv : mL M 16 5 kf = rr_ (ty_op (p s) T) := by rw [hopv, if_neg (by rw [(t3 (by rw [f3]; decide)).2]; decide), kf3]
        rw [if_pos f3, r_from, bd_some, kf2, nI_tn (by omega), gd_pos gf, hv, n1, bd_some]
        exact ⟨N, rfl, n2, n3, p2⟩
      rw [if_neg f3]
      by_cases f4 : d_fam (p s) = 4
      · obtain ⟨N, n1, n2, n3⟩ := p4 (by rw [f4]; decide)
        have hv : (d_field (p s)).toInt64 = rr_ (ty_op (p s) T) := by
          rw [hopv, if_pos (t4 f4).2]
          unfold d_fn
          rw [if_neg (by
            intro z
            have q := (t_opm dk dk1 (by
              have : (kd (nI dk)).1 = 4 := by rw [← dk2]; exact f4
              exact this))
            rw [← dk2] at q
            exact q z)]
        rw [if_pos f4, r_field, bd_some, hv, n1, bd_some]
        exact ⟨N, rfl, n2, n3, p2⟩
      rw [if_neg f4]
      have f5 : d_fam (p s) = 5 := by
        have := t_fam dk dk1
        rw [← dk2] at this
        have this : d_fam (p s) ∈ ([0, 1, 2, 3, 4, 5, 6, 7, 8, 9, 10] : List Int32) := this
        simp only [List.mem_cons, List.not_mem_nil, or_false] at this
        rcases this with e | e | e | e | e | e | e | e | e | e | e
        · exact absurd e g3
        · exact absurd e f1
        · exact absurd e f2
        · exact absurd e f3
        · exact absurd e f4
        · exact e
        · exact absurd e f6
        · exact absurd e f7
        · exact absurd e f8
        · exact absurd e f9
        · exact absurd e f10
      obtain ⟨r, n0, N, n1, n2, n3⟩ := p3 f5
      have hv : mL M 16 5 kf = rr_ (ty_op (p s) T) := by rw [hopv, if_neg (by rw [(t3 (by rw [f5]; decide)).2]; decide), kf3]
      rw [if_pos f5, n0, b2_some, r_from, bd_some, kf2, nI_tn (by omega), gd_pos gf, hv, n1, bd_some]
      exact ⟨N, rfl, n2, n3, p2⟩
end IRR
