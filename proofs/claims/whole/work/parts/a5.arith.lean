/-! PURE: the class's arithmetic on a state is s_arith. -/
def hP (y k j : Nat) : Prop := cP y k j ∨ (k = 7 ∧ j = 0) ∨ (k = 11 ∧ j < 5)
section CB
variable {M M1 M2 : me_M} {s : Nat} {c : Int64}
theorem cv_ptr {y : Nat} (h : c_ptr (cv M y)) : cPl (cv M y) = mI M 10 y 1 := by
  have h2 : mI M 10 y 0 = 2 ∨ mI M 10 y 0 = 3 ∨ mI M 10 y 0 = 4 ∨ mI M 10 y 0 = 7 := h
  unfold cv cn
  exact if_pos h2
theorem cv_place {y : Nat} {v : Int32} (h : c_ptr (cv M y)) : cv (wI M 10 y 1 v) y = (cK (cv M y), v, cM (cv M y), cI (cv M y), cR (cv M y), cW (cv M y), cX (cv M y)) := by
  have h2 : mI M 10 y 0 = 2 ∨ mI M 10 y 0 = 3 ∨ mI M 10 y 0 = 4 ∨ mI M 10 y 0 = 7 := h
  unfold cv cn
  have e0 : mI (wI M 10 y 1 v) 10 y 0 = mI M 10 y 0 := pI_place (by decide)
  have e1 : mI (wI M 10 y 1 v) 10 y 1 = v := pI_same
  have e2 : mI (wI M 10 y 1 v) 10 y 2 = mI M 10 y 2 := pI_place (by decide)
  have e3 : mI (wI M 10 y 1 v) 10 y 3 = mI M 10 y 3 := pI_place (by decide)
  have e4 : mI (wI M 10 y 1 v) 10 y 4 = mI M 10 y 4 := pI_place (by decide)
  have e5 : mI (wI M 10 y 1 v) 10 y 5 = mI M 10 y 5 := pI_place (by decide)
  rw [e0, e1, e2, e3, e4, e5, pg_I, if_pos h2]
theorem st_shift (h : stp M s c) {y jx : Nat} (hp : c_ptr (cv M y)) (hy : mR M 10 y 6 = some (nu y)) (hx : 4 < jx) : ∃ M1 r, f_Steps_shift M 0 y jx = some (M1, r) ∧ fr (hP y) M M1 ∧ match s_sh (s_sub c) (cv M y) (pg M jx) (mI M 7 0 7) with
    | none => r = 11
    | some q => r = 0 ∧ cv M1 y = q.1 ∧ mI M1 7 0 7 = q.2 := by
  have l8 : mI M 2 0 12 = d_opn c := h.1.2.2.2.2.2.2.2.1
  have b67 : ∀ v : Int64, ∃ M1 r, f_Steps_shift_b67 y M v (mI M 10 y 1) = some (M1, r) ∧ fr (hP y) M M1 ∧ match (if cPl (cv M y) + v.toInt32 < -65535 then none else if cPl (cv M y) + v.toInt32 ≤ 65535 then some ((cK (cv M y), cPl (cv M y) + v.toInt32, cM (cv M y), cI (cv M y), cR (cv M y), cW (cv M y), cX (cv M y)), mI M 7 0 7) else none : Option (sC × Int32)) with
      | none => r = 11
      | some q => r = 0 ∧ cv M1 y = q.1 ∧ mI M1 7 0 7 = q.2 := by
    intro v
    unfold f_Steps_shift_b67
    rw [st_eq, st_eq, cv_ptr hp]
    have f1 : fr (hP y) M (wI M 10 y 1 (mI M 10 y 1 + v.toInt32)) := fr_I (Or.inl cP0)
    by_cases g : mI M 10 y 1 + v.toInt32 < -65535
    · rw [if_pos g, if_pos g]
      exact ⟨_, _, rfl, f1, rfl⟩
    · rw [if_neg g, if_neg g]
      by_cases g2 : mI M 10 y 1 + v.toInt32 ≤ 65535
      · rw [if_pos g2, if_pos g2]
        exact ⟨_, _, rfl, f1, rfl, cv_place hp, rfl⟩
      · rw [if_neg g2, if_neg g2]
        exact ⟨_, _, rfl, f1, rfl⟩
  have b16 : ∀ sub : Int32, sub = s_sub c → ∃ M1 r, f_Steps_shift_b16 0 y jx M sub = some (M1, r) ∧ fr (hP y) M M1 ∧ match s_sh sub (cv M y) (pg M jx) (mI M 7 0 7) with
      | none => r = 11
      | some q => r = 0 ∧ cv M1 y = q.1 ∧ mI M1 7 0 7 = q.2 := by
    intro sub _
    unfold f_Steps_shift_b16 s_sh
    rw [pf_isExact0, b2_some]
    have ex1 : (pg M jx).2.1 = mL M 11 jx 1 := rfl
    have ex0 : (pg M jx).1 = mL M 11 jx 0 := rfl
    rw [ex1, ex0]
    by_cases g : mL M 11 jx 1 = 0
    · rw [if_pos g, if_neg (by decide), if_pos g, st_eq]
      by_cases g1 : mL M 11 jx 0 < -65535
      · rw [if_pos g1, if_pos g1]; exact ⟨_, _, rfl, fr_refl, rfl⟩
      rw [if_neg g1, if_neg g1]
      by_cases g2 : 65535 < mL M 11 jx 0
      · rw [if_pos g2, if_pos g2]; exact ⟨_, _, rfl, fr_refl, rfl⟩
      rw [if_neg g2, if_neg g2]
      by_cases g3 : sub = 0
      · rw [if_pos g3, if_pos g3]; exact b67 _
      · rw [if_neg g3, if_neg g3]; exact b67 _
    · rw [if_neg g, if_pos rfl, if_neg g]
      have ek : mI M 10 y 0 = cK (cv M y) := rfl
      rw [ek]
      unfold f_Steps_shift_b114 f_Steps_shift_b119
      by_cases g3 : sub = 0
      · simp only [if_pos g3, if_true, if_neg (show ¬ (1 : Int32) = 0 from by decide)]
        by_cases k2 : cK (cv M y) = 2
        · rw [if_pos k2, if_pos (Or.inl k2)]; exact ⟨_, _, rfl, fr_refl, rfl⟩
        rw [if_neg k2]
        by_cases k3 : cK (cv M y) = 3
        · rw [if_pos k3, if_pos (Or.inr k3)]; exact ⟨_, _, rfl, fr_refl, rfl⟩
        rw [if_neg k3, if_neg (show ¬ (cK (cv M y) = 2 ∨ cK (cv M y) = 3) from fun z => z.elim k2 k3), pf_isAbove, b2_some]
        have exg : (pg M jx).2.2.2.1 = mL M 11 jx 3 := rfl
        rw [exg]
        by_cases g4 : fn_lt 65535 (mL M 11 jx 3)
        · rw [if_pos g4, if_neg (by decide), if_pos g4]; exact ⟨_, _, rfl, fr_refl, rfl⟩
        rw [if_neg g4, if_pos rfl, if_neg g4, h.2.2.2.2.2.2.1, bd_some, hy, bd_some]
        have kx : cK (cv M y) = 1 ∨ cK (cv M y) = 4 ∨ cK (cv M y) = 7 := by
          rcases hp with r | r | r | r
          · exact absurd r k2
          · exact absurd r k3
          · exact Or.inr (Or.inl r)
          · exact Or.inr (Or.inr r)
        have eX : cX (cv M y) = pg M (nu y) := cv_n kx
        obtain ⟨N, a1, a2, a3⟩ := pf_opw (M := M) (op := 0) (x := nu y) (y := jx) (o := nu y) h.2.2.1 (Or.inr nu_5) (Or.inr hx) nu_5
        rw [a1, bd_some, pf_isAbove, b2_some]
        have fN : fr (hP y) M N := fr_pq a3 (by
          intro i hi
          rcases hi with r | r | r | r
          · exact Or.inr (Or.inr ⟨rfl, by omega⟩)
          · exact Or.inr (Or.inr ⟨rfl, by omega⟩)
          · exact Or.inr (Or.inr ⟨rfl, by omega⟩)
          · rw [r]; exact Or.inl cP1)
        have eN : mL N 11 (nu y) 3 = (fn_fin (fn_rawT (cX (cv M y)) (pg M jx) 0)).2.2.2.1 := by
          rw [eX, ← a2]; rfl
        have eI : mI N = mI M := a3.1
        rw [eN, ← eX] at *
        generalize fn_fin (fn_rawT (cX (cv M y)) (pg M jx) 0) = Z at a2 eN
        by_cases g5 : fn_lt 65535 Z.2.2.2.1
        · rw [if_pos g5, if_neg (by decide), if_pos g5]; exact ⟨_, _, rfl, fN, rfl⟩
        rw [if_neg g5, if_pos rfl, if_neg g5]
        have ekN : mI N 10 y 0 = cK (cv M y) := by
          rw [eI]
          rfl
        rw [ekN]
        by_cases k4 : cK (cv M y) = 4
        · rw [if_pos k4, if_pos k4]
          unfold f_Steps_newIdentity
          rw [st_eq, b2_some, st_eq, st_eq]
          refine ⟨_, _, rfl, fr_trans (fr_trans (fr_trans fN (fr_I (Or.inr (Or.inl ⟨rfl, rfl⟩)))) (fr_I (Or.inl cP0))) (fr_I (Or.inl cP0)), rfl, ?_, ?_⟩
          · have kk : mI M 10 y 0 = 4 := k4
            unfold cv cn at *
            simp [pI_I, pg_I, eI, kk, a2]
          · simp [pI_I, eI]
        · rw [if_neg k4, if_neg k4]
          refine ⟨N, _, rfl, fN, rfl, ?_, by rw [eI]⟩
          have kk : mI M 10 y 0 = 7 := by
            rcases kx with r | r | r
            · rcases hp with q | q | q | q <;> rw [q] at r <;> exact absurd r (by decide)
            · exact absurd r k4
            · exact r
          unfold cv cn at *
          simp [eI, kk, a2]
      · simp only [if_neg g3, ite_self]
        exact ⟨M, 11, rfl, fr_refl, rfl⟩
  unfold f_Steps_shift
  rw [h.2.2.2.2.1, bd_some, l8]
  unfold s_sub at b16 ⊢
  by_cases g : d_opn c = 1
  · rw [if_pos g, if_pos g]
    rw [if_pos g] at b16
    exact b16 1 rfl
  · rw [if_neg g, if_neg g]
    rw [if_neg g] at b16
    exact b16 0 rfl
/-- what a step of one register may change -/
def yP (y k j : Nat) : Prop := cP y k j ∨ (k = 7 ∧ j = 0) ∨ (k = 10 ∧ j = 0) ∨ (k = 11 ∧ j < 11)
theorem yP_h {y k j : Nat} (h : hP y k j) : yP y k j := by
  rcases h with z | z | z
  · exact Or.inl z
  · exact Or.inr (Or.inl z)
  · exact Or.inr (Or.inr (Or.inr ⟨z.1, by omega⟩))
theorem yP_0 {y k j : Nat} (h : cP 0 k j) : yP y k j := by
  rcases h with z | z
  · exact Or.inr (Or.inr (Or.inl z))
  · exact Or.inr (Or.inr (Or.inr ⟨z.1, by rw [z.2]; decide⟩))
theorem fin_y {t u : Nat} (ht : t < 11) (hu : us M s u) (g : fr (yP (75 * s + t + 1)) M M1) : tk s M M1 ∧ ∀ i, i < 75 → sv M1 s i = up (sv M s) t (cv M1 (75 * s + t + 1)) i := by
  have n9 : ¬ yP (75 * s + t + 1) 9 s := by
    rintro (z | z | z | z)
    · exact cP9 z
    · exact absurd z.1 (by decide)
    · exact absurd z.1 (by decide)
    · exact absurd z.1 (by decide)
  have v : ∀ i, i < 75 → sv M1 s i = up (sv M s) t (cv M1 (75 * s + t + 1)) i := by
    intro i hi
    unfold up
    by_cases e : i = t
    · rw [if_pos e, e]; rfl
    · rw [if_neg e]
      refine cv_fr g ?_ ?_
      · rintro (z | z | z | z)
        · rcases z with z | z
          · omega
          · exact absurd z.1 (by decide)
        · exact absurd z.1 (by decide)
        · omega
        · exact absurd z.1 (by decide)
      · rintro (z | z | z | z)
        · rcases z with z | z
          · exact absurd z.1 (by decide)
          · have := nu_inj z.2; omega
        · exact absurd z.1 (by decide)
        · exact absurd z.1 (by decide)
        · rw [nu_g (by omega)] at z; omega
  refine ⟨⟨fr_mono g ?_, ⟨u, hu.1, hu.2.1, ?_, ?_⟩, n9_tk g n9⟩, v⟩
  · intro k j z
    rcases z with z | z | z | z
    · exact tP_c (by omega) z
    · exact Or.inr (Or.inl z)
    · exact Or.inr (Or.inr (Or.inl z))
    · exact Or.inr (Or.inr (Or.inr z))
  · rw [g.2.2.2.1 9 s n9]; exact hu.2.2.1
  · intro i h1 h2
    rw [v i h2]
    unfold up
    rw [if_neg (by have := hu.1; omega)]
    exact hu.2.2.2 i h1 h2
theorem raw12 {a x : fn_N} : fn_rawT a x 12 = x := by
  unfold fn_rawT fn_raw
  rw [if_neg (by decide), if_neg (by decide), if_neg (by decide), if_neg (by decide), if_neg (by decide), if_neg (by decide), if_neg (by decide), if_neg (by decide), if_neg (by decide), if_pos rfl]
theorem fn_op12 {nar : Int32} {a b x : fn_N} : fn_op 12 nar a x = fn_op 12 nar b x := by
  unfold fn_op fn_opk
  rw [raw12, raw12, raw12, raw12, if_neg (show ¬ (12 : Int32) = 10 by decide), if_neg (show ¬ (12 : Int32) = 10 by decide)]
theorem st_arith (h : stp M s c) {u : Nat} (hu : us M s u) : ∃ M1 r, f_Steps_arithmetic M 0 = some (M1, r) ∧ tk s M M1 ∧ rs s M1 r (s_arith c (sv M s) (mI M 7 0 7)) := by
  obtain ⟨t, ht, e1, e2⟩ := d_ti_n h.2.2.2.2.2.2.2.2.2.2.2.1
  obtain ⟨y, hy⟩ : ∃ y, y = 75 * s + t + 1 := ⟨_, rfl⟩
  obtain ⟨N, x, a1, a2, a3, a4, a5⟩ := st_by h hu
  have fN : fr (yP y) M N := fr_mono a4 (fun k j z => yP_0 z)
  have hN : stp N s c := stp_fr h (fr_mono a4 (fun k j z => tP_0 z))
  have yN : mR N 10 y 6 = some (nu y) := by rw [hy]; exact st_cell hN (by omega)
  have y0 : ¬ y = 0 := by omega
  have cy : cv N y = sv M s t := by rw [hy]; exact cv_cP a4 (by omega)
  have xt : x = y ∨ ¬ x = y := Classical.em _
  have e7 : mI N 7 0 7 = mI M 7 0 7 := by rw [a4.2.2.2.1 7 0 cP7]
  have ekx : mI N 10 x 0 = cK (s_by c (sv M s)) := by rw [← a2]; rfl
  have eky : mI N 10 y 0 = cK (sv M s t) := by rw [← cy]; rfl
  obtain ⟨l1, l2, l3, l4, l5, l6, l7, l8, l9, l10, l11⟩ := hN.1
  have l2M : mI M 2 0 6 = d_to c := h.1.2.1
  unfold f_Steps_arithmetic s_arith
  rw [h.2.2.2.2.2.2.2.2.2.1, bd_some, h.2.2.2.2.1, bd_some, l2M, e1, (h.2.1.1 s h.2.2.2.1).2, gd_pos (ix_ok (by omega) (by decide)), nI_tn (by omega), h.2.1.2.1 s t h.2.2.2.1 (by omega), bd_some, a1, b2_some, l8, l9, ← hy, e2]
  -- an end with a new cell y
  have done : ∀ (M1 : me_M) (z : sC) (ids : Int32), fr (yP y) M M1 → cv M1 y = z → mI M1 7 0 7 = ids → tk s M M1 ∧ rs s M1 0 (.ok (up (sv M s) t z, ids)) := by
    intro M1 z ids g hz hi
    rw [hy] at g hz
    obtain ⟨q1, q2⟩ := fin_y ht hu g
    rw [hz] at q2
    exact ⟨q1, rfl, q2, hi⟩
  have bad : ∀ M1 : me_M, fr (yP y) M M1 → tk s M M1 := by
    intro M1 g
    rw [hy] at g
    exact (fin_y ht hu g).1
  have b75 : (cK (sv M s t) = 1 ∨ d_opn c = 12) → cK (s_by c (sv M s)) = 1 → ∃ M1 r, f_Steps_arithmetic_b75 0 N y x = some (M1, r) ∧ tk s M M1 ∧ rs s M1 r (.ok (up (sv M s) t (s_num (fn_op (d_opn c) (d_nar c) (cX (sv M s t)) (cX (s_by c (sv M s))))), mI M 7 0 7)) := by
    intro h1 h2
    unfold f_Steps_arithmetic_b75
    rw [st_eq, hN.2.2.2.2.2.2.1, bd_some, hN.2.2.2.2.1, bd_some, yN, bd_some, a3, bd_some]
    have r1 : mI (wI N 10 y 0 1) 2 0 12 = d_opn c := l8
    have r2 : mI (wI N 10 y 0 1) 2 0 13 = d_nar c := l9
    rw [r1, r2]
    obtain ⟨P, b1', b2', b3'⟩ := pf_op (M := wI N 10 y 0 1) (op := d_opn c) (nar := d_nar c) (x := nu y) (y := nu x) (o := nu y) hN.2.2.1 nu_5 nu_5 nu_5
    rw [b1', bd_some]
    have ex : pg (wI N 10 y 0 1) (nu x) = cX (s_by c (sv M s)) := by
      rw [pg_I, ← a2]
      exact (cv_n (Or.inl (by rw [a2]; exact h2))).symm
    have ez : fn_op (d_opn c) (d_nar c) (pg (wI N 10 y 0 1) (nu y)) (pg (wI N 10 y 0 1) (nu x)) = fn_op (d_opn c) (d_nar c) (cX (sv M s t)) (cX (s_by c (sv M s))) := by
      rw [ex]
      rcases h1 with q | q
      · have : pg (wI N 10 y 0 1) (nu y) = cX (sv M s t) := by
          rw [pg_I, ← cy]
          exact (cv_n (Or.inl (by rw [cy]; exact q))).symm
        rw [this]
      · rw [q]; exact fn_op12
    refine ⟨P, 0, rfl, done P _ _ (fr_trans (fr_trans fN (fr_I (Or.inl cP0))) (fr_pq b3' ?_)) ?_ ?_⟩
    · intro i hi
      rcases hi with q | q
      · exact Or.inr (Or.inr (Or.inr ⟨rfl, by omega⟩))
      · rw [q]; exact Or.inl cP1
    · unfold cv
      rw [b2', ez, b3'.1]
      simp [pI_I, cn]
    · rw [b3'.1]
      exact e7
  have shf : ∀ (A : me_M) (jx : Nat) (X : fn_N) (p : sC), stp A s c → fr (yP y) M A → cv A y = p → mR A 10 y 6 = some (nu y) → c_ptr p → 4 < jx → pg A jx = X → mI A 7 0 7 = mI M 7 0 7 → ∃ M1 r, b2 (f_Steps_shift A 0 y jx) (fun M38 r39 => some (M38, r39)) = some (M1, r) ∧ tk s M M1 ∧ rs s M1 r (s_mv (sv M s) t (s_sh (s_sub c) p X (mI M 7 0 7))) := by
    intro A jx X p hA fA hp hyA hptr hj hX h7
    obtain ⟨P, r, b1', b2', b3'⟩ := st_shift hA (y := y) (jx := jx) (by rw [hp]; exact hptr) hyA hj
    rw [b1', b2_some]
    rw [hp, hX, h7] at b3'
    have fP : fr (yP y) M P := fr_trans fA (fr_mono b2' (fun k j z => yP_h z))
    refine ⟨P, r, rfl, bad P fP, ?_⟩
    cases hs : s_sh (s_sub c) p X (mI M 7 0 7) with
    | none =>
      rw [hs] at b3'
      exact b3'
    | some q =>
      rw [hs] at b3'
      obtain ⟨q1, q2, q3⟩ := b3'
      rw [q1]
      exact (done P q.1 q.2 fP q2 q3).2
  have b234 : ∀ s0 : Int32, ∃ M1 r, f_Steps_arithmetic_b234 0 N y s0 = some (M1, r) ∧ tk s M M1 ∧ rs s M1 r (if ¬ s0 = 0 ∧ d_opn c = 1 then .ok (up (sv M s) t (s_num fn_any), mI M 7 0 7) else .error 11) := by
    intro s0
    unfold f_Steps_arithmetic_b234
    rw [hN.2.2.2.2.1, bd_some, l8]
    by_cases g : d_opn c = 1
    · rw [if_pos g]
      by_cases g2 : s0 = 0
      · rw [if_pos g2, if_neg (fun z => z.1 g2)]
        exact ⟨N, 11, rfl, bad N fN, rfl⟩
      · rw [if_neg g2, if_pos ⟨g2, g⟩]
        obtain ⟨P, b1', b2', b3'⟩ := ce_any (M := N) (c := y) yN
        rw [b1', bd_some]
        exact ⟨P, 0, rfl, done P _ _ (fr_trans fN (fr_mono b3' (fun k j z => Or.inl z))) b2' (by rw [b3'.2.2.2.1 7 0 cP7]; exact e7)⟩
    · rw [if_neg g, if_neg (fun z => g z.2)]
      exact ⟨N, 11, rfl, bad N fN, rfl⟩
  have b215 : ∃ M1 r, f_Steps_arithmetic_b215 0 N y x = some (M1, r) ∧ tk s M M1 ∧ rs s M1 r (if c_ofp (sv M s t) ∧ c_ofp (s_by c (sv M s)) ∧ d_opn c = 1 then .ok (up (sv M s) t (s_num fn_any), mI M 7 0 7) else .error 11) := by
    unfold f_Steps_arithmetic_b215 f_Steps_arithmetic_b233
    rw [ce_ofp, b2_some, cy]
    by_cases g : cK (sv M s t) = 4 ∨ cK (sv M s t) = 5
    · rw [if_pos g, if_neg (by decide), ce_ofp, b2_some, a2]
      by_cases g2 : cK (s_by c (sv M s)) = 4 ∨ cK (s_by c (sv M s)) = 5
      · rw [if_pos g2, if_neg (by decide)]
        have q := b234 1
        by_cases g3 : d_opn c = 1
        · rw [if_pos ⟨g, g2, g3⟩]
          rw [if_pos ⟨by decide, g3⟩] at q
          exact q
        · rw [if_neg (fun z => g3 z.2.2)]
          rw [if_neg (fun z => g3 z.2)] at q
          exact q
      · rw [if_neg g2, if_pos rfl, if_neg (fun z => g2 z.2.1)]
        have q := b234 0
        rw [if_neg (fun z => z.1 rfl)] at q
        exact q
    · rw [if_neg g, if_pos rfl, if_neg (fun z => g z.1)]
      have q := b234 0
      rw [if_neg (fun z => z.1 rfl)] at q
      exact q
  have b164 : ∃ M1 r, f_Steps_arithmetic_b164 0 N y x = some (M1, r) ∧ tk s M M1 ∧ rs s M1 r (if d_opn c = 0 ∧ cK (sv M s t) = 1 ∧ c_ptr (s_by c (sv M s)) then s_mv (sv M s) t (s_sh (s_sub c) (s_by c (sv M s)) (cX (sv M s t)) (mI M 7 0 7)) else if c_ofp (sv M s t) ∧ c_ofp (s_by c (sv M s)) ∧ d_opn c = 1 then .ok (up (sv M s) t (s_num fn_any), mI M 7 0 7) else .error 11) := by
    unfold f_Steps_arithmetic_b164
    rw [hN.2.2.2.2.1, bd_some, l8, eky]
    by_cases g : d_opn c = 0
    · rw [if_pos g]
      by_cases g2 : cK (sv M s t) = 1
      · rw [if_pos g2, ce_ptr, b2_some, a2]
        by_cases g3 : cK (s_by c (sv M s)) = 2 ∨ cK (s_by c (sv M s)) = 3 ∨ cK (s_by c (sv M s)) = 4 ∨ cK (s_by c (sv M s)) = 7
        · rw [if_pos g3, if_neg (by decide), if_pos ⟨g, g2, g3⟩, hN.2.2.2.2.2.2.2.2.1, bd_some, yN, bd_some, pt_cp, bd_some]
          have xy : ¬ x = y := by
            intro z
            have : cv N x = cv N y := by rw [z]
            rw [a2, cy] at this
            rw [this, g2] at g3
            exact absurd g3 (by decide)
          have en : pg N (nu y) = cX (sv M s t) := by
            rw [← cy]
            exact (cv_n (Or.inl (by rw [cy]; exact g2))).symm
          rw [en]
          have fA : fr (yP y) N (pn_t N 6 (cX (sv M s t))) := fr_t (Or.inr (Or.inr (Or.inr ⟨rfl, by decide⟩)))
          have xA : mR (pn_t N 6 (cX (sv M s t))) 10 x 6 = some (nu x) := a3
          obtain ⟨B, b1', b2', b3'⟩ := ce_copy (M := pn_t N 6 (cX (sv M s t))) (c := y) (d := x) yN xA
          rw [b1', bd_some]
          have nx6 : ¬ nu x = 6 := by
            unfold nu
            split <;> omega
          have ny6 : ¬ 6 = nu y := by
            rw [nu_g (by omega)]
            omega
          have vB : cv B y = s_by c (sv M s) := by
            rw [b2', ← a2]
            unfold cv
            rw [pg_L nx6]
            rfl
          have fB : fr (yP y) M B := fr_trans (fr_trans fN fA) (fr_mono b3' (fun k j z => Or.inl z))
          refine shf B 6 _ _ (stp_fr hN ?_) fB vB (by rw [b3'.1]; exact yN) g3 (by decide) ?_ ?_
          · refine fr_trans (fr_t (tP_n (by decide))) (fr_mono b3' ?_)
            intro k j z
            rw [hy] at z
            exact tP_c (by omega) z
          · rw [pg_fr b3' (by rintro (z | z); exact absurd z.1 (by decide); exact ny6 z.2), pg_t]
          · rw [b3'.2.2.2.1 7 0 cP7]; exact e7
        · rw [if_neg g3, if_pos rfl, if_neg (fun z => g3 z.2.2)]; exact b215
      · rw [if_neg g2, if_neg (fun z => g2 z.2.1)]; exact b215
    · rw [if_neg g, if_neg (fun z => g z.1)]; exact b215
  have b115 : ∃ M1 r, f_Steps_arithmetic_b115 0 N y x = some (M1, r) ∧ tk s M M1 ∧ rs s M1 r (if ¬ d_nar c = 0 ∨ 1 < d_opn c then .error 11 else if c_ptr (sv M s t) ∧ cK (s_by c (sv M s)) = 1 then s_mv (sv M s) t (s_sh (s_sub c) (sv M s t) (cX (s_by c (sv M s))) (mI M 7 0 7)) else if d_opn c = 0 ∧ cK (sv M s t) = 1 ∧ c_ptr (s_by c (sv M s)) then s_mv (sv M s) t (s_sh (s_sub c) (s_by c (sv M s)) (cX (sv M s t)) (mI M 7 0 7)) else if c_ofp (sv M s t) ∧ c_ofp (s_by c (sv M s)) ∧ d_opn c = 1 then .ok (up (sv M s) t (s_num fn_any), mI M 7 0 7) else .error 11) := by
    unfold f_Steps_arithmetic_b115
    rw [hN.2.2.2.2.1, bd_some, l9, l8]
    by_cases g : d_nar c = 0
    · rw [if_pos g]
      by_cases g1 : d_opn c ≤ 1
      · rw [if_pos g1, if_neg (show ¬ (¬ d_nar c = 0 ∨ 1 < d_opn c) from fun z => z.elim (fun q => q g) (fun q => by rw [Int32.lt_iff_toInt_lt] at q; rw [Int32.le_iff_toInt_le] at g1; omega)), ce_ptr, b2_some, cy]
        by_cases g3 : cK (sv M s t) = 2 ∨ cK (sv M s t) = 3 ∨ cK (sv M s t) = 4 ∨ cK (sv M s t) = 7
        · rw [if_pos g3, if_neg (by decide), ekx]
          by_cases g4 : cK (s_by c (sv M s)) = 1
          · rw [if_pos g4, if_pos ⟨g3, g4⟩, a3, bd_some]
            exact shf N (nu x) _ _ hN fN cy yN g3 nu_5 (by rw [← a2]; exact (cv_n (Or.inl (by rw [a2]; exact g4))).symm) e7
          · rw [if_neg g4, if_neg (fun z => g4 z.2)]; exact b164
        · rw [if_neg g3, if_pos rfl, if_neg (fun z => g3 z.1)]; exact b164
      · rw [if_neg g1, if_pos (Or.inr (by rw [Int32.lt_iff_toInt_lt]; rw [Int32.le_iff_toInt_le] at g1; omega))]
        exact ⟨N, 11, rfl, bad N fN, rfl⟩
    · rw [if_neg g, if_pos (Or.inl g)]
      exact ⟨N, 11, rfl, bad N fN, rfl⟩
  have b47 : ∃ M1 r, f_Steps_arithmetic_b47 0 N y x = some (M1, r) ∧ tk s M M1 ∧ rs s M1 r (if cK (s_by c (sv M s)) = 1 ∧ (cK (sv M s t) = 1 ∨ d_opn c = 12) then .ok (up (sv M s) t (s_num (fn_op (d_opn c) (d_nar c) (cX (sv M s t)) (cX (s_by c (sv M s))))), mI M 7 0 7) else if ¬ d_nar c = 0 ∨ 1 < d_opn c then .error 11 else if c_ptr (sv M s t) ∧ cK (s_by c (sv M s)) = 1 then s_mv (sv M s) t (s_sh (s_sub c) (sv M s t) (cX (s_by c (sv M s))) (mI M 7 0 7)) else if d_opn c = 0 ∧ cK (sv M s t) = 1 ∧ c_ptr (s_by c (sv M s)) then s_mv (sv M s) t (s_sh (s_sub c) (s_by c (sv M s)) (cX (sv M s t)) (mI M 7 0 7)) else if c_ofp (sv M s t) ∧ c_ofp (s_by c (sv M s)) ∧ d_opn c = 1 then .ok (up (sv M s) t (s_num fn_any), mI M 7 0 7) else .error 11) := by
    unfold f_Steps_arithmetic_b47
    rw [ekx, eky]
    by_cases g : cK (s_by c (sv M s)) = 1
    · rw [if_pos g]
      by_cases g1 : cK (sv M s t) = 1
      · rw [if_pos g1, if_pos ⟨g, Or.inl g1⟩]
        exact b75 (Or.inl g1) g
      · rw [if_neg g1, hN.2.2.2.2.1, bd_some, l8]
        by_cases g2 : d_opn c = 12
        · rw [if_pos g2, if_pos ⟨g, Or.inr g2⟩]
          exact b75 (Or.inr g2) g
        · rw [if_neg g2, if_neg (fun z => z.2.elim g1 g2)]
          exact b115
    · rw [if_neg g, if_neg (fun z => g z.1)]
      exact b115
  by_cases g : d_opn c = 12
  · rw [if_pos g]
    by_cases g2 : d_nar c = 0
    · rw [if_pos g2, if_pos ⟨g, g2⟩]
      obtain ⟨P, b1', b2', b3'⟩ := ce_copy (M := N) (c := y) (d := x) yN a3
      rw [b1', bd_some]
      exact ⟨P, 0, rfl, done P _ _ (fr_trans fN (fr_mono b3' (fun k j z => Or.inl z))) (b2'.trans a2) (by rw [b3'.2.2.2.1 7 0 cP7]; exact e7)⟩
    · rw [if_neg g2, if_neg (fun z => g2 z.2)]
      exact b47
  · rw [if_neg g, if_neg (fun z => g z.1)]
    exact b47
end CB
