/-! PURE: both programs step by step. -/
section BT
variable {p q : Nat → Int64} {n nm : Nat} {tb : Nat → Prop} {en : Nat → Nat} {kb vb : Int32 → Int32} {F : xF} {σ : sT} {T U : tyT} {nu : Int32 → Int64} {mu : Int32 → Prop} {c w : Int64} {d i s : Nat}
theorem run_cons {k s1 N : Nat} {T1 : tyT} (h : ty_step q nm tb kb vb en T s = some (U, some s1)) (g : ty_run q nm tb kb vb en k U s1 = some (T1, N)) : ty_run q nm tb kb vb en (k + 1) T s = some (T1, N + 1) := by
  rw [ty_run, h]
  dsimp only
  rw [g]
theorem run_end {k : Nat} (h : ty_step q nm tb kb vb en T s = some (U, none)) : ty_run q nm tb kb vb en (k + 1) T s = some (U, 1) := by
  rw [ty_run, h]
theorem step_8 {g : Prop} (hu : ¬ ty_unr (q s) T) (f8 : d_fam (q s) = 8) (h : ty_rel (q s) T = some g) : ty_step q nm tb kb vb en T s = some (T, some (ic g (d_tg (q s) s) (s + 1))) := by
  unfold ty_step
  rw [if_neg hu, if_pos f8, h]
theorem step_d (hu : ¬ ty_unr (q s) T) (f8 : ¬ d_fam (q s) = 8) (f10 : ¬ d_fam (q s) = 10) (h : ty_do (q s) (q (s + 1)) nm tb kb vb en T = some U) : ty_step q nm tb kb vb en T s = some (U, some (x_nx q s)) := by
  unfold ty_step
  rw [if_neg hu, if_neg f8, h]
  dsimp only
  rw [if_neg f10]
theorem step_e (hu : ¬ ty_unr (q s) T) (f10 : d_fam (q s) = 10) (h : ty_do (q s) (q (s + 1)) nm tb kb vb en T = some U) : ty_step q nm tb kb vb en T s = some (U, none) := by
  unfold ty_step
  rw [if_neg hu, if_neg (by rw [f10]; decide), h]
  dsimp only
  rw [if_pos f10]
theorem do_7 (f7 : d_fam c = 7) : ty_do c w nm tb kb vb en T = some T := by
  unfold ty_do
  rw [f7, if_neg (by decide), if_neg (by decide), if_pos rfl]
theorem do_w {w2 : Int64} (f1 : ¬ d_fam c = 1) : ty_do c w nm tb kb vb en T = ty_do c w2 nm tb kb vb en T := by
  unfold ty_do
  rw [if_neg f1, if_neg f1]
theorem step_both (hp : pF p n (f_sec p) nm) (hm : mpz nm kb vb en) (hq : ∀ t, t < n → z_S p F n t → q (z_np p F n t) = z_wd p F n t) {k : Nat} (hs : Sf p n (f_sec p) nm kb vb F (k + 1) σ s) (h : gam nm en σ T nu mu) (hZ : uZ (tyW T) ≤ 2000) : (∃ T1, ty_step p nm tb kb vb en T s = some (T1, none) ∧ z_S p F n s ∧ ty_step q nm tb kb vb en T (z_np p F n s) = some (T1, none) ∧ (tyC T1 0).1 = 1 ∧ uZ (tyW T1) = uZ (tyW T)) ∨ (∃ T1 s1, ty_step p nm tb kb vb en T s = some (T1, some s1) ∧ ((z_S p F n s ∧ ty_step q nm tb kb vb en T (z_np p F n s) = some (T1, some (z_np p F n s1))) ∨ (T1 = T ∧ z_np p F n s1 = z_np p F n s)) ∧ uZ (tyW T1) = uZ (tyW T) ∧ ∃ θ nu2 mu2, Sf p n (f_sec p) nm kb vb F k θ s1 ∧ gam nm en θ T1 nu2 mu2) := by
  obtain ⟨s1, s2, s3, s4, s5, s6⟩ := step_ok (tb := tb) hp hm hs h hZ
  obtain ⟨k0, k1, k2, k3, k4, k5, k6⟩ := hp.2.2.2 s s1 s2
  have hn : n ≤ 2000 := hp.1
  have hsee : z_see p F s = F.1 s := ic_f s2
  have np1 : z_np p F n s < 2001 := by have := np_le (p := p) (F := F) (n := n) (s := s); omega
  by_cases f8 : d_fam (p s) = 8
  · obtain ⟨g, g1, g2, g3⟩ := s5 f8
    have tz : ∀ {b : Int64}, d_off b = d_off (p s) → z_bc p F s = b → z_t p F s = d_tg (p s) s := by
      intro b e1 e2
      unfold z_t d_tg
      rw [e2, e1]
    have tgn := k4 (Or.inr f8)
    have np2 : z_np p F n (d_tg (p s) s) < 2001 := by have := np_le (p := p) (F := F) (n := n) (s := d_tg (p s) s); omega
    have hstep := step_8 (nm := nm) (tb := tb) (kb := kb) (vb := vb) (en := en) s4 f8 g1
    right
    by_cases wf : F.2.1 s ∧ ¬ F.2.2.1 s
    · -- it always goes
      have hg : g := Classical.byContradiction (fun z => wf.2 (g3 z).1)
      have hb : z_bc p F s = 5 ||| (p s &&& 4294901760) := ic_t ⟨s2, f8, wf.1, wf.2⟩
      have ht := tz jmp_off hb
      rw [ic_t hg] at hstep
      refine ⟨T, d_tg (p s) s, hstep, ?_, rfl, (g2 hg).2⟩
      by_cases K : z_S p F n s
      · left
        have hw : q (z_np p F n s) = z_off (5 ||| (p s &&& 4294901760)) (nI (z_np p F n (d_tg (p s) s)) - nI (z_np p F n s) - 1) := by
          rw [hq s s1 K]
          unfold z_wd
          rw [ic_t ⟨s2, Or.inl (by rw [hb]; exact jmp_fam)⟩, ht, hb]
        have f7 : d_fam (q (z_np p F n s)) = 7 := by rw [hw, zo_fam, jmp_fam]
        have st := step_d (q := q) (nm := nm) (tb := tb) (kb := kb) (vb := vb) (en := en) (T := T) (s := z_np p F n s) (by rw [hw, zo_unr]; exact jmp_un) (by rw [f7]; decide) (by rw [f7]; decide) (do_7 f7)
        refine ⟨K, ?_⟩
        rw [st]
        unfold x_nx
        rw [if_pos f7, hw, zo_tg np1 np2]
      · right
        refine ⟨rfl, ?_⟩
        rw [z_S_iff hp s1] at K
        have st : z_st p F s := ⟨by rw [hsee]; exact s3, fun z => z.2.2.2 wf.1⟩
        have nx : z_j p F s ∧ s < z_t p F s ∧ ∀ t, s < t → t < z_t p F s → t < n → ¬ z_S p F n t := Classical.byContradiction (fun z => K ⟨st, z⟩)
        have K2 : ¬ z_S p F n s := by rw [z_S_iff hp s1]; exact K
        rw [ht] at nx
        refine np_skip (fun r a b => ?_) (by omega)
        by_cases e : r = s
        · rw [e]; exact K2
        · exact nx.2.2 r (by omega) b (by omega)
    · have hb : z_bc p F s = p s := by
        unfold z_bc
        rw [ic_f (fun z => wf z.2.2), ic_f (fun z => absurd (f8.symm.trans z.2.1) (by decide))]
      have ht := tz rfl hb
      by_cases K : z_S p F n s
      · have hw : q (z_np p F n s) = z_off (p s) (nI (z_np p F n (d_tg (p s) s)) - nI (z_np p F n s) - 1) := by
          rw [hq s s1 K]
          unfold z_wd
          rw [ic_t ⟨s2, Or.inr (by rw [hb]; exact f8)⟩, ht, hb]
        have st := step_8 (q := q) (nm := nm) (tb := tb) (kb := kb) (vb := vb) (en := en) (T := T) (s := z_np p F n s) (g := g) (by rw [hw, zo_unr]; exact s4) (by rw [hw, zo_fam]; exact f8) (by rw [hw, zo_rel]; exact g1)
        by_cases hg : g
        · rw [ic_t hg] at hstep st
          refine ⟨T, d_tg (p s) s, hstep, Or.inl ⟨K, ?_⟩, rfl, (g2 hg).2⟩
          rw [st, hw, zo_tg np1 np2]
        · rw [ic_f hg] at hstep st
          refine ⟨T, s + 1, hstep, Or.inl ⟨K, ?_⟩, rfl, (g3 hg).2⟩
          rw [st, np_s K]
      · have K2 := K
        rw [z_S_iff hp s1] at K
        have nj : ¬ z_j p F s := fun z => by
          have := z.2
          rw [hb, f8] at this
          exact absurd this (by decide)
        have ff : F.2.2.1 s ∧ ¬ F.2.1 s := by
          by_cases z : z_st p F s
          · exact absurd ⟨z, fun y => nj y.1⟩ K
          · refine Classical.byContradiction (fun y => z ⟨by rw [hsee]; exact s3, fun x => y ⟨x.2.2.1, x.2.2.2⟩⟩)
        have hg : ¬ g := fun z => ff.2 (g2 z).1
        rw [ic_f hg] at hstep
        exact ⟨T, s + 1, hstep, Or.inr ⟨rfl, np_n K2⟩, rfl, (g3 hg).2⟩
  · obtain ⟨T1, t1, t2, t3, t4, t5⟩ := s6 f8
    have nst : z_st p F s := ⟨by rw [hsee]; exact s3, fun z => f8 z.2.1⟩
    by_cases f10 : d_fam (p s) = 10
    · left
      have hb : z_bc p F s = p s := by
        unfold z_bc
        rw [ic_f (fun z => f8 z.2.1), ic_f (fun z => absurd (f10.symm.trans z.2.1) (by decide))]
      have K : z_S p F n s := by
        rw [z_S_iff hp s1]
        refine ⟨nst, fun z => ?_⟩
        have := z.1.2
        rw [hb, f10] at this
        exact absurd this (by decide)
      have hw : q (z_np p F n s) = p s := by
        rw [hq s s1 K]
        unfold z_wd
        rw [hb, ic_f (fun z => z.2.elim (fun y => absurd (f10.symm.trans y) (by decide)) (fun y => f8 y))]
      refine ⟨T1, step_e s4 f10 t1, K, ?_, t4 f10, t2⟩
      refine step_e (by rw [hw]; exact s4) (by rw [hw]; exact f10) ?_
      rw [hw, do_w (w2 := p (s + 1)) (by rw [f10]; decide)]
      exact t1
    right
    have hstep := step_d s4 f8 f10 t1
    refine ⟨T1, x_nx p s, hstep, ?_, t2, t5 f10⟩
    by_cases f7 : d_fam (p s) = 7
    · have eT : T1 = T := by
        rw [do_7 f7] at t1
        exact (Option.some.inj t1).symm
      have hb : z_bc p F s = p s := by
        unfold z_bc
        rw [ic_f (fun z => f8 z.2.1), ic_f (fun z => absurd (f7.symm.trans z.2.1) (by decide))]
      have ht : z_t p F s = d_tg (p s) s := by
        unfold z_t d_tg
        rw [hb]
      have tgn := k4 (Or.inl f7)
      have np2 : z_np p F n (d_tg (p s) s) < 2001 := by have := np_le (p := p) (F := F) (n := n) (s := d_tg (p s) s); omega
      have nx : x_nx p s = d_tg (p s) s := if_pos f7
      by_cases K : z_S p F n s
      · left
        have hw : q (z_np p F n s) = z_off (p s) (nI (z_np p F n (d_tg (p s) s)) - nI (z_np p F n s) - 1) := by
          rw [hq s s1 K]
          unfold z_wd
          rw [ic_t ⟨s2, Or.inl (by rw [hb]; exact f7)⟩, ht, hb]
        have g7 : d_fam (q (z_np p F n s)) = 7 := by rw [hw, zo_fam, f7]
        refine ⟨K, ?_⟩
        rw [step_d (q := q) (nm := nm) (tb := tb) (kb := kb) (vb := vb) (en := en) (T := T) (s := z_np p F n s) (by rw [hw, zo_unr]; exact s4) (by rw [g7]; decide) (by rw [g7]; decide) (do_7 g7), eT, nx]
        unfold x_nx
        rw [if_pos g7, hw, zo_tg np1 np2]
      · right
        refine ⟨eT, ?_⟩
        have K2 := K
        rw [z_S_iff hp s1] at K
        have nx2 : z_j p F s ∧ s < z_t p F s ∧ ∀ t, s < t → t < z_t p F s → t < n → ¬ z_S p F n t := Classical.byContradiction (fun z => K ⟨nst, z⟩)
        rw [ht] at nx2
        rw [nx]
        refine np_skip (fun r a b => ?_) (by omega)
        by_cases e : r = s
        · rw [e]; exact K2
        · exact nx2.2.2 r (by omega) b (by omega)
    -- what stays
    left
    have n7 : ¬ (d_fam (z_bc p F s) = 7 ∨ d_fam (z_bc p F s) = 8) := fun z => ((bc_78 z).1).elim f7 f8
    have K : z_S p F n s := by
      rw [z_S_iff hp s1]
      exact ⟨nst, fun z => n7 (Or.inl z.1.2)⟩
    have hw : q (z_np p F n s) = z_bc p F s := by
      rw [hq s s1 K]
      unfold z_wd
      rw [ic_f (fun z => n7 z.2)]
    refine ⟨K, ?_⟩
    by_cases mv : d_fam (p s) = 6 ∧ F.2.2.2.1 s = 1 ∧ F.2.2.2.2 s = (F.2.2.2.2 s).toInt32.toInt64
    · have hb : z_bc p F s = z_mv (p s) (F.2.2.2.2 s) := by
        unfold z_bc
        rw [ic_f (fun z => f8 z.2.1), ic_t ⟨s2, mv⟩]
      rw [hb] at hw
      have e6 : d_fam (q (z_np p F n s)) = 6 := by rw [hw, mv_fam]
      have un : ¬ ty_unr (q (z_np p F n s)) T := by
        obtain ⟨_, _, a3, a4⟩ := mv_kd (c := p s) (x := F.2.2.2.2 s)
        rw [hw]
        rintro (z | z)
        · exact z.1 a4
        · exact z.1 a3
      have nx : x_nx p s = s + 1 := by
        unfold x_nx
        rw [if_neg f7, if_neg (by rw [mv.1]; decide)]
      have eq : T1 = ty_set T (d_ti (p s)) (ty_n (F.2.2.2.2 s)) := by
        have t1' := t1
        unfold ty_do at t1'
        rw [if_neg (by rw [mv.1]; decide), if_pos mv.1] at t1'
        obtain ⟨t, et⟩ := ari_form t1'
        have := t3 mv.1 mv.2.1
        rw [et] at this
        have e2 : t = ty_n (F.2.2.2.2 s) := by
          have e3 : fup (tyC T) (d_ti (p s)) t (d_ti (p s)) = t := fup_s
          rw [← e3]
          exact this
        rw [et, e2]
      rw [step_d (q := q) (nm := nm) (tb := tb) (kb := kb) (vb := vb) (en := en) (T := T) (U := T1) (s := z_np p F n s) un (by rw [e6]; decide) (by rw [e6]; decide) (by rw [hw, mv_do _ mv.2.2, eq]), nx, np_s K]
      unfold x_nx
      rw [if_neg (by rw [e6]; decide), if_neg (by rw [e6]; decide)]
    · have hb : z_bc p F s = p s := by
        unfold z_bc
        rw [ic_f (fun z => f8 z.2.1), ic_f (fun z => mv z.2)]
      rw [hb] at hw
      by_cases f1 : d_fam (p s) = 1
      · obtain ⟨sc1, sc2⟩ := sec_2 s2 f1
        have s1' : s + 1 < n := by have := (k3 f1).1; omega
        have hb1 : z_bc p F (s + 1) = p (s + 1) := by
          unfold z_bc
          rw [ic_f (fun z => z.1 sc1), ic_f (fun z => z.1 sc1)]
        have K1 : z_S p F n (s + 1) := by
          rw [z_S_iff hp s1']
          refine ⟨⟨?_, fun z => z.1 sc1⟩, fun z => z.1.1 sc1⟩
          unfold z_see
          rw [ic_t sc1]
          exact s3
        have hw1 : q (z_np p F n s + 1) = p (s + 1) := by
          rw [← np_s K, hq (s + 1) s1' K1]
          unfold z_wd
          rw [ic_f (fun z => z.1 sc1), hb1]
        have nx : x_nx p s = s + 2 := by
          unfold x_nx
          rw [if_neg f7, if_pos f1]
        rw [step_d (q := q) (nm := nm) (tb := tb) (kb := kb) (vb := vb) (en := en) (T := T) (U := T1) (s := z_np p F n s) (by rw [hw]; exact s4) (by rw [hw]; exact f8) (by rw [hw]; exact f10) (by rw [hw, hw1]; exact t1), nx]
        unfold x_nx
        rw [hw, if_neg f7, if_pos f1, show s + 2 = s + 1 + 1 from rfl, np_s K1, np_s K]
      · have nx : x_nx p s = s + 1 := by
          unfold x_nx
          rw [if_neg f7, if_neg f1]
        rw [step_d (q := q) (nm := nm) (tb := tb) (kb := kb) (vb := vb) (en := en) (T := T) (U := T1) (s := z_np p F n s) (by rw [hw]; exact s4) (by rw [hw]; exact f8) (by rw [hw]; exact f10) (by rw [hw, do_w (w2 := p (s + 1)) f1]; exact t1), nx]
        unfold x_nx
        rw [hw, if_neg f7, if_neg f1, np_s K]
end BT
