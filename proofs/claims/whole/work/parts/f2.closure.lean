/-! PURE: exploring goes everywhere: what was accepted is safe, for so many steps. -/
def x_nx (p : Nat → Int64) (s : Nat) : Nat := if d_fam (p s) = 7 then d_tg (p s) s else if d_fam (p s) = 1 then s + 2 else s + 1
/-- safe for k steps, and the facts F tell it -/
def Sf (p : Nat → Int64) (n : Nat) (sec : Nat → Prop) (nm : Nat) (kb vb : Int32 → Int32) (F : xF) : Nat → sT → Nat → Prop
  | 0, _, _ => False
  | k + 1, σ, s => s < n ∧ ¬ sec s ∧ s_gd nm σ ∧ 0 < F.1 s ∧ ¬ s_unr (p s) σ ∧ ∃ d, d ≤ 20000 ∧ s_fr d σ ∧ (d_fam (p s) = 8 → ∃ q, s_rel (p s) σ = .ok q ∧ (∀ a, q.1 = some a → F.2.1 s ∧ ∃ τ, (τ = a ∨ s_in τ a) ∧ Sf p n sec nm kb vb F k τ (d_tg (p s) s)) ∧ (∀ b, q.2 = some b → F.2.2.1 s ∧ ∃ τ, (τ = b ∨ s_in τ b) ∧ Sf p n sec nm kb vb F k τ (s + 1))) ∧ (¬ d_fam (p s) = 8 → ∃ q, s_do (p s) (p (s + 1)) kb vb σ (nI d) = .ok q ∧ (d_fam (p s) = 6 → F.2.2.2.1 s = 1 → cK (q.1 (d_ti (p s))) = 1 ∧ (cX (q.1 (d_ti (p s)))).2.1 = 0 ∧ (cX (q.1 (d_ti (p s)))).1 = F.2.2.2.2 s) ∧ (¬ d_fam (p s) = 10 → ∃ τ, (τ = q.1 ∨ s_in τ q.1) ∧ Sf p n sec nm kb vb F k τ (x_nx p s)))
def Cv (p : Nat → Int64) (n : Nat) (sec : Nat → Prop) (nm : Nat) (kb vb : Int32 → Int32) (F : xF) (k : Nat) (σ : sT) (s : Nat) : Prop := ∃ τ, (τ = σ ∨ s_in τ σ) ∧ Sf p n sec nm kb vb F k τ s
/-- facts grow -/
def fle (F G : xF) : Prop := ∀ s, (0 < F.1 s → 0 < G.1 s) ∧ (F.2.1 s → G.2.1 s) ∧ (F.2.2.1 s → G.2.2.1 s) ∧ (¬ F.2.2.2.1 s = 0 → ¬ G.2.2.2.1 s = 0 ∧ (G.2.2.2.1 s = 1 → F.2.2.2.1 s = 1 ∧ F.2.2.2.2 s = G.2.2.2.2 s))
theorem fle_refl {F : xF} : fle F F := fun _ => ⟨id, id, id, fun z => ⟨z, fun y => ⟨y, rfl⟩⟩⟩
theorem fle_trans {F G H : xF} (h : fle F G) (g : fle G H) : fle F H := by
  intro s
  obtain ⟨h1, h2, h3, h4⟩ := h s
  obtain ⟨g1, g2, g3, g4⟩ := g s
  refine ⟨fun z => g1 (h1 z), fun z => g2 (h2 z), fun z => g3 (h3 z), fun z => ?_⟩
  obtain ⟨a1, a2⟩ := h4 z
  obtain ⟨b1, b2⟩ := g4 a1
  refine ⟨b1, fun y => ?_⟩
  obtain ⟨c1, c2⟩ := b2 y
  obtain ⟨e1, e2⟩ := a2 c1
  exact ⟨e1, e2.trans c2⟩
theorem vis_pos {F : xF} {s c : Nat} (h : F.1 s = nI c) (hc : c ≤ 20000) : 0 < (f_vis F s).1 s := by
  show 0 < fup F.1 s (F.1 s + 1) s
  rw [fup_s, h, nI_s c, show (0 : Int32) = nI 0 from rfl]
  exact (nI_lti (by decide) (by omega)).mpr (by omega)
theorem fle_vis {F : xF} {s c : Nat} (h : F.1 s = nI c) (hc : c ≤ 20000) : fle F (f_vis F s) := by
  intro t
  refine ⟨fun z => ?_, id, id, fun z => ⟨z, fun y => ⟨y, rfl⟩⟩⟩
  by_cases e : t = s
  · rw [e]; exact vis_pos h hc
  · show 0 < fup F.1 s (F.1 s + 1) t
    rw [fup_o e]; exact z
theorem fle_way {F : xF} {s : Nat} {g l : Prop} : fle F (f_way F s g l) := by
  intro t
  refine ⟨id, fun z => ?_, fun z => ?_, fun z => ⟨z, fun y => ⟨y, rfl⟩⟩⟩
  · show fup F.2.1 s (F.2.1 s ∨ g) t
    by_cases e : t = s
    · rw [e, fup_s]; rw [e] at z; exact Or.inl z
    · rw [fup_o e]; exact z
  · show fup F.2.2.1 s (F.2.2.1 s ∨ l) t
    by_cases e : t = s
    · rw [e, fup_s]; rw [e] at z; exact Or.inl z
    · rw [fup_o e]; exact z
theorem fle_rck {F : xF} {s : Nat} {x : sC} : fle F (f_rck F s x) := by
  intro t
  refine ⟨id, id, id, fun z => ?_⟩
  show ¬ fup F.2.2.2.1 s _ t = 0 ∧ (fup F.2.2.2.1 s _ t = 1 → F.2.2.2.1 t = 1 ∧ F.2.2.2.2 t = fup F.2.2.2.2 s _ t)
  by_cases e : t = s
  · rw [e, fup_s, fup_s]
    rw [e] at z
    by_cases g : cK x = 1 ∧ (cX x).2.1 = 0 ∧ (F.2.2.2.1 s = 0 ∨ F.2.2.2.1 s = 1 ∧ F.2.2.2.2 s = (cX x).1)
    · rw [ic_t g]
      refine ⟨by decide, fun _ => ?_⟩
      rcases g.2.2 with y | y
      · exact absurd y z
      · exact y
    · rw [ic_f g]
      exact ⟨by decide, fun y => absurd y (by decide)⟩
  · rw [fup_o e, fup_o e]
    exact ⟨z, fun y => ⟨y, rfl⟩⟩
theorem rck_ok {F G : xF} {s : Nat} {x : sC} (h : fle (f_rck F s x) G) (g : G.2.2.2.1 s = 1) : cK x = 1 ∧ (cX x).2.1 = 0 ∧ (cX x).1 = G.2.2.2.2 s := by
  have e1 : (f_rck F s x).2.2.2.1 s = ic (cK x = 1 ∧ (cX x).2.1 = 0 ∧ (F.2.2.2.1 s = 0 ∨ F.2.2.2.1 s = 1 ∧ F.2.2.2.2 s = (cX x).1)) 1 2 := fup_s
  have e2 : (f_rck F s x).2.2.2.2 s = (cX x).1 := fup_s
  by_cases c : cK x = 1 ∧ (cX x).2.1 = 0 ∧ (F.2.2.2.1 s = 0 ∨ F.2.2.2.1 s = 1 ∧ F.2.2.2.2 s = (cX x).1)
  · have e3 := e1
    rw [ic_t c] at e3
    obtain ⟨_, y⟩ := (h s).2.2.2 (by rw [e3]; decide)
    rw [← (y g).2, e2]
    exact ⟨c.1, c.2.1, rfl⟩
  · rw [ic_f c] at e1
    obtain ⟨_, y⟩ := (h s).2.2.2 (by rw [e1]; decide)
    have := (y g).1
    rw [e1] at this
    exact absurd this (by decide)
/-- what a turn leaves so -/
def x_J (n : Nat) (sec : Nat → Prop) (nm B : Nat) (X : xT) : Prop := x_ok n sec nm B X ∧ (∃ d, d ≤ xVi X ∧ xIds X = nI d ∧ s_fr d (xNow X) ∧ ∀ i, i < xWn X → s_fr d (xWt X i).1) ∧ (∀ i, i < xKn X → (xKp X i).2.2.1 → (xKp X i).2.2.2 ≤ xWn X) ∧ ∀ s, ∃ c, c ≤ xVi X ∧ (xFa X).1 s = nI c
def x_W (X : xT) (σ : sT) (a : Nat) (d : Int32) (F : xF) : xT := (σ, a, d, xKn X, xKp X, xWn X, xWt X, xVi X + 1, xMw X, xPa X, F)
/-- a stretch of exploring, to where the states that waited at its beginning come up -/
def x_En (X X' : xT) : Prop := xKn X ≤ xKn X' ∧ (∀ i, i < xKn X → (xKp X' i).1 = (xKp X i).1 ∧ (xKp X' i).2.1 = (xKp X i).2.1 ∧ ((xKp X' i).2.2.1 ↔ (xKp X i).2.2.1 ∧ (xKp X i).2.2.2 < xWn X) ∧ (xKp X' i).2.2.2 = (xKp X i).2.2.2) ∧ (0 < xWn X → xWn X' = xWn X - 1 ∧ xNow X' = (xWt X (xWn X - 1)).1 ∧ xAt X' = (xWt X (xWn X - 1)).2 ∧ ∀ j, j < xWn X - 1 → xWt X' j = xWt X j)
def x_Cl (p : Nat → Int64) (n : Nat) (sec : Nat → Prop) (nm : Nat) (kb vb : Int32 → Int32) (F : xF) (D : Nat) (X : xT) : Prop := ∀ i, i < xKn X → ¬ (xKp X i).2.2.1 → Sf p n sec nm kb vb F D (xKp X i).1 (xKp X i).2.1
def x_Nw (p : Nat → Int64) (n : Nat) (sec : Nat → Prop) (nm : Nat) (kb vb : Int32 → Int32) (F : xF) (D : Nat) (X X' : xT) : Prop := ∀ i, xKn X ≤ i → i < xKn X' → ¬ (xKp X' i).2.2.1 ∧ Sf p n sec nm kb vb F D (xKp X' i).1 (xKp X' i).2.1
section CL
variable {p : Nat → Int64} {n nm B : Nat} {sec mk : Nat → Prop} {kb vb : Int32 → Int32} {X X' : xT} {F : xF} {σ : sT} {s : Nat}
theorem Sf_s : ∀ (k : Nat) (σ : sT) (s : Nat), Sf p n sec nm kb vb F k σ s → Sf p n sec nm kb vb F (k + 1) σ s := by
  intro k
  induction k with
  | zero => intro σ s h; exact h.elim
  | succ k ih =>
    rintro σ s ⟨a1, a2, a3, a4, a5, d, d1, d2, d3, d4⟩
    refine ⟨a1, a2, a3, a4, a5, d, d1, d2, fun f => ?_, fun f => ?_⟩
    · obtain ⟨q, q1, q2, q3⟩ := d3 f
      refine ⟨q, q1, fun a ha => ⟨(q2 a ha).1, ?_⟩, fun b hb => ⟨(q3 b hb).1, ?_⟩⟩
      · obtain ⟨τ, t1, t2⟩ := (q2 a ha).2
        exact ⟨τ, t1, ih _ _ t2⟩
      · obtain ⟨τ, t1, t2⟩ := (q3 b hb).2
        exact ⟨τ, t1, ih _ _ t2⟩
    · obtain ⟨q, q1, q2, q3⟩ := d4 f
      refine ⟨q, q1, q2, fun g => ?_⟩
      obtain ⟨τ, t1, t2⟩ := q3 g
      exact ⟨τ, t1, ih _ _ t2⟩
theorem Sf_le {k l : Nat} (h : k ≤ l) (g : Sf p n sec nm kb vb F k σ s) : Sf p n sec nm kb vb F l σ s := by
  induction l with
  | zero => rw [show k = 0 by omega] at g; exact g
  | succ l ih =>
    by_cases e : k = l + 1
    · rw [← e]; exact g
    · exact Sf_s _ _ _ (ih (by omega))
theorem Cv_le {k l : Nat} (h : k ≤ l) (g : Cv p n sec nm kb vb F k σ s) : Cv p n sec nm kb vb F l σ s := by
  obtain ⟨τ, t1, t2⟩ := g
  exact ⟨τ, t1, Sf_le h t2⟩
theorem fst_some {P : Nat → Prop} : ∀ (n y i : Nat), x_fst P n y = some i → P i ∧ i < y + n := by
  intro n
  induction n with
  | zero => intro y i h; exact absurd h (by simp [x_fst])
  | succ n ih =>
    intro y i h
    rw [x_fst] at h
    by_cases g : P y
    · rw [ic_t g] at h
      have := Option.some.inj h
      rw [← this]
      exact ⟨g, by omega⟩
    · rw [ic_f g] at h
      obtain ⟨a, b⟩ := ih _ _ h
      exact ⟨a, by omega⟩
/-- the ways on from a step -/
theorem step_cases (hp : pF p n sec nm) (hB : B ≤ 20000) (h : x_J n sec nm B X) {r : Int32 × xT} (hr : x_step p kb vb B X = r) (h0 : r.1 = 0 ∨ r.1 = -1) : xVi X + 1 ≤ B ∧ ∃ F1 d1, d1 ≤ xVi X + 1 ∧ (∀ i, i < xWn X → s_fr d1 (xWt X i).1) ∧ fle (xFa X) F1 ∧ (∀ s, ∃ c, c ≤ xVi X + 1 ∧ F1.1 s = nI c) ∧ ((∃ σ, r = x_end (x_W X σ (xAt X) (nI d1) F1) ∧ s_gd nm σ ∧ s_fr d1 σ ∧ ∀ F k, fle F1 F → Sf p n sec nm kb vb F (k + 1) (xNow X) (xAt X)) ∨ (∃ σ a, r = (0, x_W X σ a (nI d1) F1) ∧ s_gd nm σ ∧ s_fr d1 σ ∧ a < n ∧ ¬ sec a ∧ ∀ F k, fle F1 F → Cv p n sec nm kb vb F k σ a → Sf p n sec nm kb vb F (k + 1) (xNow X) (xAt X)) ∨ (∃ σ a τ b, r = (0, x_mv (x_push (x_W X (xNow X) (xAt X) (nI d1) F1) τ b) σ a (nI d1)) ∧ ¬ xWn X = 200 ∧ s_gd nm σ ∧ s_fr d1 σ ∧ a < n ∧ ¬ sec a ∧ s_gd nm τ ∧ s_fr d1 τ ∧ b < n ∧ ¬ sec b ∧ ∀ F k, fle F1 F → Cv p n sec nm kb vb F k σ a → Cv p n sec nm kb vb F k τ b → Sf p n sec nm kb vb F (k + 1) (xNow X) (xAt X))) := by
  obtain ⟨ok, ⟨d, dv, di, dn, dw⟩, hop, hvi⟩ := h
  unfold x_step at hr
  by_cases g : B ≤ xVi X
  · rw [if_pos g] at hr
    rw [← hr] at h0
    rcases h0 with z | z
    · exact absurd (show (20 : Int32) = 0 from z) (by decide)
    · exact absurd (show (20 : Int32) = -1 from z) (by decide)
  rw [if_neg g] at hr
  refine ⟨by omega, ?_⟩
  have d20 : d ≤ 20000 := by omega
  obtain ⟨c0, c01, c02⟩ := hvi (xAt X)
  have vp : 0 < (f_vis (xFa X) (xAt X)).1 (xAt X) := vis_pos c02 (by omega)
  have vl : fle (xFa X) (f_vis (xFa X) (xAt X)) := fle_vis c02 (by omega)
  have vc : ∀ s, ∃ c, c ≤ xVi X + 1 ∧ (f_vis (xFa X) (xAt X)).1 s = nI c := by
    intro s
    by_cases e : s = xAt X
    · refine ⟨c0 + 1, by omega, ?_⟩
      rw [e]
      show fup (xFa X).1 (xAt X) ((xFa X).1 (xAt X) + 1) (xAt X) = nI (c0 + 1)
      rw [fup_s, c02]
      exact nI_s c0
    · obtain ⟨c, c1, c2⟩ := hvi s
      refine ⟨c, by omega, ?_⟩
      show fup (xFa X).1 (xAt X) ((xFa X).1 (xAt X) + 1) s = nI c
      rw [fup_o e]
      exact c2
  obtain ⟨k0, k1, k2, k3, k4, k5, k6⟩ := hp.2.2.2 (xAt X) ok.1 ok.2.1
  unfold x_do at hr
  have hr2 : ic (s_unr (p (xAt X)) (xNow X)) (10, x_vis X) (if d_fam (p (xAt X)) = 8 then (match s_rel (p (xAt X)) (xNow X) with
      | .error f => (f, x_vis X)
      | .ok q => x_part (x_fac (x_vis X) (f_way (f_vis (xFa X) (xAt X)) (xAt X) (q.1.isSome = true) (q.2.isSome = true))) (p (xAt X)) q.1 q.2)
    else (match s_do (p (xAt X)) (p (xAt X + 1)) kb vb (xNow X) (xIds X) with
      | .error f => (f, x_vis X)
      | .ok q => x_go (x_vis X) (p (xAt X)) q.1 q.2)) = r := hr
  clear hr
  have bad : ∀ {f : Int32} {Z : xT}, (f, Z) = r → 0 < f → False := by
    intro f Z e pf
    rw [← e] at h0
    rcases h0 with z | z
    · exact pos_n0 pf z
    · rw [show f = -1 from z] at pf
      exact absurd pf (by decide)
  by_cases u : s_unr (p (xAt X)) (xNow X)
  · rw [ic_t u] at hr2
    exact (bad hr2 (by decide)).elim
  rw [ic_f u] at hr2
  by_cases f8 : d_fam (p (xAt X)) = 8
  · rw [if_pos f8] at hr2
    have e := rel_eP (c := p (xAt X)) (σ := xNow X)
    have gd := rel_gd (nm := nm) (c := p (xAt X)) ok.2.2.1
    have fr := rel_fr (c := p (xAt X)) dn k1 k2
    cases o : s_rel (p (xAt X)) (xNow X) with
    | error f =>
      rw [o] at e hr2
      exact (bad hr2 e).elim
    | ok q =>
      rw [o] at gd fr hr2
      have gd1 : gdO nm q.1 := gd.1
      have gd2 : gdO nm q.2 := gd.2
      have fr1 : frO d q.1 := fr.1
      have fr2 : frO d q.2 := fr.2
      obtain ⟨F1, hF1⟩ : ∃ F1, F1 = f_way (f_vis (xFa X) (xAt X)) (xAt X) (q.1.isSome = true) (q.2.isSome = true) := ⟨_, rfl⟩
      have l1 : fle (f_vis (xFa X) (xAt X)) F1 := by rw [hF1]; exact fle_way
      have w1 : q.1.isSome = true → F1.2.1 (xAt X) := fun z => by
        rw [hF1]
        show fup _ (xAt X) _ (xAt X)
        rw [fup_s]
        exact Or.inr z
      have w2 : q.2.isSome = true → F1.2.2.1 (xAt X) := fun z => by
        rw [hF1]
        show fup _ (xAt X) _ (xAt X)
        rw [fup_s]
        exact Or.inr z
      have hv : ∀ s, ∃ c, c ≤ xVi X + 1 ∧ F1.1 s = nI c := by rw [hF1]; exact vc
      have tg := k4 (Or.inr f8)
      have nx := k5 (by rw [f8]; decide) (by rw [f8]; decide) (by rw [f8]; decide)
      have sf : ∀ F k, fle F1 F → (∀ a, q.1 = some a → Cv p n sec nm kb vb F k a (d_tg (p (xAt X)) (xAt X))) → (∀ b, q.2 = some b → Cv p n sec nm kb vb F k b (xAt X + 1)) → Sf p n sec nm kb vb F (k + 1) (xNow X) (xAt X) := by
        intro F k hF ha hb
        refine ⟨ok.1, ok.2.1, ok.2.2.1, ((fle_trans l1 hF) (xAt X)).1 vp, u, d, d20, dn, fun _ => ⟨q, o, fun a e => ⟨?_, ha a e⟩, fun b e => ⟨?_, hb b e⟩⟩, fun z => absurd f8 z⟩
        · exact (hF (xAt X)).2.1 (w1 (by rw [e]; rfl))
        · exact (hF (xAt X)).2.2.1 (w2 (by rw [e]; rfl))
      have hr2' : x_part (x_fac (x_vis X) F1) (p (xAt X)) q.1 q.2 = r := by rw [hF1]; exact hr2
      clear hF1 hr2
      refine ⟨F1, d, by omega, dw, fle_trans vl l1, hv, ?_⟩
      have hr3 : x_part (x_W X (xNow X) (xAt X) (nI d) F1) (p (xAt X)) q.1 q.2 = r := by
        rw [← hr2', ← di]
        rfl
      clear hr2'
      obtain ⟨q1, q2⟩ := q
      cases q1 with
      | none =>
        cases q2 with
        | none => exact Or.inl ⟨xNow X, hr3.symm, ok.2.2.1, dn, fun F k hF => sf F k hF (fun a z => absurd z (by simp)) (fun a z => absurd z (by simp))⟩
        | some b => exact Or.inr (Or.inl ⟨b, xAt X + 1, hr3.symm, gd2 b rfl, fr2 b rfl, nx.1, nx.2, fun F k hF hc => sf F k hF (fun a z => absurd z (by simp)) (fun b' z => by rw [← Option.some.inj z]; exact hc)⟩)
      | some a =>
        cases q2 with
        | none => exact Or.inr (Or.inl ⟨a, d_tg (p (xAt X)) (xAt X), hr3.symm, gd1 a rfl, fr1 a rfl, tg.1, tg.2.1, fun F k hF hc => sf F k hF (fun a' z => by rw [← Option.some.inj z]; exact hc) (fun b' z => absurd z (by simp))⟩)
        | some b =>
          have hr4 : (if xWn X = 200 then (21, x_W X (xNow X) (xAt X) (nI d) F1) else (0, x_mv (x_push (x_W X (xNow X) (xAt X) (nI d) F1) a (d_tg (p (xAt X)) (xAt X))) b (xAt X + 1) (nI d))) = r := hr3
          by_cases w : xWn X = 200
          · rw [if_pos w] at hr4
            exact (bad hr4 (by decide)).elim
          · rw [if_neg w] at hr4
            exact Or.inr (Or.inr ⟨b, xAt X + 1, a, d_tg (p (xAt X)) (xAt X), hr4.symm, w, gd2 b rfl, fr2 b rfl, nx.1, nx.2, gd1 a rfl, fr1 a rfl, tg.1, tg.2.1, fun F k hF hc hd => sf F k hF (fun a' z => by rw [← Option.some.inj z]; exact hd) (fun b' z => by rw [← Option.some.inj z]; exact hc)⟩)
  · rw [if_neg f8, di] at hr2
    have e := do_eP (c := p (xAt X)) (w := p (xAt X + 1)) (kb := kb) (vb := vb) (σ := xNow X) (d := nI d)
    have gd := do_gd (nm := nm) (c := p (xAt X)) (w := p (xAt X + 1)) (kb := kb) (vb := vb) (ids := nI d) ok.2.2.1 k1 k2 (fun a b => (k3 a).2.2.2 b)
    have fr := do_fr (nm := nm) (c := p (xAt X)) (w := p (xAt X + 1)) (kb := kb) (vb := vb) dn (gd_wf ok.2.2.1) k1 k2
    cases o : s_do (p (xAt X)) (p (xAt X + 1)) kb vb (xNow X) (nI d) with
    | error f =>
      rw [o] at e hr2
      exact (bad hr2 e).elim
    | ok q =>
      rw [o] at gd fr hr2
      have gd1 : s_gd nm q.1 := gd
      obtain ⟨e1, e11, e12, e13, e14⟩ := fr
      have hr3 : x_go (x_vis X) (p (xAt X)) q.1 (nI e1) = r := by rw [← hr2, ← e13]
      clear hr2
      have dw1 : ∀ i, i < xWn X → s_fr e1 (xWt X i).1 := fun i hi => s_mono (dw i hi) e11
      have sf : ∀ F k, fle (f_vis (xFa X) (xAt X)) F → (d_fam (p (xAt X)) = 6 → F.2.2.2.1 (xAt X) = 1 → cK (q.1 (d_ti (p (xAt X)))) = 1 ∧ (cX (q.1 (d_ti (p (xAt X))))).2.1 = 0 ∧ (cX (q.1 (d_ti (p (xAt X))))).1 = F.2.2.2.2 (xAt X)) → (¬ d_fam (p (xAt X)) = 10 → Cv p n sec nm kb vb F k q.1 (x_nx p (xAt X))) → Sf p n sec nm kb vb F (k + 1) (xNow X) (xAt X) := fun F k hF h6 hc => ⟨ok.1, ok.2.1, ok.2.2.1, (hF (xAt X)).1 vp, u, d, d20, dn, fun z => absurd z f8, fun _ => ⟨q, o, h6, hc⟩⟩
      unfold x_go at hr3
      by_cases f10 : d_fam (p (xAt X)) = 10
      · rw [if_pos f10] at hr3
        exact ⟨_, e1, by omega, dw1, vl, vc, Or.inl ⟨q.1, hr3.symm, gd1, e14, fun F k hF => sf F k hF (fun z => absurd (f10.symm.trans z) (by decide)) (fun z => absurd f10 z)⟩⟩
      rw [if_neg f10] at hr3
      by_cases f7 : d_fam (p (xAt X)) = 7
      · rw [if_pos f7] at hr3
        have tg := k4 (Or.inl f7)
        have nx : x_nx p (xAt X) = d_tg (p (xAt X)) (xAt X) := if_pos f7
        exact ⟨_, e1, by omega, dw1, vl, vc, Or.inr (Or.inl ⟨q.1, d_tg (p (xAt X)) (xAt X), hr3.symm, gd1, e14, tg.1, tg.2.1, fun F k hF hc => sf F k hF (fun z => absurd (f7.symm.trans z) (by decide)) (fun _ => by rw [nx]; exact hc)⟩)⟩
      rw [if_neg f7] at hr3
      by_cases f6 : d_fam (p (xAt X)) = 6
      · rw [if_pos f6] at hr3
        have n5 := k5 (by rw [f6]; decide) f7 f10
        have nx : x_nx p (xAt X) = xAt X + 1 := by
          unfold x_nx
          rw [if_neg f7, if_neg (by rw [f6]; decide)]
        exact ⟨f_rck (f_vis (xFa X) (xAt X)) (xAt X) (q.1 (d_ti (p (xAt X)))), e1, by omega, dw1, fle_trans vl fle_rck, vc, Or.inr (Or.inl ⟨q.1, xAt X + 1, hr3.symm, gd1, e14, n5.1, n5.2, fun F k hF hc => sf F k (fle_trans fle_rck hF) (fun _ z => rck_ok hF z) (fun _ => by rw [nx]; exact hc)⟩)⟩
      rw [if_neg f6] at hr3
      by_cases f1 : d_fam (p (xAt X)) = 1
      · rw [if_pos f1] at hr3
        have nx : x_nx p (xAt X) = xAt X + 2 := by
          unfold x_nx
          rw [if_neg f7, if_pos f1]
        exact ⟨_, e1, by omega, dw1, vl, vc, Or.inr (Or.inl ⟨q.1, xAt X + 2, hr3.symm, gd1, e14, (k3 f1).1, (k3 f1).2.1, fun F k hF hc => sf F k hF (fun z => absurd z f6) (fun _ => by rw [nx]; exact hc)⟩)⟩
      · rw [if_neg f1] at hr3
        have n5 := k5 f1 f7 f10
        have nx : x_nx p (xAt X) = xAt X + 1 := by
          unfold x_nx
          rw [if_neg f7, if_neg f1]
        exact ⟨_, e1, by omega, dw1, vl, vc, Or.inr (Or.inl ⟨q.1, xAt X + 1, hr3.symm, gd1, e14, n5.1, n5.2, fun F k hF hc => sf F k hF (fun z => absurd z f6) (fun _ => by rw [nx]; exact hc)⟩)⟩
end CL
